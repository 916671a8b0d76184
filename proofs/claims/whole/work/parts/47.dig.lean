section
/-! the digest -/
def it (f : Nat → Int64 → Int64) : Nat → Int64 → Int64
  | 0, h => h
  | n + 1, h => f n (it f n h)
def mx (h : Int64) (v : Int32) : Int64 := 31 * h + Int32.toInt64 v
def hf (v : Nat → Int32) : Nat → Int64 → Int64 := it (fun i h => mx h (v i))
theorem hf_s (v : Nat → Int32) (n : Nat) (h : Int64) : mx (hf v n h) (v n) = hf v (n + 1) h := rfl
theorem mix_c (h : Int64) (v : Int32) : f_X7_mix h v = some (mx h v) := rfl
theorem mix_m {st : St} {h : Int64} (hj : st.2.2.1 0 = h) (v : Int32) : f_X8_mix st (Int32.toInt64 v) = some (sJ st 0 (mx h v)) := by
  rw [f_X8_mix, lt, hj]; rfl
theorem sJ_Fr {m st : St} {v : Int64} (h : Fr m st) : Fr m (sJ st 0 v) := h
theorem sJ_0 (st : St) (v : Int64) : (sJ st 0 v).2.2.1 0 = v := rfl
theorem Fs_J {m st : St} (h : Fs m st) : st.2.2.1 0 = m.2.2.1 0 := by rw [h.2]
theorem hasw_c {nw ln : Nat} {wd : Nat → Nat → Nat} {c : St} (hW : WL nw ln wd) (hC : CL nw ln wd c) {w : Nat} (hw : w < nw) : f_X6_has c (nI w) = some 1 := by
  have hn := hW.1
  unfold f_X6_has
  rw [hC.1, if_neg (nI_pos (by omega)), ite_leN (by omega) (by omega), if_neg (by omega)]
theorem hasp_c {nw ln : Nat} {wd : Nat → Nat → Nat} {c : St} (hW : WL nw ln wd) (hC : CL nw ln wd c) {r : Nat} (hr : r < ln) : f_X6_hasPlace c (nI r) = some 1 := by
  have hn := hW.2.1
  unfold f_X6_hasPlace
  rw [hC.2.1, if_neg (nI_pos (by omega)), ite_leN (by omega) (by omega), if_neg (by omega)]
theorem sign_c {nw ln : Nat} {wd : Nat → Nat → Nat} {c : St} (hW : WL nw ln wd) (hC : CL nw ln wd c) {w i : Nat} (hw : w < nw) (hi : i < ln) : f_X7_sign c (nI w) (nI i) = some (nI (97 + wd w i)) := by
  simp only [f_X7_sign, hasw_c hW hC hw, hasp_c hW hC hi, Option.bind_some, i10, if_false, letter_c hW hC hw hi, n97, nI_add]
/-- words -/
noncomputable def hw1 (nw ln : Nat) (wd : Nat → Nat → Nat) (wt : Nat → Nat) (w : Nat) (h : Int64) : Int64 := hf (wv nw ln wd wt w) 5 (hf (fun i => nI (97 + wd w i)) ln h)
theorem mixw_c {nw ln : Nat} {wd : Nat → Nat → Nat} {wt : Nat → Nat} {c m : St} (hW : WL nw ln wd) (hC : CL nw ln wd c) (hRW : RW nw wt c m) (hF : RF nw ln wd c) (h0 : Int64) : f_X7_mixWords c h0 = some (it (hw1 nw ln wd wt) nw h0) := by
  have hn := hW.1
  have hl := hW.2.1
  have l54 : ∀ (r5 : Int64 → Int32 → Option Int64) (w : Nat) (h : Int64), w < nw → ∀ (n k : Nat), k ≤ 5 → 5 - k < n → f_X7_mixWords_L54 c r5 n (hf (wv nw ln wd wt w) k h) (nI w) (nI k) = r5 (hf (wv nw ln wd wt w) 5 h) (nI (w + 1)) := by
    intro r5 w h hw n
    induction n with
    | zero => intro k _ h; omega
    | succ n ih =>
      intro k hk hnn
      rw [f_X7_mixWords_L54, n4, ite_ltN (by omega) (by omega)]
      by_cases e : 4 < k
      · rw [if_pos e, lt, nI_1, show k = 5 by omega]
      · rw [if_neg e, word_c hW hC hRW hF hw (by omega) (hasw_c hW hC hw)]
        simp only [Option.bind_some, mix_c, lt, nI_1, hf_s]
        exact ih (k + 1) (by omega) (by omega)
  have l20 : ∀ (r5 : Int64 → Int32 → Option Int64) (w : Nat) (h : Int64), w < nw → ∀ (n k : Nat), k ≤ ln → ln - k < n → f_X7_mixWords_L20 c r5 n (hf (fun i => nI (97 + wd w i)) k h) (nI w) (nI k) = r5 (hw1 nw ln wd wt w h) (nI (w + 1)) := by
    intro r5 w h hw n
    induction n with
    | zero => intro k _ h; omega
    | succ n ih =>
      intro k hk hnn
      rw [f_X7_mixWords_L20]
      simp only [f_X6_length, Option.bind_some, hC.2.1]
      rw [ite_leN (by omega) (by omega)]
      by_cases e : ln ≤ k
      · have h9 := l54 r5 w (hf (fun i => nI (97 + wd w i)) ln h) hw FU 0 (by omega) (by have := FU_big; omega)
        rw [nI_0] at h9
        rw [if_pos e, show k = ln by omega]
        exact h9
      · rw [if_neg e, sign_c hW hC hw (by omega)]
        simp only [Option.bind_some, mix_c, lt, nI_1]
        exact ih (k + 1) (by omega) (by omega)
  have l5 : ∀ (n k : Nat), k ≤ nw → nw - k < n → f_X7_mixWords_L5 c n (it (hw1 nw ln wd wt) k h0) (nI k) = some (it (hw1 nw ln wd wt) nw h0) := by
    intro n
    induction n with
    | zero => intro k _ h; omega
    | succ n ih =>
      intro k hk hnn
      rw [f_X7_mixWords_L5]
      simp only [f_X6_size, Option.bind_some, hC.1]
      rw [ite_leN (by omega) (by omega)]
      by_cases e : nw ≤ k
      · rw [if_pos e, show k = nw by omega]
      · have h9 := l20 (f_X7_mixWords_L5 c n) k (it (hw1 nw ln wd wt) k h0) (by omega) FU 0 (by omega) (by have := FU_big; omega)
        rw [nI_0] at h9
        rw [if_neg e]
        exact h9.trans (ih (k + 1) (by omega) (by omega))
  have h9 := l5 FU 0 (by omega) (by have := FU_big; omega)
  rw [nI_0] at h9
  rw [f_X7_mixWords]
  exact h9
theorem mixw_m {nw ln : Nat} {wd : Nat → Nat → Nat} {wt : Nat → Nat} {c m : St} (hW : WL nw ln wd) (hM : ML nw ln wd m) (hRW : RW nw wt c m) {h0 : Int64} (hj : m.2.2.1 0 = h0) : ∃ st2, f_X8_mixWords m = some st2 ∧ Fr m st2 ∧ st2.2.2.1 0 = it (hw1 nw ln wd wt) nw (hf (av nw ln wd wt) 6 h0) := by
  have hn := hW.1
  have hl := hW.2.1
  have l2 : ∀ (n k : Nat) (st : St), k ≤ 6 → 6 - k < n → Fr m st → st.2.2.1 0 = hf (av nw ln wd wt) k h0 → ∃ st2, f_X8_mixWords_L2 n st (nI k) = ((f_X8_layCounts st2).bind fun b25 => f_X8_mixWords_L30 FU b25 0) ∧ Fr m st2 ∧ st2.2.2.1 0 = hf (av nw ln wd wt) 6 h0 := by
    intro n
    induction n with
    | zero => intro k st _ h; omega
    | succ n ih =>
      intro k st hk hnn hF hj
      rw [f_X8_mixWords_L2, show (6 : Int32) = nI 6 from rfl, ite_leN (by omega) (by omega)]
      by_cases e : 6 ≤ k
      · rw [if_pos e]
        have : k = 6 := by omega
        subst this
        exact ⟨st, rfl, hF, hj⟩
      · rw [if_neg e, about_m hW (hF.ml hM) (hF.rw hRW) (by omega)]
        simp only [Option.bind_some, mix_m hj, lt, nI_1]
        exact ih (k + 1) _ (by omega) (by omega) hF rfl
  have l67 : ∀ (r30 : St → Int32 → Option St) (w : Nat) (h : Int64), w < nw → ∀ (n k : Nat) (st : St), k ≤ 5 → 5 - k < n → Fr m st → CT nw ln wd (NN nw ln) st → st.2.2.1 0 = hf (wv nw ln wd wt w) k h → ∃ st2, f_X8_mixWords_L67 r30 n st (nI w) (nI k) = r30 st2 (nI (w + 1)) ∧ Fr m st2 ∧ CT nw ln wd (NN nw ln) st2 ∧ st2.2.2.1 0 = hf (wv nw ln wd wt w) 5 h := by
    intro r30 w h hw n
    induction n with
    | zero => intro k st _ h; omega
    | succ n ih =>
      intro k st hk hnn hF hc hj
      rw [f_X8_mixWords_L67, show (5 : Int32) = nI 5 from rfl, ite_leN (by omega) (by omega)]
      by_cases e : 5 ≤ k
      · rw [if_pos e, lt, nI_1]
        have : k = 5 := by omega
        subst this
        exact ⟨st, rfl, hF, hc, hj⟩
      · rw [if_neg e, wnow_m hW (hF.ml hM) (hF.rw hRW) hw (by omega) (fun _ => hc)]
        simp only [Option.bind_some, mix_m hj, lt, nI_1]
        exact ih (k + 1) _ (by omega) (by omega) hF hc rfl
  have l40 : ∀ (r30 : St → Int32 → Option St) (w : Nat) (h : Int64), w < nw → ∀ (n k : Nat) (st : St), k ≤ ln → ln - k < n → Fr m st → CT nw ln wd (NN nw ln) st → st.2.2.1 0 = hf (fun i => nI (97 + wd w i)) k h → ∃ st2, f_X8_mixWords_L40 r30 n st (nI w) (nI k) = r30 st2 (nI (w + 1)) ∧ Fr m st2 ∧ CT nw ln wd (NN nw ln) st2 ∧ st2.2.2.1 0 = hw1 nw ln wd wt w h := by
    intro r30 w h hw n
    induction n with
    | zero => intro k st _ h; omega
    | succ n ih =>
      intro k st hk hnn hF hc hj
      rw [f_X8_mixWords_L40, (hF.ml hM).2.1, ite_leN (by omega) (by omega)]
      by_cases e : ln ≤ k
      · have : k = ln := by omega
        subst this
        have h9 := l67 r30 w (hf (fun i => nI (97 + wd w i)) k h) hw FU 0 st (by omega) (by have := FU_big; omega) hF hc hj
        rw [nI_0] at h9
        rw [if_pos e]
        exact h9
      · rw [if_neg e, at_m hW (hF.ml hM) hw (by omega)]
        simp only [Option.bind_some, mix_m hj, lt, nI_1]
        exact ih (k + 1) _ (by omega) (by omega) hF hc rfl
  have l30 : ∀ (h : Int64) (n k : Nat) (st : St), k ≤ nw → nw - k < n → Fr m st → CT nw ln wd (NN nw ln) st → st.2.2.1 0 = it (hw1 nw ln wd wt) k h → ∃ st2, f_X8_mixWords_L30 n st (nI k) = some st2 ∧ Fr m st2 ∧ st2.2.2.1 0 = it (hw1 nw ln wd wt) nw h := by
    intro h n
    induction n with
    | zero => intro k st _ h; omega
    | succ n ih =>
      intro k st hk hnn hF hc hj
      rw [f_X8_mixWords_L30, (hF.ml hM).1, ite_leN (by omega) (by omega)]
      by_cases e : nw ≤ k
      · have : k = nw := by omega
        subst this
        rw [if_pos e]
        exact ⟨st, rfl, hF, hj⟩
      · obtain ⟨st2, s1, s2, s3, s4⟩ := l40 (f_X8_mixWords_L30 n) k (it (hw1 nw ln wd wt) k h) (by omega) FU 0 st (by omega) (by have := FU_big; omega) hF hc hj
        rw [nI_0] at s1
        rw [if_neg e, s1]
        exact ih (k + 1) st2 (by omega) (by omega) s2 s3 s4
  obtain ⟨st2, s1, s2, s3⟩ := l2 FU 0 m (by omega) (by have := FU_big; omega) Fr.rf hj
  obtain ⟨st3, t1, t2, t3⟩ := lc_m hW (s2.ml hM)
  obtain ⟨st4, u1, u2, u3⟩ := l30 (hf (av nw ln wd wt) 6 h0) FU 0 st3 (by omega) (by have := FU_big; omega) (s2.tr t2.1) t3 (by rw [Fs_J t2]; exact s3)
  rw [nI_0] at s1 u1
  rw [f_X8_mixWords, s1, t1]
  exact ⟨st4, u1, u2, u3⟩
/-- squares -/
noncomputable def sqh (nw ln : Nat) (wd : Nat → Nat → Nat) (x : Nat) (h : Int64) : Int64 := if P0 nw ln wd x && decide (ct (PK nw ln wd 0) x < 40) then hf (fun r => nI (dg nw ln x r)) ln h else h
theorem it_end {f : Nat → Int64 → Int64} {h : Int64} {x : Nat} : ∀ {d : Nat}, (∀ y, x ≤ y → y < x + d → ∀ h, f y h = h) → it f (x + d) h = it f x h
  | 0, _ => rfl
  | d + 1, hh => by
    rw [← Nat.add_assoc, it, hh (x + d) (by omega) (by omega), it_end (fun y h1 h2 => hh y h1 (by omega))]
theorem sqh_stop {nw ln : Nat} {wd : Nat → Nat → Nat} {x : Nat} (h : Int64) (hx : x ≤ NN nw ln) (hc : 40 ≤ ct (PK nw ln wd 0) x ∨ ct (PK nw ln wd 0) x = ct (PK nw ln wd 0) (NN nw ln)) : it (sqh nw ln wd) (NN nw ln) h = it (sqh nw ln wd) x h := by
  have e : NN nw ln = x + (NN nw ln - x) := by omega
  rw [e]
  refine it_end (fun y h1 h2 h => ?_)
  unfold sqh
  rw [if_neg]
  intro q
  rw [Bool.and_eq_true, decide_eq_true_eq] at q
  have m1 := ct_mono (PK nw ln wd 0) h1
  rcases hc with hc | hc
  · omega
  · have := ct_lt (P := PK nw ln wd 0) (show y < NN nw ln by omega) q.1
    omega
noncomputable def hvv (nw ln : Nat) (wd : Nat → Nat → Nat) (wt : Nat → Nat) (k : Nat) : Int32 := (hv (PK nw ln wd k) (wgt nw ln wd wt) (NN nw ln)).1
noncomputable def hsq (nw ln : Nat) (wd : Nat → Nat → Nat) (wt : Nat → Nat) (h : Int64) : Int64 := hf (hvv nw ln wd wt) 3 (it (sqh nw ln wd) (NN nw ln) (hf (fun k => nI (ct (PK nw ln wd k) (NN nw ln))) 3 h))
theorem isK {k : Nat} (hk : k < 3) : f_X7_isKind (nI k) = some 1 := by
  rw [f_X7_isKind, if_neg (nI_pos (by omega)), show (3 : Int32) = nI 3 from rfl, ite_leN (by omega) (by omega), if_neg (by omega)]
theorem mixs_c {nw ln : Nat} {wd : Nat → Nat → Nat} {wt : Nat → Nat} {tl : Nat} {tx : Nat → Nat} {bd : Nat → Int32} {c m : St} (hR : RL9 nw ln wd wt tl tx bd c m) (h0 : Int64) : ∃ c', f_X7_mixSquares c h0 = some (hsq nw ln wd wt h0, c') ∧ RL9 nw ln wd wt tl tx bd c' m := by
  obtain ⟨hW, hRT, hC, hML, hRW, hRB, hRN, hF, hP, hRH, hRK⟩ := id hR
  have hl := hW.2.1
  have hN := NN_le hW
  have hc := ct_le (PK nw ln wd 0) (NN nw ln)
  have l94 : ∀ (h : Int64) (n k : Nat) (c : St), k ≤ 3 → 3 - k < n → RL9 nw ln wd wt tl tx bd c m → ∃ c', f_X7_mixSquares_L94 n c (hf (hvv nw ln wd wt) k h) (nI k) = some (hf (hvv nw ln wd wt) 3 h, c') ∧ RL9 nw ln wd wt tl tx bd c' m := by
    intro h n
    induction n with
    | zero => intro k c _ h; omega
    | succ n ih =>
      intro k c hk hnn hR
      rw [f_X7_mixSquares_L94, show (3 : Int32) = nI 3 from rfl, ite_leN (by omega) (by omega)]
      by_cases e : 3 ≤ k
      · rw [if_pos e, show k = 3 by omega]
        exact ⟨c, rfl, hR⟩
      · obtain ⟨c', q1, q2⟩ := hvst_c hR (show k < 3 by omega) (isK (by omega))
        rw [if_neg e, q1]
        simp only [Option.bind_some, mix_c, lt, nI_1]
        exact ih (k + 1) c' (by omega) (by omega) q2
  have l53 : ∀ (r43 : St → Int64 → Int32 → Int32 → Option (Int64 × St)) (x : Nat) (h : Int64) (sh : Int32), x < NN nw ln → PK nw ln wd 0 x = true → ∀ (n k : Nat), k ≤ ln → ln - k < n → f_X7_mixSquares_L53 r43 n c (hf (fun r => nI (dg nw ln x r)) k h) sh (nI (ct (PK nw ln wd 0) x)) (nI k) = r43 c (hf (fun r => nI (dg nw ln x r)) ln h) sh (nI (ct (PK nw ln wd 0) x + 1)) := by
    intro r43 x h sh hx hp n
    induction n with
    | zero => intro k _ h; omega
    | succ n ih =>
      intro k hk hnn
      rw [f_X7_mixSquares_L53]
      simp only [f_X6_length, Option.bind_some, hC.2.1]
      rw [ite_leN (by omega) (by omega)]
      by_cases e : ln ≤ k
      · rw [if_pos e, show k = ln by omega, lt, nI_1]
      · have hr := row_c hW hC hF hP (show 0 < 3 by decide) hx hp (show k < ln by omega) (isK (by decide))
        rw [nI_0] at hr
        rw [if_neg e, hr]
        simp only [Option.bind_some, mix_c, lt, nI_1]
        exact ih (k + 1) (by omega) (by omega)
  have l43 : ∀ (h : Int64) (sh : Nat), sh = (if 40 < ct (PK nw ln wd 0) (NN nw ln) then 40 else ct (PK nw ln wd 0) (NN nw ln)) → ∀ (d x n : Nat), x + d = NN nw ln → sh - ct (PK nw ln wd 0) x < n → ct (PK nw ln wd 0) x ≤ sh → f_X7_mixSquares_L43 n c (it (sqh nw ln wd) x h) (nI sh) (nI (ct (PK nw ln wd 0) x)) = f_X7_mixSquares_L94 FU c (it (sqh nw ln wd) (NN nw ln) h) 0 := by
    intro h sh hsh d
    have hsh1 : sh ≤ 40 ∧ sh ≤ ct (PK nw ln wd 0) (NN nw ln) ∧ (sh = 40 ∨ sh = ct (PK nw ln wd 0) (NN nw ln)) := by
      by_cases e : 40 < ct (PK nw ln wd 0) (NN nw ln)
      · rw [if_pos e] at hsh; omega
      · rw [if_neg e] at hsh; omega
    have stop : ∀ x n, x ≤ NN nw ln → ct (PK nw ln wd 0) x = sh → 0 < n → f_X7_mixSquares_L43 n c (it (sqh nw ln wd) x h) (nI sh) (nI (ct (PK nw ln wd 0) x)) = f_X7_mixSquares_L94 FU c (it (sqh nw ln wd) (NN nw ln) h) 0 := fun x n hx he hn => by
      obtain ⟨n', rfl⟩ : ∃ n', n = n' + 1 := ⟨n - 1, by omega⟩
      rw [f_X7_mixSquares_L43, ite_leN (by omega) (by omega), if_pos (by omega), sqh_stop h hx (by omega)]
    induction d with
    | zero =>
      intro x n hx hn hle
      have e : x = NN nw ln := by omega
      subst e
      exact stop _ n (Nat.le_refl _) (by omega) (by omega)
    | succ d ih =>
      intro x n hx hn hle
      by_cases e : ct (PK nw ln wd 0) x = sh
      · exact stop x n (by omega) e (by omega)
      · cases hp : PK nw ln wd 0 x with
        | false =>
          have ih1 := ih (x + 1) n (by omega)
          have e1 : ct (PK nw ln wd 0) (x + 1) = ct (PK nw ln wd 0) x := by rw [ct, hp]; rfl
          have e2 : it (sqh nw ln wd) (x + 1) h = it (sqh nw ln wd) x h := by
            rw [it, sqh]
            rw [PK0] at hp
            rw [hp]; rfl
          rw [e1, e2] at ih1
          exact ih1 (by omega) hle
        | true =>
          obtain ⟨n', rfl⟩ : ∃ n', n = n' + 1 := ⟨n - 1, by omega⟩
          have ih1 := ih (x + 1) n' (by omega)
          have e1 : ct (PK nw ln wd 0) (x + 1) = ct (PK nw ln wd 0) x + 1 := by rw [ct, hp]; rfl
          have e2 : it (sqh nw ln wd) (x + 1) h = hf (fun r => nI (dg nw ln x r)) ln (it (sqh nw ln wd) x h) := by
            rw [it, sqh]
            have hp' := hp
            rw [PK0] at hp'
            rw [hp', decide_eq_true (by omega)]; rfl
          rw [e1, e2] at ih1
          have h5 := l53 (f_X7_mixSquares_L43 n') x (it (sqh nw ln wd) x h) (nI sh) (by omega) hp FU 0 (by omega) (by have := FU_big; omega)
          rw [nI_0] at h5
          rw [f_X7_mixSquares_L43, ite_leN (by omega) (by omega), if_neg (by omega)]
          exact h5.trans (ih1 (by omega) (by omega))
  have l5 : ∀ (n k : Nat), k ≤ 3 → 3 - k < n → ∃ c', f_X7_mixSquares_L5 n c (hf (fun k => nI (ct (PK nw ln wd k) (NN nw ln))) k h0) (nI k) = some (hsq nw ln wd wt h0, c') ∧ RL9 nw ln wd wt tl tx bd c' m := by
    intro n
    induction n with
    | zero => intro k _ h; omega
    | succ n ih =>
      intro k hk hnn
      rw [f_X7_mixSquares_L5, show (3 : Int32) = nI 3 from rfl, ite_leN (by omega) (by omega)]
      by_cases e : 3 ≤ k
      · have hs := sqs_c hF (show 0 < 3 by decide) (isK (by decide))
        rw [nI_0] at hs
        rw [if_pos e, hs, show k = 3 by omega]
        simp only [Option.bind_some]
        have hsel : (if (40 : Int32) < nI (ct (PK nw ln wd 0) (NN nw ln)) then (40 : Int32) else nI (ct (PK nw ln wd 0) (NN nw ln))) = nI (if 40 < ct (PK nw ln wd 0) (NN nw ln) then 40 else ct (PK nw ln wd 0) (NN nw ln)) := by
          rw [show (40 : Int32) = nI 40 from rfl, ite_ltN (by omega) (by omega)]
          split <;> rfl
        rw [hsel, lt]
        have h4 := l43 (hf (fun k => nI (ct (PK nw ln wd k) (NN nw ln))) 3 h0) _ rfl (NN nw ln) 0 FU (by omega) (by
          have := FU_big
          split <;> omega) (by rw [ct]; omega)
        rw [ct, nI_0] at h4
        rw [show it (sqh nw ln wd) 0 (hf (fun k => nI (ct (PK nw ln wd k) (NN nw ln))) 3 h0) = hf (fun k => nI (ct (PK nw ln wd k) (NN nw ln))) 3 h0 from rfl] at h4
        rw [h4]
        have h9 := l94 (it (sqh nw ln wd) (NN nw ln) (hf (fun k => nI (ct (PK nw ln wd k) (NN nw ln))) 3 h0)) FU 0 c (by omega) (by have := FU_big; omega) hR
        rw [nI_0] at h9
        exact h9
      · rw [if_neg e, sqs_c hF (by omega) (isK (by omega))]
        simp only [Option.bind_some, mix_c, lt, nI_1]
        exact ih (k + 1) (by omega) (by omega)
  have h9 := l5 FU 0 (by omega) (by have := FU_big; omega)
  rw [nI_0] at h9
  rw [f_X7_mixSquares]
  exact h9
theorem mixs_m {nw ln : Nat} {wd : Nat → Nat → Nat} {wt : Nat → Nat} {c m : St} (hW : WL nw ln wd) (hM : ML nw ln wd m) (hRW : RW nw wt c m) {h0 : Int64} (hj : m.2.2.1 0 = h0) : ∃ st2, f_X8_mixSquares m = some st2 ∧ Fr m st2 ∧ st2.2.2.1 0 = hsq nw ln wd wt h0 := by
  have hn := hW.1
  have hl := hW.2.1
  have hN := NN_le hW
  have l113 : ∀ (h : Int64) (n k : Nat) (st : St), k ≤ 3 → 3 - k < n → Fr m st → st.2.2.1 0 = hf (hvv nw ln wd wt) k h → ∃ st2, f_X8_mixSquares_L113 n st (nI k) = some st2 ∧ Fr m st2 ∧ st2.2.2.1 0 = hf (hvv nw ln wd wt) 3 h := by
    intro h n
    induction n with
    | zero => intro k st _ h; omega
    | succ n ih =>
      intro k st hk hnn hF hj
      rw [f_X8_mixSquares_L113, show (3 : Int32) = nI 3 from rfl, ite_leN (by omega) (by omega)]
      by_cases e : 3 ≤ k
      · have : k = 3 := by omega
        subst this
        rw [if_pos e]
        exact ⟨st, rfl, hF, hj⟩
      · obtain ⟨m2, q1, q2⟩ := heaviest_m hW (hF.ml hM) (hF.rw hRW) (show k < 3 by omega)
        rw [if_neg e, q1]
        simp only [Option.bind_some, mix_m ((Fs_J q2).trans hj), lt, nI_1]
        exact ih (k + 1) _ (by omega) (by omega) (hF.tr q2.1) rfl
  have l55 : ∀ (r42 : St → Int32 → Int32 → Option St) (x sh : Nat) (h : Int64), 0 < nw → sh < 40 → ∀ (n k : Nat) (st : St), k ≤ ln → ln - k < n → Fr m st → Ax nw ln x st → st.2.2.1 0 = hf (fun r => nI (dg nw ln x r)) k h → ∃ st2, f_X8_mixSquares_L55 r42 n st (nI sh) (nI k) = f_X8_mixSquares_J89 r42 st2 (nI (sh + 1)) ∧ Fr m st2 ∧ Ax nw ln x st2 ∧ st2.2.2.1 0 = hf (fun r => nI (dg nw ln x r)) ln h := by
    intro r42 x sh h hnz hsh n
    induction n with
    | zero => intro k st _ h; omega
    | succ n ih =>
      intro k st hk hnn hF hA hj
      rw [f_X8_mixSquares_L55, (hF.ml hM).2.1, ite_leN (by omega) (by omega)]
      by_cases e : ln ≤ k
      · have : k = ln := by omega
        subst this
        rw [if_pos e, f_X8_mixSquares_J86, lt, nI_1]
        exact ⟨st, rfl, hF, hA, hj⟩
      · rw [if_neg e, show (40 : Int32) = nI 40 from rfl, ite_leN (by omega) (by omega), if_neg (by omega), ite_in (show k < 4 by omega) (by decide), nI_clamp (by omega), hA k (by omega)]
        simp only [mix_m hj, Option.bind_some, lt, nI_1]
        exact ih (k + 1) _ (by omega) (by omega) hF hA rfl
  have l42 : ∀ (h : Int64) (n x : Nat) (st : St), x ≤ NN nw ln → NN nw ln - x + 1 < n → Fr m st → (x < NN nw ln → Ax nw ln x st ∧ ct (PK nw ln wd 0) x < 40) → st.2.2.1 0 = it (sqh nw ln wd) x h → ∃ st2, f_X8_mixSquares_L42 n st (nI (ct (PK nw ln wd 0) x)) (bi (decide (x < NN nw ln))) = f_X8_mixSquares_L113 FU st2 0 ∧ Fr m st2 ∧ st2.2.2.1 0 = it (sqh nw ln wd) (NN nw ln) h := by
    intro h n
    induction n with
    | zero => intro x st _ h; omega
    | succ n ih =>
      intro x st hx hnn hF hA hj
      rw [f_X8_mixSquares_L42]
      by_cases e : x < NN nw ln
      · have h0 := nz_of e
        obtain ⟨hA1, hlt⟩ := hA e
        obtain ⟨g, h1, h1b⟩ := sq_m hW (hF.ml hM) h0 hA1
        have hF2 : Fr m (sR st 7 g) := hF.tr (sR_Fs (m := st) (show 5 ≤ 7 by decide) g).1
        have hA2 := Ax_sR (g := g) (show 7 ≠ 6 by decide) hA1
        have nextstep : ∀ (sh : Nat) (st3 : St), sh = ct (PK nw ln wd 0) (x + 1) → Fr m st3 → Ax nw ln x st3 → st3.2.2.1 0 = it (sqh nw ln wd) (x + 1) h → ∃ st2, f_X8_mixSquares_J89 (f_X8_mixSquares_L42 n) st3 (nI sh) = f_X8_mixSquares_L113 FU st2 0 ∧ Fr m st2 ∧ st2.2.2.1 0 = it (sqh nw ln wd) (NN nw ln) h := by
          intro sh st3 hsh hF3 hA3 hj3
          have hcl := ct_le (PK nw ln wd 0) (x + 1)
          rw [f_X8_mixSquares_J89, show (40 : Int32) = nI 40 from rfl, ite_leN (by omega) (by omega)]
          by_cases e4 : 40 ≤ sh
          · obtain ⟨n', rfl⟩ : ∃ n', n = n' + 1 := ⟨n - 1, by omega⟩
            rw [if_pos e4, f_X8_mixSquares_J106, f_X8_mixSquares_J107, f_X8_mixSquares_L42, if_pos rfl]
            exact ⟨st3, rfl, hF3, by rw [hj3, sqh_stop h (show x + 1 ≤ NN nw ln by omega) (Or.inl (by omega))]⟩
          · obtain ⟨g2, h3, h4⟩ := nx_m hW (hF3.ml hM) e hA3
            have ih1 := ih (x + 1) (sR st3 6 g2) (by omega) (by omega) (hF3.tr (sR_Fs (m := st3) (show 5 ≤ 6 by decide) g2).1) (fun q => ⟨h4 q, by omega⟩) hj3
            rw [if_neg e4, h3]
            simp only [Option.bind_some, f_X8_mixSquares_J106, f_X8_mixSquares_J107]
            rw [← hsh] at ih1
            by_cases e5 : x + 1 < NN nw ln
            · rw [decide_eq_true e5, bi_t] at ih1 ⊢
              rw [if_neg (by decide)]
              exact ih1
            · rw [decide_eq_false e5, bi_f] at ih1 ⊢
              rw [if_pos rfl]
              exact ih1
        rw [decide_eq_true e, bi_t, if_neg (by decide), h1]
        simp only [Option.bind_some]
        cases hp : P0 nw ln wd x with
        | false =>
          rw [bi_f, if_pos rfl]
          refine nextstep _ (sR st 7 g) (by rw [ct, PK0, hp]; rfl) hF2 hA2 ?_
          rw [it, sqh, hp]; exact hj
        | true =>
          obtain ⟨st3, s1, s2, s3, s4⟩ := l55 (f_X8_mixSquares_L42 n) x (ct (PK nw ln wd 0) x) (it (sqh nw ln wd) x h) h0 hlt FU 0 (sR st 7 g) (by omega) (by have := FU_big; omega) hF2 hA2 hj
          rw [nI_0] at s1
          rw [bi_t, if_neg (by decide), s1]
          refine nextstep _ st3 (by rw [ct, PK0, hp]; rfl) s2 s3 ?_
          rw [it, sqh, hp, decide_eq_true hlt]; exact s4
      · rw [decide_eq_false e, bi_f, if_pos rfl]
        have : x = NN nw ln := by omega
        subst this
        exact ⟨st, rfl, hF, hj⟩
  have l2 : ∀ (n k : Nat) (st : St), k ≤ 3 → 3 - k < n → Fr m st → st.2.2.1 0 = hf (fun k => nI (ct (PK nw ln wd k) (NN nw ln))) k h0 → ∃ st2, f_X8_mixSquares_L2 n st (nI k) = some st2 ∧ Fr m st2 ∧ st2.2.2.1 0 = hsq nw ln wd wt h0 := by
    intro n
    induction n with
    | zero => intro k st _ h; omega
    | succ n ih =>
      intro k st hk hnn hF hj
      rw [f_X8_mixSquares_L2, show (3 : Int32) = nI 3 from rfl, ite_leN (by omega) (by omega)]
      by_cases e : 3 ≤ k
      · have : k = 3 := by omega
        subst this
        obtain ⟨g, b1, b2⟩ := bg_m (m := st) hW
        have hF2 : Fr m (sR st 6 g) := hF.tr (sR_Fs (m := st) (show 5 ≤ 6 by decide) g).1
        obtain ⟨st2, s1, s2, s3⟩ := l42 (hf (fun k => nI (ct (PK nw ln wd k) (NN nw ln))) 3 h0) FU 0 (sR st 6 g) (by omega) (by have := FU_big; omega) hF2 (fun _ => ⟨b2, by rw [ct]; omega⟩) hj
        obtain ⟨st3, t1, t2, t3⟩ := l113 (it (sqh nw ln wd) (NN nw ln) (hf (fun k => nI (ct (PK nw ln wd k) (NN nw ln))) 3 h0)) FU 0 st2 (by omega) (by have := FU_big; omega) s2 s3
        rw [nI_0] at t1
        rw [ct, nI_0] at s1
        rw [if_pos e, b1]
        simp only [Option.bind_some, f_X8_mixSquares_J41, (hF2.ml hM).1]
        rw [more_m hW (fun t => f_X8_mixSquares_L42 FU (sR st 6 g) 0 t), s1, t1]
        exact ⟨st3, rfl, t2, t3⟩
      · obtain ⟨m2, q1, q2⟩ := sqs_m hW (hF.ml hM) (show k < 3 by omega)
        rw [if_neg e, q1]
        simp only [Option.bind_some, mix_m ((Fs_J q2).trans hj), lt, nI_1]
        exact ih (k + 1) _ (by omega) (by omega) (hF.tr q2.1) rfl
  have h9 := l2 FU 0 m (by omega) (by have := FU_big; omega) Fr.rf hj
  rw [nI_0] at h9
  rw [f_X8_mixSquares]
  exact h9
end
