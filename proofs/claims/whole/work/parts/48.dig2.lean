section
/-! the digest: board, search, text, counts -/
noncomputable def fitN (nw ln : Nat) (wd : Nat → Nat → Nat) (bd : Nat → Int32) : Nat := ct (FT nw ln wd bd) (NN nw ln)
noncomputable def hb1 (nw ln : Nat) (wd : Nat → Nat → Nat) (bd : Nat → Int32) (r : Nat) (h : Int64) : Int64 := hf (fun q => su (FT nw ln wd bd) (fun x => 97 + wd (dg nw ln x r) q) (NN nw ln)) (if 0 < fitN nw ln wd bd then ln else 0) (mx (mx h (bd r)) (mk (FT nw ln wd bd) (fun x => dg nw ln x r) (NN nw ln)))
noncomputable def hbd (nw ln : Nat) (wd : Nat → Nat → Nat) (bd : Nat → Int32) (h : Int64) : Int64 := mx (it (hb1 nw ln wd bd) ln h) (nI (fitN nw ln wd bd))
theorem fit_c {nw ln : Nat} {wd : Nat → Nat → Nat} {wt : Nat → Nat} {tl : Nat} {tx : Nat → Nat} {bd : Nat → Int32} {c m : St} (hR : RL9 nw ln wd wt tl tx bd c m) : ∃ c', f_X7_fitting c = some (nI (fitN nw ln wd bd), c') ∧ RL9 nw ln wd wt tl tx bd c' m := by
  obtain ⟨c', h1, h2, -, h3, -⟩ := lbrd_c hR
  refine ⟨c', ?_, h2⟩
  simp only [f_X7_fitting, h1, Option.bind_some, f_X0_numberOfFitting, h3, fitN]
theorem may_c {nw ln : Nat} {wd : Nat → Nat → Nat} {wt : Nat → Nat} {tl : Nat} {tx : Nat → Nat} {bd : Nat → Int32} {c m : St} (hR : RL9 nw ln wd wt tl tx bd c m) {r : Nat} (hr : r < ln) : ∃ c', f_X7_may c (nI r) = some (mk (FT nw ln wd bd) (fun x => dg nw ln x r) (NN nw ln), c') ∧ RL9 nw ln wd wt tl tx bd c' m := by
  have hl := hR.1.2.1
  obtain ⟨c', h1, h2, -, h3, h4⟩ := lbrd_c hR
  refine ⟨c', ?_, h2⟩
  simp only [f_X7_may, hasp_c hR.1 hR.2.2.1 hr, Option.bind_some, i10, if_false, h1, poss_c (show r < 4 by omega), h4 r hr]
theorem brd_c {nw ln : Nat} {wd : Nat → Nat → Nat} {wt : Nat → Nat} {tl : Nat} {tx : Nat → Nat} {bd : Nat → Int32} {c m : St} (hR : RL9 nw ln wd wt tl tx bd c m) {r : Nat} (hr : r < ln) : f_X7_board c (nI r) = some (bd r) := by
  have hl := hR.1.2.1
  simp only [f_X7_board, hasp_c hR.1 hR.2.2.1 hr, Option.bind_some, i10, if_false, given_r (show r < 4 by omega), (hR.2.2.2.2.2.1 r (by omega)).1]
theorem mixb_c {nw ln : Nat} {wd : Nat → Nat → Nat} {wt : Nat → Nat} {tl : Nat} {tx : Nat → Nat} {bd : Nat → Int32} {c m : St} (hR : RL9 nw ln wd wt tl tx bd c m) (h0 : Int64) : ∃ c', f_X7_mixBoard c h0 = some (hbd nw ln wd bd h0, c') ∧ RL9 nw ln wd wt tl tx bd c' m := by
  have hl := hR.1.2.1
  have hN := NN_le hR.1
  have hct : fitN nw ln wd bd ≤ NN nw ln := ct_le _ _
  have l56 : ∀ (r19 : St → Int64 → Int32 → Int32 → Option (Int64 × St)) (r : Nat) (h : Int64), r < ln → ∀ (n k : Nat) (c : St), k ≤ (if 0 < fitN nw ln wd bd then ln else 0) → ln - k < n → RL9 nw ln wd wt tl tx bd c m → ∃ c', f_X7_mixBoard_L56 r19 n c (hf (fun q => su (FT nw ln wd bd) (fun x => 97 + wd (dg nw ln x r) q) (NN nw ln)) k h) (bi (decide (0 < fitN nw ln wd bd))) (nI r) (nI k) = r19 c' (hf (fun q => su (FT nw ln wd bd) (fun x => 97 + wd (dg nw ln x r) q) (NN nw ln)) (if 0 < fitN nw ln wd bd then ln else 0) h) (bi (decide (0 < fitN nw ln wd bd))) (nI (r + 1)) ∧ RL9 nw ln wd wt tl tx bd c' m := by
    intro r19 r h hr n
    induction n with
    | zero => intro k c _ h; omega
    | succ n ih =>
      intro k c hk hnn hR
      rw [f_X7_mixBoard_L56]
      simp only [f_X6_length, Option.bind_some, hR.2.2.1.2.1, f_X7_mixBoard_J92, lt, nI_1]
      by_cases ef : 0 < fitN nw ln wd bd
      · rw [if_pos ef] at hk ⊢
        rw [ite_leN (by omega) (by omega)]
        by_cases e : ln ≤ k
        · rw [if_pos e, show k = ln by omega]
          exact ⟨c, rfl, hR⟩
        · obtain ⟨c', q1, q2⟩ := sure_c hR hr (show k < ln by omega) (hasp_c hR.1 hR.2.2.1 hr) (hasp_c hR.1 hR.2.2.1 (by omega))
          rw [if_neg (show ¬ (ct (FT nw ln wd bd) (NN nw ln) = 0) by unfold fitN at ef; omega)] at q1
          have ih1 := ih (k + 1) c' (by rw [if_pos ef]; omega) (by omega) q2
          rw [if_pos ef] at ih1
          rw [if_neg e, q1]
          rw [decide_eq_true ef, bi_t] at ih1 ⊢
          rw [if_neg (by decide)]
          simp only [Option.bind_some, mix_c]
          exact ih1
      · rw [if_neg ef] at hk ⊢
        have : k = 0 := by omega
        subst this
        rw [decide_eq_false ef, bi_f, if_pos rfl]
        refine ⟨c, ?_, hR⟩
        split <;> rfl
  have l19 : ∀ (n k : Nat) (c : St), k ≤ ln → ln - k < n → RL9 nw ln wd wt tl tx bd c m → ∃ c', f_X7_mixBoard_L19 n c (it (hb1 nw ln wd bd) k h0) (bi (decide (0 < fitN nw ln wd bd))) (nI k) = some (hbd nw ln wd bd h0, c') ∧ RL9 nw ln wd wt tl tx bd c' m := by
    intro n
    induction n with
    | zero => intro k c _ h; omega
    | succ n ih =>
      intro k c hk hnn hR
      rw [f_X7_mixBoard_L19]
      simp only [f_X6_length, Option.bind_some, hR.2.2.1.2.1]
      rw [ite_leN (by omega) (by omega)]
      by_cases e : ln ≤ k
      · obtain ⟨c', q1, q2⟩ := fit_c hR
        rw [if_pos e, q1, show k = ln by omega]
        exact ⟨c', rfl, q2⟩
      · obtain ⟨c', q1, q2⟩ := may_c hR (show k < ln by omega)
        obtain ⟨c'', q3, q4⟩ := l56 (f_X7_mixBoard_L19 n) k (mx (mx (it (hb1 nw ln wd bd) k h0) (bd k)) (mk (FT nw ln wd bd) (fun x => dg nw ln x k) (NN nw ln))) (by omega) FU 0 c' (by omega) (by have := FU_big; omega) q2
        rw [nI_0] at q3
        rw [if_neg e, brd_c hR (by omega)]
        simp only [Option.bind_some, mix_c, q1]
        have ih1 := ih (k + 1) c'' (by omega) (by omega) q4
        obtain ⟨c3, q5, q6⟩ := ih1
        exact ⟨c3, q3.trans q5, q6⟩
  obtain ⟨c', q1, q2⟩ := fit_c hR
  have h9 := l19 FU 0 c' (by omega) (by have := FU_big; omega) q2
  rw [nI_0] at h9
  rw [f_X7_mixBoard, q1]
  simp only [Option.bind_some, f_X7_mixBoard_J14]
  by_cases ef : 0 < fitN nw ln wd bd
  · rw [if_neg (nI_nle ef (by omega))]
    rw [decide_eq_true ef] at h9
    exact h9
  · rw [if_pos (by rw [show fitN nw ln wd bd = 0 by omega]; decide)]
    rw [decide_eq_false ef] at h9
    exact h9
theorem mixb_m {nw ln : Nat} {wd : Nat → Nat → Nat} {bd : Nat → Int32} {m : St} (hW : WL nw ln wd) (hM : ML nw ln wd m) (hB : ∀ r, r < 4 → m.2.1 3 r = bd r) {h0 : Int64} (hj : m.2.2.1 0 = h0) : ∃ st2, f_X8_mixBoard m = some st2 ∧ Fr m st2 ∧ st2.2.2.1 0 = hbd nw ln wd bd h0 := by
  have hl := hW.2.1
  have hN := NN_le hW
  have hct : fitN nw ln wd bd ≤ NN nw ln := ct_le _ _
  obtain ⟨m1, g1, g2, g3⟩ := lf_m hW hM hB
  have l38 : ∀ (r6 : St → Int32 → Option St) (r : Nat) (h : Int64), r < ln → ∀ (n k : Nat) (st : St), k ≤ (if 0 < fitN nw ln wd bd then ln else 0) → ln - k < n → Fr m st → FI nw ln wd (FT nw ln wd bd) (NN nw ln) st → st.2.2.1 0 = hf (fun q => su (FT nw ln wd bd) (fun x => 97 + wd (dg nw ln x r) q) (NN nw ln)) k h → ∃ st2, f_X8_mixBoard_L38 r6 n st (nI r) (nI k) = r6 st2 (nI (r + 1)) ∧ Fr m st2 ∧ FI nw ln wd (FT nw ln wd bd) (NN nw ln) st2 ∧ st2.2.2.1 0 = hf (fun q => su (FT nw ln wd bd) (fun x => 97 + wd (dg nw ln x r) q) (NN nw ln)) (if 0 < fitN nw ln wd bd then ln else 0) h := by
    intro r6 r h hr n
    induction n with
    | zero => intro k st _ h; omega
    | succ n ih =>
      intro k st hk hnn hF hI hj
      have h8 : st.1 8 = nI (fitN nw ln wd bd) := hI.1
      rw [f_X8_mixBoard_L38, (hF.ml hM).2.1, h8]
      simp only [f_X8_mixBoard_J70, lt, nI_1]
      by_cases ef : 0 < fitN nw ln wd bd
      · rw [if_pos ef] at hk ⊢
        rw [ite_leN (by omega) (by omega), if_neg (nI_nle ef (by omega))]
        by_cases e : ln ≤ k
        · have : k = ln := by omega
          subst this
          rw [if_pos e]
          exact ⟨st, rfl, hF, hI, hj⟩
        · have h0 : 0 < nw := by
            obtain ⟨x, x1, -, -⟩ := ct_nth (show 0 < ct (FT nw ln wd bd) (NN nw ln) from ef)
            exact nz_of x1
          rw [if_neg e, sure_m hW h0 hI hr (show k < ln by omega) ef]
          simp only [Option.bind_some, mix_m hj]
          have ih1 := ih (k + 1) (sJ st 0 (mx (hf (fun q => su (FT nw ln wd bd) (fun x => 97 + wd (dg nw ln x r) q) (NN nw ln)) k h) (su (FT nw ln wd bd) (fun x => 97 + wd (dg nw ln x r) k) (NN nw ln)))) (by rw [if_pos ef]; omega) (by omega) hF hI rfl
          rw [if_pos ef] at ih1
          exact ih1
      · rw [if_neg ef] at hk ⊢
        have : k = 0 := by omega
        subst this
        have hz : nI (fitN nw ln wd bd) ≤ 0 := by rw [show fitN nw ln wd bd = 0 by omega]; decide
        rw [if_pos hz]
        refine ⟨st, ?_, hF, hI, hj⟩
        split <;> rfl
  have l6 : ∀ (n k : Nat) (st : St), k ≤ ln → ln - k < n → Fr m st → FI nw ln wd (FT nw ln wd bd) (NN nw ln) st → st.2.2.1 0 = it (hb1 nw ln wd bd) k h0 → ∃ st2, f_X8_mixBoard_L6 n st (nI k) = some st2 ∧ Fr m st2 ∧ st2.2.2.1 0 = hbd nw ln wd bd h0 := by
    intro n
    induction n with
    | zero => intro k st _ h; omega
    | succ n ih =>
      intro k st hk hnn hF hI hj
      have h8 : st.1 8 = nI (fitN nw ln wd bd) := hI.1
      rw [f_X8_mixBoard_L6, (hF.ml hM).2.1, ite_leN (by omega) (by omega)]
      by_cases e : ln ≤ k
      · have : k = ln := by omega
        subst this
        rw [if_pos e, h8, mix_m hj]
        exact ⟨_, rfl, hF, rfl⟩
      · have hb3 : st.2.1 3 k = bd k := by rw [hF.2 3 (by decide) (by decide)]; exact hB k (by omega)
        rw [if_neg e, ite_in (show k < 4 by omega) (by decide), nI_clamp (by omega), hb3, mix_m hj]
        simp only [Option.bind_some]
        have h12 : (sJ st 0 (mx (it (hb1 nw ln wd bd) k h0) (bd k))).2.1 12 k = mk (FT nw ln wd bd) (fun x => dg nw ln x k) (NN nw ln) := hI.2.1 k (by omega)
        rw [ite_in (show k < 4 by omega) (by decide), h12, mix_m (sJ_0 st _)]
        simp only [Option.bind_some]
        obtain ⟨st2, s1, s2, s3, s4⟩ := l38 (f_X8_mixBoard_L6 n) k (mx (mx (it (hb1 nw ln wd bd) k h0) (bd k)) (mk (FT nw ln wd bd) (fun x => dg nw ln x k) (NN nw ln))) (by omega) FU 0 (sJ (sJ st 0 (mx (it (hb1 nw ln wd bd) k h0) (bd k))) 0 (mx (mx (it (hb1 nw ln wd bd) k h0) (bd k)) (mk (FT nw ln wd bd) (fun x => dg nw ln x k) (NN nw ln)))) (by omega) (by have := FU_big; omega) hF hI rfl
        rw [nI_0] at s1
        obtain ⟨st3, t1, t2, t3⟩ := ih (k + 1) st2 (by omega) (by omega) s2 s3 s4
        exact ⟨st3, s1.trans t1, t2, t3⟩
  have h9 := l6 FU 0 m1 (by omega) (by have := FU_big; omega) g2.1 g3 ((Fs_J g2).trans hj)
  rw [nI_0] at h9
  rw [f_X8_mixBoard, g1]
  exact h9
noncomputable def hse (nw ln : Nat) (wd : Nat → Nat → Nat) (h : Int64) : Int64 := hf (sw nw ln wd) (if 0 < nw then 5 else 0) h
noncomputable def htx (tl : Nat) (tx : Nat → Nat) (h : Int64) : Int64 := hf (fun i => nI (tx i)) tl h
/-- the last calls, side by side -/
theorem tail_both {nw ln : Nat} {wd : Nat → Nat → Nat} {wt : Nat → Nat} {tl : Nat} {tx : Nat → Nat} {bd : Nat → Int32} {c : St} : ∀ (n n2 k : Nat) (m : St) (h : Int64), k ≤ 5 → 5 - k < n → 5 - k < n2 → RL9 nw ln wd wt tl tx bd c m → m.2.2.1 0 = h → ∃ (r : Int64) (m' : St), f_X7_digest_L112 n c h (nI k) = some (r, c) ∧ f_X8_digest_L78 n2 m (nI k) = some (r, m') ∧ RL9 nw ln wd wt tl tx bd c m' := by
  intro n
  induction n with
  | zero => intro n2 k m h _ h2; omega
  | succ n ih =>
    intro n2 k m h hk h1 h2 hR hj
    obtain ⟨n2, rfl⟩ : ∃ n', n2 = n' + 1 := ⟨n2 - 1, by omega⟩
    rw [f_X7_digest_L112, f_X8_digest_L78, n4, show (5 : Int32) = nI 5 from rfl, ite_ltN (by omega) (by omega), ite_leN (by omega) (by omega)]
    by_cases e : 5 ≤ k
    · rw [if_pos (by omega), if_pos e, hj]
      exact ⟨h, m, rfl, rfl, hR⟩
    · obtain ⟨r, q1, q2, -⟩ := op22 c m (nI k) ⟨nw, ln, wd, wt, tl, tx, bd, hR⟩
      have q3 : f_X8_howMany m (nI k) = some r := by
        rw [f_X8_count] at q2
        cases hh : f_X8_howMany m (nI k) with
        | none => rw [hh] at q2; cases q2
        | some v => rw [hh] at q2; exact q2
      rw [if_neg (by omega), if_neg e, q1, q3]
      simp only [Option.bind_some, mix_c, mix_m hj, lt, nI_1]
      have hfr : Fr m (sJ m 0 (mx h r)) := sJ_Fr Fr.rf
      exact ih n2 (k + 1) _ _ (by omega) (by omega) (by omega) (hfr.rel hR) rfl
theorem op23 : Op_23 Rel := by
  intro c m hR
  obtain ⟨nw, ln, wd, wt, tl, tx, bd, hR⟩ := hR
  obtain ⟨hW, hRT, hC, hM, hRW, hRB, hRN, hRF, hRP, hRH, hRK⟩ := id hR
  have hn := hW.1
  have hl := hW.2.1
  /- the class -/
  have a6 : ∀ (n k : Nat), k ≤ 6 → 6 - k < n → f_X7_digest_L6 n c (hf (av nw ln wd wt) k 1579) (nI k) = ((f_X7_mixWords c (hf (av nw ln wd wt) 6 1579)).bind fun b29 => (f_X7_mixSquares c b29).bind fun b35 => (f_X7_mixBoard b35.2 b35.1).bind fun b41 => f_X7_digest_L47 FU b41.2 b41.1 0) := by
    intro n
    induction n with
    | zero => intro k _ h; omega
    | succ n ih =>
      intro k hk hnn
      rw [f_X7_digest_L6, show (5 : Int32) = nI 5 from rfl, ite_ltN (by omega) (by omega)]
      by_cases e : 5 < k
      · rw [if_pos e, show k = 6 by omega]
      · rw [if_neg e, about_c hW hC hRW (by omega)]
        simp only [Option.bind_some, mix_c, lt, nI_1]
        exact ih (k + 1) (by omega) (by omega)
  have c47 : ∀ (c : St) (h : Int64), RL9 nw ln wd wt tl tx bd c m → ∀ (n k : Nat), k ≤ (if 0 < nw then 5 else 0) → 5 - k < n → f_X7_digest_L47 n c (hf (sw nw ln wd) k h) (nI k) = f_X7_digest_L80 FU c (hse nw ln wd h) 0 := by
    intro c h hR n
    induction n with
    | zero => intro k _ h; omega
    | succ n ih =>
      intro k hk hnn
      rw [f_X7_digest_L47]
      simp only [f_X6_size, Option.bind_some, hR.2.2.1.1, f_X7_digest_J78]
      unfold hse
      by_cases e0 : 0 < nw
      · rw [if_pos e0] at hk ⊢
        rw [n4, ite_ltN (by omega) (by omega), if_neg (nI_nle e0 (by omega))]
        by_cases e : 4 < k
        · rw [if_pos e, show k = 5 by omega]
        · have ih1 := ih (k + 1) (by rw [if_pos e0]; omega) (by omega)
          rw [hse, if_pos e0] at ih1
          rw [if_neg e, srch_c hR.1 hR.2.2.1 hR.2.2.2.2.2.2.2.1 e0 (by omega)]
          simp only [Option.bind_some, mix_c, lt, nI_1]
          exact ih1
      · rw [if_neg e0] at hk ⊢
        have : k = 0 := by omega
        subst this
        have hz : nI nw ≤ 0 := by rw [show nw = 0 by omega]; decide
        rw [if_pos hz]
        split <;> rfl
  have c80 : ∀ (c : St) (h : Int64), RL9 nw ln wd wt tl tx bd c m → ∀ (n k : Nat), k ≤ tl → tl - k < n → f_X7_digest_L80 n c (hf (fun i => nI (tx i)) k h) (nI k) = f_X7_digest_L112 FU c (htx tl tx h) 0 := by
    intro c h hR n
    obtain ⟨t1, t2, t3, t4⟩ := hR.2.1
    induction n with
    | zero => intro k _ h; omega
    | succ n ih =>
      intro k hk hnn
      rw [f_X7_digest_L80]
      simp only [f_X5_size, Option.bind_some, t2]
      rw [ite_leN (by omega) (by omega)]
      by_cases e : tl ≤ k
      · rw [if_pos e, show k = tl by omega]; rfl
      · rw [if_neg e, f_X5_codeAt, if_neg (nI_pos (by omega)), t2, ite_leN (by omega) (by omega), if_neg e, ite_in (show k < 60 by omega) (by decide), nI_clamp (by omega), (t4 k (by omega)).2.2.1]
        simp only [Option.bind_some, mix_c, lt, nI_1]
        exact ih (k + 1) (by omega) (by omega)
  obtain ⟨c2, s1, s2⟩ := mixs_c hR (it (hw1 nw ln wd wt) nw (hf (av nw ln wd wt) 6 1579))
  obtain ⟨c3, b1, b2⟩ := mixb_c s2 (hsq nw ln wd wt (it (hw1 nw ln wd wt) nw (hf (av nw ln wd wt) 6 1579)))
  have A := a6 FU 0 (by omega) (by have := FU_big; omega)
  have B := c47 c3 (hbd nw ln wd bd (hsq nw ln wd wt (it (hw1 nw ln wd wt) nw (hf (av nw ln wd wt) 6 1579)))) b2 FU 0 (by omega) (by have := FU_big; omega)
  have C := c80 c3 (hse nw ln wd (hbd nw ln wd bd (hsq nw ln wd wt (it (hw1 nw ln wd wt) nw (hf (av nw ln wd wt) 6 1579))))) b2 FU 0 (by omega) (by have := FU_big; have := hRT.1; omega)
  rw [nI_0] at A B C
  rw [mixw_c hW hC hRW hRF] at A
  simp only [Option.bind_some, s1, b1] at A
  /- the reference -/
  have m21 : ∀ (h : Int64) (n k : Nat) (st : St), k ≤ (if 0 < nw then 5 else 0) → 5 - k < n → Fr m st → st.2.2.1 0 = hf (sw nw ln wd) k h → ∃ st2, f_X8_digest_L21 n st (nI k) = f_X8_digest_L51 FU st2 0 ∧ Fr m st2 ∧ st2.2.2.1 0 = hse nw ln wd h := by
    intro h n
    induction n with
    | zero => intro k st _ h; omega
    | succ n ih =>
      intro k st hk hnn hF hj
      rw [f_X8_digest_L21, (hF.ml hM).1]
      simp only [f_X8_digest_J49]
      by_cases e0 : 0 < nw
      · rw [if_pos e0] at hk
        rw [show (5 : Int32) = nI 5 from rfl, ite_leN (by omega) (by omega), if_neg (nI_nle e0 (by omega))]
        by_cases e : 5 ≤ k
        · have : k = 5 := by omega
          subst this
          rw [if_pos e]
          exact ⟨st, rfl, hF, by rw [hse, if_pos e0]; exact hj⟩
        · obtain ⟨m2, q1, q2⟩ := snow_m hW (hF.ml hM) e0 (show k < 5 by omega)
          rw [if_neg e, q1]
          simp only [Option.bind_some, mix_m ((Fs_J q2).trans hj), lt, nI_1]
          exact ih (k + 1) _ (by rw [if_pos e0]; omega) (by omega) (hF.tr q2.1) rfl
      · rw [if_neg e0] at hk
        have : k = 0 := by omega
        subst this
        have hz : nI nw ≤ 0 := by rw [show nw = 0 by omega]; decide
        rw [if_pos hz]
        refine ⟨st, ?_, hF, by rw [hse, if_neg e0]; exact hj⟩
        split <;> rfl
  have m51 : ∀ (h : Int64) (n k : Nat) (st : St), k ≤ tl → tl - k < n → Fr m st → st.2.2.1 0 = hf (fun i => nI (tx i)) k h → ∃ st2, f_X8_digest_L51 n st (nI k) = f_X8_digest_L78 FU st2 0 ∧ Fr m st2 ∧ st2.2.2.1 0 = htx tl tx h := by
    intro h n
    obtain ⟨t1, t2, t3, t4⟩ := hRT
    induction n with
    | zero => intro k st _ h; omega
    | succ n ih =>
      intro k st hk hnn hF hj
      rw [f_X8_digest_L51, hF.1 4 (by decide), t3, ite_leN (by omega) (by omega)]
      by_cases e : tl ≤ k
      · have : k = tl := by omega
        subst this
        rw [if_pos e]
        exact ⟨st, rfl, hF, hj⟩
      · rw [if_neg e, ite_in (show k < 60 by omega) (by decide), nI_clamp (by omega), hF.2 4 (by decide) (by decide), (t4 k (by omega)).2.2.2, mix_m hj]
        simp only [Option.bind_some, lt, nI_1]
        exact ih (k + 1) _ (by omega) (by omega) hF rfl
  have hFj : Fr m (sJ m 0 1579) := sJ_Fr Fr.rf
  obtain ⟨p1, w1, w2, w3⟩ := mixw_m (m := sJ m 0 1579) hW (hFj.ml hM) (hFj.rw hRW) rfl
  have f1 : Fr m p1 := hFj.tr w2
  obtain ⟨p2, x1, x2, x3⟩ := mixs_m hW (f1.ml hM) (f1.rw hRW) w3
  have f2 : Fr m p2 := f1.tr x2
  obtain ⟨p3, y1, y2, y3⟩ := mixb_m (bd := bd) hW (f2.ml hM) (fun r hr => by rw [f2.2 3 (by decide) (by decide)]; exact (hRB r hr).2.1) x3
  have f3 : Fr m p3 := f2.tr y2
  obtain ⟨p4, z1, z2, z3⟩ := m21 _ FU 0 p3 (by omega) (by have := FU_big; omega) f3 y3
  obtain ⟨p5, v1, v2, v3⟩ := m51 _ FU 0 p4 (by omega) (by have := FU_big; have := hRT.1; omega) z2 z3
  rw [nI_0] at z1 v1
  obtain ⟨r, m', e1, e2, e3⟩ := tail_both FU FU 0 p5 _ (by omega) (by have := FU_big; omega) (by have := FU_big; omega) (v2.rel b2) v3
  rw [nI_0] at e1 e2
  refine ⟨r, c3, m', ?_, ?_, nw, ln, wd, wt, tl, tx, bd, e3⟩
  · rw [f_X7_digest]
    exact A.trans (B.trans (C.trans e1))
  · rw [f_X8_digest, lt, w1]
    simp only [Option.bind_some, x1, y1]
    exact z1.trans (v1.trans e2)
end
