section
/-! how often a word stands in squares -/
theorem Ax_sA {nw d x : Nat} {m : St} {j i : Nat} {v : Int32} (hj : j ≠ 6) (h : Ax nw d x m) : Ax nw d x (sA m j i v) := Ax_sR hj h
theorem Cx_sA {nw ln : Nat} {wd : Nat → Nat → Nat} {x : Nat} {m : St} {j i : Nat} {v : Int32} (hj : j ≠ 7) (h : Cx7 nw ln wd x m) : Cx7 nw ln wd x (sA m j i v) := fun r hr => by
  rw [sA_A, if_neg (fun e => hj e.symm)]; exact h r hr
def CT (nw ln : Nat) (wd : Nat → Nat → Nat) (x : Nat) (st : St) : Prop := ∀ w, w < nw → st.2.1 9 w = nI (inR nw ln wd w x) ∧ st.2.1 10 w = nI (inC nw ln wd w x) ∧ st.2.1 11 w = nI (inS nw ln wd w x)
theorem inR_s {nw ln : Nat} {wd : Nat → Nat → Nat} {w x : Nat} : inR nw ln wd w (x + 1) = inR nw ln wd w x + if P0 nw ln wd x then ct (fun r => dg nw ln x r == w) ln else 0 := rfl
theorem inC_s {nw ln : Nat} {wd : Nat → Nat → Nat} {w x : Nat} : inC nw ln wd w (x + 1) = inC nw ln wd w x + if P0 nw ln wd x then ct (fun r => hd nw wd ln x r == w) ln else 0 := rfl
theorem inS_s {nw ln : Nat} {wd : Nat → Nat → Nat} {w x : Nat} : inS nw ln wd w (x + 1) = inS nw ln wd w x + if (P1 nw ln wd x && an (fun r => dg nw ln x r == w) ln) then 1 else 0 := rfl
theorem P1_e {nw ln : Nat} {wd : Nat → Nat → Nat} {x : Nat} (h : P0 nw ln wd x = true) : P1 nw ln wd x = al (fun r => dg nw ln x r == hd nw wd ln x r) ln := by
  unfold P1; rw [h, Bool.true_and]
theorem cs66_m {nw ln : Nat} {wd : Nat → Nat → Nat} {m : St} (hW : WL nw ln wd) (hM : ML nw ln wd m) {x S : Nat} (hS : S < 2 ^ 12) (hb : ∀ w, S.testBit w = an (fun q => dg nw ln x q == w) ln) {f9 f10 : Nat → Nat} (hP : P0 nw ln wd x = true) : ∀ (n k : Nat) (st : St), k ≤ nw → nw - k < n → Fs m st → Ax nw ln x st → (∀ w, w < nw → st.2.1 9 w = nI (f9 w) ∧ st.2.1 10 w = nI (f10 w) ∧ st.2.1 11 w = nI (inS nw ln wd w (if w < k then x + 1 else x))) → ∃ st2, f_X8_countSquare_L66 n st (nI S) (bi (P1 nw ln wd x)) (nI k) = some st2 ∧ Fs m st2 ∧ Ax nw ln x st2 ∧ ∀ w, w < nw → st2.2.1 9 w = nI (f9 w) ∧ st2.2.1 10 w = nI (f10 w) ∧ st2.2.1 11 w = nI (inS nw ln wd w (x + 1)) := by
  have hn := hW.1
  intro n
  induction n with
  | zero => intro k st _ h; omega
  | succ n ih =>
    intro k st hk hnn hF hA hc
    have hM2 := hF.1.ml hM
    rw [f_X8_countSquare_L66, hM2.1, ite_leN (by omega) (by omega)]
    by_cases e : nw ≤ k
    · rw [if_pos e]
      exact ⟨st, rfl, hF, hA, fun w hw => by have := hc w hw; rw [if_pos (by omega)] at this; exact this⟩
    · have hk11 := (hc k (by omega)).2.2
      rw [if_neg (by omega)] at hk11
      have hv : (if bi (P1 nw ln wd x) = 0 then f_X8_countSquare_J98 (f_X8_countSquare_L66 n) st (nI S) (bi (P1 nw ln wd x)) (nI k) (st.2.1 11 k) (nI k) else if ((nI S >>> (nI k &&& 31)) &&& 1) = 1 then f_X8_countSquare_J99 (f_X8_countSquare_L66 n) st (nI S) (bi (P1 nw ln wd x)) (nI k) 1 (st.2.1 11 k) (nI k) else f_X8_countSquare_J98 (f_X8_countSquare_L66 n) st (nI S) (bi (P1 nw ln wd x)) (nI k) (st.2.1 11 k) (nI k)) = f_X8_countSquare_J99 (f_X8_countSquare_L66 n) st (nI S) (bi (P1 nw ln wd x)) (nI k) (nI (if (P1 nw ln wd x && an (fun r => dg nw ln x r == k) ln) then 1 else 0)) (st.2.1 11 k) (nI k) := by
        rw [bit_nI (by omega) (by omega), hb k]
        unfold f_X8_countSquare_J98
        cases h1 : P1 nw ln wd x with
        | false => rfl
        | true =>
          cases h2 : an (fun r => dg nw ln x r == k) ln with
          | false => rfl
          | true => rfl
      rw [if_neg e, ite_in (show k < 12 by omega) (by decide), nI_clamp (by omega), hv, f_X8_countSquare_J99, ite_in (show k < 12 by omega) (by decide), nI_clamp (by omega), hk11, nI_add, lt, lt, nI_1]
      refine ih (k + 1) _ (by omega) (by omega) (hF.tr (sA_Fs (by decide))) (Ax_sA (by decide) hA) (fun w hw => ?_)
      have hcw := hc w hw
      refine ⟨hcw.1, hcw.2.1, ?_⟩
      rw [sA_A, if_pos rfl, upd_at]
      by_cases e2 : w = k
      · rw [if_pos e2, if_pos (show w < k + 1 by omega), e2]; rfl
      · rw [if_neg e2, hcw.2.2]
        by_cases e3 : w < k
        · rw [if_pos e3, if_pos (by omega)]
        · rw [if_neg e3, if_neg (by omega)]
theorem cs_m {nw ln : Nat} {wd : Nat → Nat → Nat} {m : St} (hW : WL nw ln wd) (hM : ML nw ln wd m) (h0 : 0 < nw) {x : Nat} (hP : P0 nw ln wd x = true) {st : St} (hF : Fs m st) (hA : Ax nw ln x st) (hC : Cx7 nw ln wd x st) (hc : CT nw ln wd x st) : ∃ st2, f_X8_countSquare st = some st2 ∧ Fs m st2 ∧ Ax nw ln x st2 ∧ CT nw ln wd (x + 1) st2 := by
  have hn := hW.1
  have hl := hW.2.1
  have loop : ∀ (n k S : Nat) (st : St), k ≤ ln → ln - k < n → Fs m st → Ax nw ln x st → Cx7 nw ln wd x st → S < 2 ^ 12 → (∀ w, S.testBit w = an (fun q => dg nw ln x q == w) k) → (∀ w, w < nw → st.2.1 9 w = nI (inR nw ln wd w x + ct (fun r => dg nw ln x r == w) k) ∧ st.2.1 10 w = nI (inC nw ln wd w x + ct (fun r => hd nw wd ln x r == w) k) ∧ st.2.1 11 w = nI (inS nw ln wd w x)) → ∃ st2, f_X8_countSquare_L4 n st (nI S) (nI k) = some st2 ∧ Fs m st2 ∧ Ax nw ln x st2 ∧ CT nw ln wd (x + 1) st2 := by
    intro n
    induction n with
    | zero => intro k S st _ h; omega
    | succ n ih =>
      intro k S st hk hnn hF hA hC hS hb hc
      have hM2 := hF.1.ml hM
      rw [f_X8_countSquare_L4, hM2.2.1, ite_leN (by omega) (by omega)]
      by_cases e : ln ≤ k
      · have e1 : k = ln := by omega
        subst e1
        rw [if_pos e, same_m hW hM2 h0 hA hC hP, ← P1_e hP]
        simp only [Option.bind_some]
        obtain ⟨st2, h1, h2, h3, h4⟩ := cs66_m hW hM hS hb (f9 := fun w => inR nw k wd w x + ct (fun r => dg nw k x r == w) k) (f10 := fun w => inC nw k wd w x + ct (fun r => hd nw wd k x r == w) k) hP FU 0 st (by omega) (by have := FU_big; omega) hF hA (fun w hw => by
          rw [if_neg (by omega)]; exact hc w hw)
        refine ⟨st2, h1, h2, h3, fun w hw => ?_⟩
        rw [inR_s, inC_s, if_pos hP, if_pos hP]
        exact h4 w hw
      · have b1 : dg nw ln x k < nw := dg_lt h0
        have b2 := hd_lt hP (show k < ln by omega)
        have i4 : ∀ {a b : Option St}, (if inb (nI k) 4 = true then a else b) = a := fun {a b} => ite_in (show k < 4 by omega) (by decide)
        have i12 : ∀ {a b : Option St}, (if inb (nI (dg nw ln x k)) 12 = true then a else b) = a := fun {a b} => ite_in (show dg nw ln x k < 12 by omega) (by decide)
        have j12 : ∀ {a b : Option St}, (if inb (nI (hd nw wd ln x k)) 12 = true then a else b) = a := fun {a b} => ite_in (show hd nw wd ln x k < 12 by omega) (by decide)
        rw [if_neg e]
        simp only [i4, nI_clamp (show k < 2 ^ 31 by omega), hA k (by omega), i12, nI_clamp (show dg nw ln x k < 2 ^ 31 by omega), lt]
        have hA2 := Ax_sA (j := 9) (i := dg nw ln x k) (v := st.2.1 9 (dg nw ln x k) + 1) (by decide) hA
        have hC2 := Cx_sA (j := 9) (i := dg nw ln x k) (v := st.2.1 9 (dg nw ln x k) + 1) (by decide) hC
        rw [hC2 k (by omega)]
        simp only [j12, nI_clamp (show hd nw wd ln x k < 2 ^ 31 by omega)]
        have hA3 := Ax_sA (j := 10) (i := hd nw wd ln x k) (v := (sA st 9 (dg nw ln x k) (st.2.1 9 (dg nw ln x k) + 1)).2.1 10 (hd nw wd ln x k) + 1) (by decide) hA2
        have hC3 := Cx_sA (j := 10) (i := hd nw wd ln x k) (v := (sA st 9 (dg nw ln x k) (st.2.1 9 (dg nw ln x k) + 1)).2.1 10 (hd nw wd ln x k) + 1) (by decide) hC2
        rw [hA3 k (by omega), setb_nI (by omega), nI_1]
        refine ih (k + 1) _ _ (by omega) (by omega) ((hF.tr (sA_Fs (by decide))).tr (sA_Fs (by decide))) hA3 hC3 (or_lt12 hS (by omega)) (fun w => ?_) (fun w hw => ?_)
        · rw [tb_or, hb, an]
          rfl
        · have hcw := hc w hw
          have hcd := hc _ b1
          have hch := hc _ b2
          refine ⟨?_, ?_, hcw.2.2⟩
          · rw [sA_A, if_neg (by decide), sA_A, if_pos rfl, upd_at, hcd.1, nI_1, ct]
            by_cases e2 : w = dg nw ln x k
            · rw [if_pos e2, e2]
              simp only [beq_self_eq_true, if_true]
              rfl
            · have e3 : (dg nw ln x k == w) = false := by simp; exact fun q => e2 q.symm
              rw [if_neg e2, hcw.1, e3]
              rfl
          · rw [sA_A, if_pos rfl, upd_at]
            have e10 : (sA st 9 (dg nw ln x k) (st.2.1 9 (dg nw ln x k) + 1)).2.1 10 = st.2.1 10 := rfl
            rw [e10, hch.2.1, nI_1, ct]
            by_cases e2 : w = hd nw wd ln x k
            · rw [if_pos e2, e2]
              simp only [beq_self_eq_true, if_true]
              rfl
            · have e3 : (hd nw wd ln x k == w) = false := by simp; exact fun q => e2 q.symm
              rw [if_neg e2, hcw.2.1, e3]
              rfl
  have h9 := loop FU 0 0 st (by omega) (by have := FU_big; omega) hF hA hC (by decide) (fun w => by rw [Nat.zero_testBit]; rfl) (fun w hw => by
    have := hc w hw
    exact this)
  rw [f_X8_countSquare]
  exact h9
theorem lc_m {nw ln : Nat} {wd : Nat → Nat → Nat} {m : St} (hW : WL nw ln wd) (hM : ML nw ln wd m) : ∃ m2, f_X8_layCounts m = some m2 ∧ Fs m m2 ∧ CT nw ln wd (NN nw ln) m2 := by
  have hN := NN_le hW
  have hn := hW.1
  have zero : ∀ (n k : Nat) (st : St), k ≤ 12 → 12 - k < n → Fs m st → (∀ w, w < k → st.2.1 9 w = 0 ∧ st.2.1 10 w = 0 ∧ st.2.1 11 w = 0) → ∃ st2, f_X8_layCounts_L2 n st (nI k) = ((f_X8_begin st2).bind fun b36 => if (b36.1 1) ≤ 0 then f_X8_layCounts_J51 b36 0 else f_X8_layCounts_J51 b36 1) ∧ Fs m st2 ∧ ∀ w, w < 12 → st2.2.1 9 w = 0 ∧ st2.2.1 10 w = 0 ∧ st2.2.1 11 w = 0 := by
    intro n
    induction n with
    | zero => intro k st _ h; omega
    | succ n ih =>
      intro k st hk hnn hF hz
      rw [f_X8_layCounts_L2, show (12 : Int32) = nI 12 from rfl, ite_leN (by omega) (by omega)]
      by_cases e : 12 ≤ k
      · rw [if_pos e]
        exact ⟨st, rfl, hF, fun w hw => hz w (by omega)⟩
      · have i12 : ∀ {a b : Option St}, (if inb (nI k) 12 = true then a else b) = a := fun {a b} => ite_in (show k < 12 by omega) (by decide)
        rw [if_neg e]
        simp only [i12, nI_clamp (show k < 2 ^ 31 by omega), lt, nI_1]
        refine ih (k + 1) _ (by omega) (by omega) (((hF.tr (sA_Fs (by decide))).tr (sA_Fs (by decide))).tr (sA_Fs (by decide))) (fun w hw => ?_)
        refine ⟨?_, ?_, ?_⟩
        · rw [sA_A, if_neg (by decide), sA_A, if_neg (by decide), sA_A, if_pos rfl, upd_at]
          by_cases e2 : w = k
          · rw [if_pos e2]
          · rw [if_neg e2]; exact (hz w (by omega)).1
        · rw [sA_A, if_neg (by decide), sA_A, if_pos rfl, upd_at]
          by_cases e2 : w = k
          · rw [if_pos e2]
          · rw [if_neg e2]; exact (hz w (by omega)).2.1
        · rw [sA_A, if_pos rfl, upd_at]
          by_cases e2 : w = k
          · rw [if_pos e2]
          · rw [if_neg e2]; exact (hz w (by omega)).2.2
  have loop : ∀ (n x : Nat) (m' : St), x ≤ NN nw ln → NN nw ln - x < n → Fs m m' → (x < NN nw ln → Ax nw ln x m') → CT nw ln wd x m' → ∃ m2, f_X8_layCounts_L52 n m' (bi (decide (x < NN nw ln))) = some m2 ∧ Fs m m2 ∧ CT nw ln wd (NN nw ln) m2 := by
    intro n
    induction n with
    | zero => intro x m' _ h2; omega
    | succ n ih =>
      intro x m' hx hnn hF hA hc
      rw [f_X8_layCounts_L52]
      by_cases e : x < NN nw ln
      · have h0 := nz_of e
        obtain ⟨g, h1, h1b⟩ := sq_m hW (hF.1.ml hM) h0 (hA e)
        have hF2 := hF.tr (sR_Fs (m := m') (show 5 ≤ 7 by decide) g)
        have hA2 := Ax_sR (g := g) (show 7 ≠ 6 by decide) (hA e)
        have hc2 : CT nw ln wd x (sR m' 7 g) := hc
        rw [decide_eq_true e, bi_t, if_neg (by decide), h1]
        cases hp : P0 nw ln wd x with
        | false =>
          obtain ⟨g2, h3, h4⟩ := nx_m hW (hF2.1.ml hM) e hA2
          have hp1 : P1 nw ln wd x = false := by unfold P1; rw [hp]; rfl
          have ih1 := ih (x + 1) _ (by omega) (by omega) (hF2.tr (sR_Fs (m := sR m' 7 g) (show 5 ≤ 6 by decide) g2)) h4 (fun w hw => by
            have := hc2 w hw
            rw [inR_s, inC_s, inS_s, hp, hp1]
            exact this)
          simp only [Option.bind_some, bi_f, f_X8_layCounts_J67, h3]
          rw [if_pos trivial]
          exact ih1
        | true =>
          obtain ⟨st2, s1, s2, s3, s4⟩ := cs_m hW hM h0 hp hF2 hA2 (h1b hp) hc2
          obtain ⟨g2, h3, h4⟩ := nx_m hW (s2.1.ml hM) e s3
          have ih1 := ih (x + 1) _ (by omega) (by omega) (s2.tr (sR_Fs (m := st2) (show 5 ≤ 6 by decide) g2)) h4 s4
          simp only [Option.bind_some, bi_t, f_X8_layCounts_J67, i10, if_false, s1, h3]
          exact ih1
      · rw [decide_eq_false e, bi_f, if_pos rfl]
        have : x = NN nw ln := by omega
        subst this
        exact ⟨m', rfl, hF, hc⟩
  obtain ⟨st2, z1, z2, z3⟩ := zero FU 0 m (by omega) (by have := FU_big; omega) Fs.rf (fun w hw => by omega)
  obtain ⟨g, h1, h2⟩ := bg_m (m := st2) hW
  have h9 := loop FU 0 (sR st2 6 g) (by omega) (by have := FU_big; omega) (z2.tr (sR_Fs (by decide) g)) (fun _ => h2) (fun w hw => by
    have := z3 w (by omega)
    exact this)
  rw [nI_0] at z1
  rw [f_X8_layCounts, z1, h1]
  simp only [Option.bind_some, f_X8_layCounts_J51, sR_I, (z2.1.ml hM).1]
  rw [more_m hW (fun t => f_X8_layCounts_L52 FU (sR st2 6 g) t)]
  exact h9
/-- what is told of a word -/
noncomputable def wv (nw ln : Nat) (wd : Nat → Nat → Nat) (wt : Nat → Nat) (w k : Nat) : Int32 := if k = 0 then nI (wt w) else if k = 1 then orN nw (rv nw ln wd w) else if k = 2 then nI (inR nw ln wd w (NN nw ln)) else if k = 3 then nI (inC nw ln wd w (NN nw ln)) else nI (inS nw ln wd w (NN nw ln))
theorem wnow_m {nw ln : Nat} {wd : Nat → Nat → Nat} {wt : Nat → Nat} {c m : St} (hW : WL nw ln wd) (hM : ML nw ln wd m) (hRW : RW nw wt c m) {w k : Nat} (hw : w < nw) (hk : k < 5) (hc : 2 ≤ k → CT nw ln wd (NN nw ln) m) : f_X8_wordNow m (nI w) (nI k) = some (wv nw ln wd wt w k) := by
  have hn := hW.1
  have i12 : ∀ {a b : Option Int32}, (if inb (nI w) 12 = true then a else b) = a := fun {a b} => ite_in (show w < 12 by omega) (by decide)
  unfold f_X8_wordNow
  simp only [i12, nI_clamp (show w < 2 ^ 31 by omega), mirror_m hW hM hw, Option.bind_some, (hRW w hw).2.2.2]
  rcases (show k = 0 ∨ k = 1 ∨ k = 2 ∨ k = 3 ∨ k = 4 by omega) with rfl | rfl | rfl | rfl | rfl
  · rfl
  · rfl
  · rw [(hc (by omega) w hw).1]; rfl
  · rw [(hc (by omega) w hw).2.1]; rfl
  · rw [(hc (by omega) w hw).2.2]; rfl
theorem word_c {nw ln : Nat} {wd : Nat → Nat → Nat} {wt : Nat → Nat} {c m : St} (hW : WL nw ln wd) (hC : CL nw ln wd c) (hRW : RW nw wt c m) (hF : RF nw ln wd c) {w k : Nat} (hw : w < nw) (hk : k < 5) (h1 : f_X6_has c (nI w) = some 1) : f_X7_word c (nI w) (nI k) = some (wv nw ln wd wt w k) := by
  have hn := hW.1
  have i16 : ∀ {a b : Option Int32}, (if inb (nI w) 16 = true then a else b) = a := fun {a b} => ite_in (show w < 16 by omega) (by decide)
  have hm := mirror_c hW hC hw
  have hf := hF.2.2.2.1 w hw
  have hm2 : ((f_X6_reversalOf c (nI w)).bind fun b66 => (f_X6_find c b66).bind fun b69 => some b69) = some (orN nw (rv nw ln wd w)) := by
    rw [← hm]
    cases f_X6_reversalOf c (nI w) with
    | none => rfl
    | some v =>
      simp only [Option.bind_some]
      cases f_X6_find c v <;> rfl
  unfold f_X7_word
  rw [h1]
  simp only [Option.bind_some, i10, if_false, hm2, f_X6_weightOf, f_X2_timesInRows, f_X2_timesInColumns, f_X2_timesInSymmetric, and15 (show w < 16 by omega), i16, nI_clamp (show w < 2 ^ 31 by omega), (hRW w hw).2.2.1, hf.1, hf.2.1, hf.2.2]
  rcases (show k = 0 ∨ k = 1 ∨ k = 2 ∨ k = 3 ∨ k = 4 by omega) with rfl | rfl | rfl | rfl | rfl <;> rfl
theorem Fr.rw {nw : Nat} {wt : Nat → Nat} {c m m' : St} (h : Fr m m') (g : RW nw wt c m) : RW nw wt c m' := fun w hw => by rw [h.2 2 (by decide) (by decide)]; exact g w hw
theorem op7 : Op_7 Rel := by
  intro c m a b hR
  obtain ⟨nw, ln, wd, wt, tl, tx, bd, hR0⟩ := hR
  have hR1 := hR0
  obtain ⟨hWL, hRT, hCL, hML, hRW, hRB, hRN, hRF, hRP, hRH, hRK⟩ := hR0
  rcases has_both hWL.1 hCL.1 hML.1 a with ⟨w, hw, rfl, h1, h2⟩ | ⟨h1, h2⟩
  · have e2 : (nI 5 - 1) = 4 := by decide
    have h := within_n b (show 5 < 2 ^ 30 by decide)
    rw [e2] at h
    rcases h with ⟨k, hk, rfl, hw2⟩ | ⟨h, hw2⟩
    · by_cases e : k ≤ 1
      · refine ⟨wv nw ln wd wt w k, m, word_c hWL hCL hRW hRF hw hk h1, ?_, nw, ln, wd, wt, tl, tx, bd, hR1⟩
        simp only [f_X8_word, h2, Option.bind_some, i10, if_false, hw2, f_X8_wordTold]
        rw [n1, ite_leN (by omega) (by omega), if_pos e, f_X8_wordTold_J9, wnow_m hWL hML hRW hw hk (fun h => by omega)]
        rfl
      · obtain ⟨m2, g1, g2, g3⟩ := lc_m hWL hML
        refine ⟨wv nw ln wd wt w k, m2, word_c hWL hCL hRW hRF hw hk h1, ?_, nw, ln, wd, wt, tl, tx, bd, g2.1.rel hR1⟩
        simp only [f_X8_word, h2, Option.bind_some, i10, if_false, hw2, f_X8_wordTold]
        rw [n1, ite_leN (by omega) (by omega), if_neg e, g1]
        simp only [Option.bind_some]
        rw [f_X8_wordTold_J9, wnow_m hWL (g2.1.ml hML) (g2.1.rw hRW) hw hk (fun _ => g3)]
        rfl
    · refine ⟨-102, m, ?_, ?_, nw, ln, wd, wt, tl, tx, bd, hR1⟩
      · have ne : ∀ k : Nat, k < 5 → ¬ (b = nI k) := fun k hk q => by
          rw [q, nI_toInt (by omega)] at h; omega
        unfold f_X7_word
        rw [h1]
        simp only [Option.bind_some, i10, if_false]
        rw [if_neg (show ¬ (b = 0) from ne 0 (by decide)), if_neg (show ¬ (b = 1) from ne 1 (by decide)), if_neg (show ¬ (b = 2) from ne 2 (by decide)), if_neg (show ¬ (b = 3) from ne 3 (by decide)), if_neg (show ¬ (b = 4) from ne 4 (by decide))]
      · simp only [f_X8_word, h2, Option.bind_some, i10, if_false, hw2, i00, if_true]
  · refine ⟨-101, m, ?_, ?_, nw, ln, wd, wt, tl, tx, bd, hR1⟩
    · simp only [f_X7_word, h1, Option.bind_some, i00, if_true]
    · simp only [f_X8_word, h2, Option.bind_some, i00, if_true]
end
