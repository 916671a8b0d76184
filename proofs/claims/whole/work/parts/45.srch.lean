section
/-! the search told -/
theorem gm_f {nw ln : Nat} {wd : Nat → Nat → Nat} : ∀ k x s, gm false nw ln wd k x s = ((s.1 + vis nw ln wd k x, s.2.1 + ded nw ln wd k x, s.2.2), fnd nw ln wd k x)
  | 0, x, s => rfl
  | k + 1, x, s => by
    have hf : ∀ n (s : GT), gfold (fun w s => if isSt nw ln wd (ln - k) (x * nw + w) then gm false nw ln wd k (x * nw + w) s else (s, false)) n s = ((s.1 + sm (fun w => if isSt nw ln wd (ln - k) (x * nw + w) then vis nw ln wd k (x * nw + w) else 0) n, s.2.1 + sm (fun w => if isSt nw ln wd (ln - k) (x * nw + w) then ded nw ln wd k (x * nw + w) else 0) n, s.2.2), an (fun w => isSt nw ln wd (ln - k) (x * nw + w) && fnd nw ln wd k (x * nw + w)) n) := by
      intro n
      induction n with
      | zero => intro s; rfl
      | succ n ih =>
        intro s
        rw [gfold, ih, sm, sm, an]
        dsimp only
        cases isSt nw ln wd (ln - k) (x * nw + n) with
        | false => simp
        | true =>
          simp only [if_true, gm_f k (x * nw + n), Bool.true_and]
          rw [Nat.add_assoc, Nat.add_assoc]
    rw [gm, Bool.false_and, if_neg (by decide), hf, gfin, vis, ded]
    have e : an (fun w => isSt nw ln wd (ln - k) (x * nw + w) && fnd nw ln wd k (x * nw + w)) nw = fnd nw ln wd (k + 1) x := rfl
    rw [e]
    cases fnd nw ln wd (k + 1) x with
    | true =>
      simp only [if_true, Nat.zero_add]
      rw [Nat.add_assoc]
    | false =>
      simp only [Bool.false_eq_true, if_false]
      rw [Nat.add_assoc, Nat.add_assoc, Nat.add_comm (sm _ nw) 1]
def pj (s : GT) : MT := (s.1, s.2.2.1, s.2.2.2)
theorem gm_t {nw ln : Nat} {wd : Nat → Nat → Nat} : ∀ k x s, mem nw ln wd k x (pj s) = (pj (gm true nw ln wd k x s).1, (gm true nw ln wd k x s).2)
  | 0, x, s => rfl
  | k + 1, x, s => by
    have hf : ∀ n (s : GT), mfold (fun w s => if isSt nw ln wd (ln - k) (x * nw + w) then mem nw ln wd k (x * nw + w) s else (s, false)) n (pj s) = (pj (gfold (fun w s => if isSt nw ln wd (ln - k) (x * nw + w) then gm true nw ln wd k (x * nw + w) s else (s, false)) n s).1, (gfold (fun w s => if isSt nw ln wd (ln - k) (x * nw + w) then gm true nw ln wd k (x * nw + w) s else (s, false)) n s).2) := by
      intro n
      induction n with
      | zero => intro s; rfl
      | succ n ih =>
        intro s
        rw [mfold, ih, gfold]
        dsimp only
        cases isSt nw ln wd (ln - k) (x * nw + n) with
        | false => rfl
        | true =>
          simp only [if_true, gm_t k (x * nw + n)]
    have h1 := hf nw (s.1 + 1, s.2)
    rw [mem, gm]
    have e1 : (pj s).2.2 = s.2.2.2 := rfl
    rw [e1, Bool.true_and]
    by_cases hc : key nw ln wd (ln - (k + 1)) x ∈ s.2.2.2
    · rw [if_pos hc, decide_eq_true hc, if_pos rfl]; rfl
    · rw [if_neg hc, decide_eq_false hc, if_neg (show ¬ (false = true) by decide)]
      have e2 : ((pj s).1 + 1, (pj s).2) = pj (s.1 + 1, s.2) := rfl
      rw [e2, h1]
      generalize gfold (fun w s => if isSt nw ln wd (ln - k) (x * nw + w) then gm true nw ln wd k (x * nw + w) s else (s, false)) nw (s.1 + 1, s.2) = q
      unfold gfin
      cases hq : q.2 with
      | true => simp [hq]
      | false =>
        by_cases h : key nw ln wd (ln - (k + 1)) x ∈ q.1.2.2.2
        · simp [pj, h]
        · simp [pj, h]
/-- what the search tells -/
noncomputable def sw (nw ln : Nat) (wd : Nat → Nat → Nat) (k : Nat) : Int32 := if k = 0 then nI (vis nw ln wd ln 0) else if k = 1 then nI (ded nw ln wd ln 0) else if k = 2 then nI (mm0 nw ln wd).1 else if k = 3 then nI (mm0 nw ln wd).2.1 else nI (mm0 nw ln wd).2.2.length
theorem snow_m {nw ln : Nat} {wd : Nat → Nat → Nat} {m : St} (hW : WL nw ln wd) (hM : ML nw ln wd m) (h0 : 0 < nw) {k : Nat} (hk : k < 5) : ∃ m2, f_X8_searchNow m (nI k) = some (sw nw ln wd k, m2) ∧ Fs m m2 := by
  by_cases e : k ≤ 1
  · obtain ⟨m2, g1, g2, g3⟩ := goes_m (kp := false) hW hM h0
    rw [gm_f] at g3
    refine ⟨m2, ?_, g2⟩
    rw [bi_f] at g1
    have h1 : m2.1 9 = nI (vis nw ln wd ln 0) := by rw [g3.1]; show nI (0 + vis nw ln wd ln 0) = _; rw [Nat.zero_add]
    have h2 : m2.1 10 = nI (ded nw ln wd ln 0) := by rw [g3.2.1]; show nI (0 + ded nw ln wd ln 0) = _; rw [Nat.zero_add]
    rcases (show k = 0 ∨ k = 1 by omega) with rfl | rfl
    · rw [f_X8_searchNow, if_pos (by decide), f_X8_searchNow_J11, g1]
      simp only [Option.bind_some]
      rw [if_pos (show nI 0 = 0 by decide), f_X8_searchNow_J23, h1]; rfl
    · rw [f_X8_searchNow, if_pos (by decide), f_X8_searchNow_J11, g1]
      simp only [Option.bind_some]
      rw [if_neg (by decide), if_neg (by decide), if_pos (show nI 1 = 1 by decide), h2]; rfl
  · obtain ⟨m2, g1, g2, g3⟩ := goes_m (kp := true) hW hM h0
    have g4 : mm0 nw ln wd = pj (gm true nw ln wd ln 0 (0, 0, 0, [])).1 := by
      unfold mm0
      have := gm_t (nw := nw) (ln := ln) (wd := wd) ln 0 (0, 0, 0, [])
      rw [show pj (0, 0, 0, []) = (0, 0, []) from rfl] at this
      rw [this]
    refine ⟨m2, ?_, g2⟩
    rw [bi_t] at g1
    have h1 : m2.1 9 = nI (mm0 nw ln wd).1 := by rw [g4]; exact g3.1
    have h2 : m2.1 11 = nI (mm0 nw ln wd).2.1 := by rw [g4]; exact g3.2.2.1
    have h3 : m2.1 12 = nI (mm0 nw ln wd).2.2.length := by rw [g4]; exact g3.2.2.2.1
    rcases (show k = 2 ∨ k = 3 ∨ k = 4 by omega) with rfl | rfl | rfl
    · rw [f_X8_searchNow, if_neg (by decide), f_X8_searchNow_J11, g1]
      simp only [Option.bind_some]
      rw [if_neg (by decide), if_pos (show nI 2 = 2 by decide), f_X8_searchNow_J23, h1]; rfl
    · rw [f_X8_searchNow, if_neg (by decide), f_X8_searchNow_J11, g1]
      simp only [Option.bind_some]
      rw [if_neg (by decide), if_neg (by decide), if_neg (by decide), if_pos (show nI 3 = 3 by decide), h2]; rfl
    · rw [f_X8_searchNow, if_neg (by decide), f_X8_searchNow_J11, g1]
      simp only [Option.bind_some]
      rw [if_neg (by decide), if_neg (by decide), if_neg (by decide), if_neg (by decide), h3]; rfl
theorem srch_c {nw ln : Nat} {wd : Nat → Nat → Nat} {c : St} (hW : WL nw ln wd) (hC : CL nw ln wd c) (hF : RF nw ln wd c) (h0 : 0 < nw) {k : Nat} (hk : k < 5) : f_X7_search c (nI k) = some (sw nw ln wd k) := by
  have hn := hW.1
  have hf := hF.2.2.2.2 h0
  have hz : ¬ (nI nw = 0) := by rw [← nI_0, nI_eq_iff (by omega) (by omega)]; omega
  rw [f_X7_search, if_neg (nI_pos (by omega)), n4, ite_leN (by omega) (by omega), if_pos (by omega)]
  simp only [f_X6_size, Option.bind_some, hC.1]
  rw [if_neg hz]
  simp only [f_X2_plainVisits, f_X2_plainDead, f_X2_memoryVisits, f_X2_memoryCuts, f_X2_memorySize, f_X1_size, Option.bind_some, hf.1, hf.2.1, hf.2.2.1, hf.2.2.2.1, hf.2.2.2.2]
  rcases (show k = 0 ∨ k = 1 ∨ k = 2 ∨ k = 3 ∨ k = 4 by omega) with rfl | rfl | rfl | rfl | rfl <;> rfl
theorem op21 : Op_21 Rel := by
  intro c m a hR
  obtain ⟨nw, ln, wd, wt, tl, tx, bd, hR0⟩ := hR
  have hR1 := hR0
  obtain ⟨hWL, hRT, hCL, hML, hRW, hRB, hRN, hRF, hRP, hRH, hRK⟩ := hR0
  have hn := hWL.1
  have e2 : (nI 5 - 1) = 4 := by decide
  have h := within_n a (show 5 < 2 ^ 30 by decide)
  rw [e2] at h
  rcases h with ⟨k, hk, rfl, hw2⟩ | ⟨h, hw2⟩
  · rcases Nat.eq_zero_or_pos nw with h0 | h0
    · refine ⟨-103, m, ?_, ?_, nw, ln, wd, wt, tl, tx, bd, hR1⟩
      · rw [f_X7_search, if_neg (nI_pos (by omega)), n4, ite_leN (by omega) (by omega), if_pos (by omega)]
        simp only [f_X6_size, Option.bind_some, hCL.1, h0]
        rw [if_pos nI_0]
      · simp only [f_X8_search, hw2, Option.bind_some, i10, if_false, hML.1, h0]
        rw [if_pos (by decide)]
    · obtain ⟨m2, g1, g2⟩ := snow_m hWL hML h0 hk
      refine ⟨_, m2, srch_c hWL hCL hRF h0 hk, ?_, nw, ln, wd, wt, tl, tx, bd, g2.1.rel hR1⟩
      simp only [f_X8_search, hw2, Option.bind_some, i10, if_false, hML.1, g1]
      rw [if_neg (nI_nle h0 (by omega))]
  · refine ⟨-102, m, ?_, ?_, nw, ln, wd, wt, tl, tx, bd, hR1⟩
    · unfold f_X7_search f_X7_search_J9
      by_cases e : a < 0
      · rw [if_pos e]
      · rw [if_neg e, if_neg]
        rw [i32_lt, i0] at e
        rw [i32_le, n4, nI_toInt (by omega)]
        omega
    · simp only [f_X8_search, hw2, Option.bind_some, i00, if_true]
end
