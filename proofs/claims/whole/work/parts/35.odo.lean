/-! the reference's scratch rows; its odometer -/
def Fr (m m' : St) : Prop := (∀ k, k < 5 → m'.1 k = m.1 k) ∧ ∀ j, 1 ≤ j → j < 5 → m'.2.1 j = m.2.1 j
theorem Fr.rf {m : St} : Fr m m := ⟨fun _ _ => rfl, fun _ _ _ => rfl⟩
theorem Fr.tr {a b c : St} (h : Fr a b) (g : Fr b c) : Fr a c := ⟨fun k hk => (g.1 k hk).trans (h.1 k hk), fun j h1 h2 => (g.2 j h1 h2).trans (h.2 j h1 h2)⟩
theorem Fr.ml {nw ln : Nat} {wd : Nat → Nat → Nat} {m m' : St} (h : Fr m m') (g : ML nw ln wd m) : ML nw ln wd m' := ⟨(h.1 1 (by decide)).trans g.1, (h.1 0 (by decide)).trans g.2.1, fun w hw i hi => by rw [h.2 1 (by decide) (by decide)]; exact g.2.2 w hw i hi⟩
theorem Fr.rel {nw ln : Nat} {wd : Nat → Nat → Nat} {wt : Nat → Nat} {tl : Nat} {tx : Nat → Nat} {bd : Nat → Int32} {c m m' : St} (h : Fr m m') (g : RL9 nw ln wd wt tl tx bd c m) : RL9 nw ln wd wt tl tx bd c m' := by
  obtain ⟨hWL, ⟨t1, t2, t3, t4⟩, hCL, hML, hRW, hRB, hRN, hRF, hRP, hRH, hRK⟩ := g
  refine ⟨hWL, ⟨t1, t2, (h.1 4 (by decide)).trans t3, fun i hi => ?_⟩, hCL, h.ml hML, fun w hw => ?_, fun r hr => ?_, ⟨hRN.1.trans (h.1 2 (by decide)).symm, hRN.2.trans (h.1 3 (by decide)).symm⟩, hRF, hRP, hRH, hRK⟩
  · rw [h.2 4 (by decide) (by decide)]; exact t4 i hi
  · rw [h.2 2 (by decide) (by decide)]; exact hRW w hw
  · rw [h.2 3 (by decide) (by decide)]; exact hRB r hr
/-- a scratch row is another -/
def sR (m : St) (j : Nat) (g : Nat → Int32) : St := (m.1, va_up m.2.1 j g, m.2.2)
theorem sR_I (m : St) (j : Nat) (g : Nat → Int32) : (sR m j g).1 = m.1 := rfl
theorem sR_A (m : St) (j : Nat) (g : Nat → Int32) (i : Nat) : (sR m j g).2.1 i = if i = j then g else m.2.1 i := rfl
theorem sA_sR (m : St) (j i : Nat) (v : Int32) : sA m j i v = sR m j (upd (m.2.1 j) i v) := rfl
theorem sR_sR (m : St) (j : Nat) (g h : Nat → Int32) : sR (sR m j g) j h = sR m j h := by
  unfold sR
  have : va_up (va_up m.2.1 j g) j h = va_up m.2.1 j h := by
    funext i
    unfold va_up
    by_cases e : i = j <;> simp [e]
  rw [this]
theorem sR_Fr {m : St} {j : Nat} (h : 5 ≤ j) (g : Nat → Int32) : Fr m (sR m j g) := ⟨fun _ _ => rfl, fun i _ h2 => by rw [sR_A, if_neg (by omega)]⟩
/-- the rows are those of x -/
def Ax (nw d x : Nat) (m : St) : Prop := ∀ r, r < d → m.2.1 6 r = nI (dg nw d x r)
theorem dg_lt {nw d x r : Nat} (h : 0 < nw) : dg nw d x r < nw := Nat.mod_lt _ h
theorem begin_m6 {m : St} : ∃ g : Nat → Int32, f_X8_begin m = some (sR m 6 g) ∧ ∀ r, r < 4 → g r = 0 := by
  have loop : ∀ (n k : Nat) (g : Nat → Int32), k ≤ 4 → 4 - k < n → (∀ r, r < k → g r = 0) → ∃ g2 : Nat → Int32, f_X8_begin_L2 n (sR m 6 g) (nI k) = some (sR m 6 g2) ∧ ∀ r, r < 4 → g2 r = 0 := by
    intro n
    induction n with
    | zero => intro k g _ h2; omega
    | succ n ih =>
      intro k g hk hn hg
      rw [f_X8_begin_L2, show (4 : Int32) = nI 4 from rfl, ite_leN (by omega) (by omega)]
      by_cases e : 4 ≤ k
      · rw [if_pos e]
        exact ⟨g, rfl, fun r hr => hg r (by omega)⟩
      · rw [if_neg e, ite_in (show k < 4 by omega) (by decide), nI_clamp (by omega)]
        simp only [lt, nI_1]
        rw [sA_sR, sR_sR]
        have e6 : (sR m 6 g).2.1 6 = g := by rw [sR_A, if_pos rfl]
        rw [e6]
        exact ih (k + 1) _ (by omega) (by omega) (fun r hr => by
          rw [upd_at]
          by_cases e2 : r = k
          · rw [if_pos e2]
          · rw [if_neg e2]; exact hg r (by omega))
  obtain ⟨g2, h1, h2⟩ := loop FU 0 (m.2.1 6) (by omega) (by have := FU_big; omega) (fun r hr => by omega)
  have e : sR m 6 (m.2.1 6) = m := by
    unfold sR
    have : va_up m.2.1 6 (m.2.1 6) = m.2.1 := by
      funext i
      unfold va_up
      by_cases e : i = 6 <;> simp [e]
    rw [this]
  rw [e, nI_0] at h1
  exact ⟨g2, h1, h2⟩
theorem dg_zero {nw d r : Nat} : dg nw d 0 r = 0 := by
  unfold dg
  rw [Nat.zero_div, Nat.zero_mod]
/-- digits of x + 1 -/
theorem dg_succ {nw ln x r : Nat} (hr : r < ln) (hnw : 0 < nw) (hx : x % nw ^ (ln - 1 - r) = nw ^ (ln - 1 - r) - 1) (hd : dg nw ln x r ≠ nw - 1) : ∀ i, i < ln → dg nw ln (x + 1) i = if i < r then dg nw ln x i else if i = r then dg nw ln x r + 1 else 0 := fun i hi => by
  have hP : 0 < nw ^ (ln - 1 - r) := Nat.pow_pos hnw
  generalize hPe : nw ^ (ln - 1 - r) = P at hx hP
  generalize hq : x / P = q
  have hxq : x + 1 = (q + 1) * P := by
    have := Nat.div_add_mod x P
    rw [hq, hx] at this
    rw [Nat.add_mul, Nat.mul_comm q P]
    omega
  have hdq : dg nw ln x r = q % nw := by unfold dg; rw [hPe, hq]
  have hqm : q % nw ≠ nw - 1 := by rw [← hdq]; exact hd
  have hql : q % nw < nw := Nat.mod_lt _ hnw
  have hq1 : (q + 1) / nw = q / nw := by
    have h1 := Nat.div_add_mod q nw
    have h2 : q + 1 = nw * (q / nw) + (q % nw + 1) := by omega
    rw [h2, Nat.mul_add_div hnw, Nat.div_eq_of_lt (show q % nw + 1 < nw by omega), Nat.add_zero]
  by_cases e1 : i < r
  · rw [if_pos e1]
    unfold dg
    have hpow : nw ^ (ln - 1 - i) = P * nw * nw ^ (r - i - 1) := by
      rw [← hPe, ← Nat.pow_succ, ← Nat.pow_add]
      congr 1
      omega
    rw [hpow, hxq, Nat.mul_comm (q + 1) P, ← Nat.div_div_eq_div_mul, ← Nat.div_div_eq_div_mul, Nat.mul_div_cancel_left _ hP, hq1, ← Nat.div_div_eq_div_mul, ← Nat.div_div_eq_div_mul, hq]
  · rw [if_neg e1]
    by_cases e2 : i = r
    · rw [if_pos e2, e2, hdq]
      unfold dg
      rw [hPe, hxq, Nat.mul_comm (q + 1) P, Nat.mul_div_cancel_left _ hP, Nat.add_mod]
      by_cases h1 : nw = 1
      · subst h1; omega
      · rw [Nat.mod_eq_of_lt (show 1 < nw by omega), Nat.mod_eq_of_lt (by omega)]
    · rw [if_neg e2]
      unfold dg
      have hpow : P = nw ^ (ln - 1 - i) * (nw ^ (i - r - 1) * nw) := by
        rw [← hPe, ← Nat.pow_succ, ← Nat.pow_add]
        congr 1
        omega
      rw [hxq, hpow, ← Nat.mul_assoc, Nat.mul_comm (q + 1), Nat.mul_assoc, Nat.mul_div_cancel_left _ (Nat.pow_pos hnw), ← Nat.mul_assoc, Nat.mul_mod_left]
theorem next_m {nw ln : Nat} {wd : Nat → Nat → Nat} {m : St} (hW : WL nw ln wd) (hM : ML nw ln wd m) (h0 : 0 < nw) {x : Nat} (hx : x < nw ^ ln) (hA : Ax nw ln x m) : ∃ g : Nat → Int32, (x + 1 < nw ^ ln → f_X8_next m = some (1, sR m 6 g) ∧ Ax nw ln (x + 1) (sR m 6 g)) ∧ (x + 1 = nw ^ ln → f_X8_next m = some (0, sR m 6 g)) := by
  have hn := hW.1
  have hl := hW.2.1
  have loop : ∀ (n k : Nat) (g : Nat → Int32), k ≤ ln → k + 1 < n → x % nw ^ (ln - k) = nw ^ (ln - k) - 1 → (∀ r, r < ln → g r = if r < k then nI (dg nw ln x r) else 0) → ∃ g2 : Nat → Int32, (x + 1 < nw ^ ln → f_X8_next_L7 n (sR m 6 g) (nI k - 1) = some (1, sR m 6 g2) ∧ Ax nw ln (x + 1) (sR m 6 g2)) ∧ (x + 1 = nw ^ ln → f_X8_next_L7 n (sR m 6 g) (nI k - 1) = some (0, sR m 6 g2)) := by
    intro n
    induction n with
    | zero => intro k g _ h2; omega
    | succ n ih =>
      intro k g hk hnn hmod hg
      by_cases e : k = 0
      · subst e
        have hx1 : x + 1 = nw ^ ln := by
          rw [Nat.sub_zero, Nat.mod_eq_of_lt hx] at hmod
          have : 0 < nw ^ ln := Nat.pow_pos h0
          omega
        refine ⟨g, fun h => by omega, fun _ => ?_⟩
        have hneg : nI 0 - 1 < 0 := by rw [i32_lt]; decide
        have hneg2 : ¬ (0 ≤ nI 0 - 1) := by rw [i32_le]; decide
        rw [f_X8_next_L7, if_pos hneg, f_X8_next_J39, if_neg hneg2]
      · obtain ⟨r, rfl⟩ : ∃ r, k = r + 1 := ⟨k - 1, by omega⟩
        rw [nI_pred, f_X8_next_L7, if_neg (nI_pos (by omega)), ite_in (show r < 4 by omega) (by decide), nI_clamp (by omega)]
        have e6 : (sR m 6 g).2.1 6 = g := by rw [sR_A, if_pos rfl]
        have hdl : dg nw ln x r < nw := dg_lt h0
        have hgr : g r = nI (dg nw ln x r) := by rw [hg r (by omega), if_pos (by omega)]
        rw [e6, hgr, sR_I, hM.1, n1, pk_sub (show 1 ≤ nw by omega), ite_eqN (by omega) (by omega)]
        by_cases e2 : dg nw ln x r = nw - 1
        · have hm2 : x % nw ^ (ln - r) = nw ^ (ln - r) - 1 := by
            have hp : nw ^ (ln - r) = nw ^ (ln - (r + 1)) * nw := by rw [← Nat.pow_succ]; congr 1; omega
            have hP : 0 < nw ^ (ln - (r + 1)) := Nat.pow_pos h0
            have h3 : x / nw ^ (ln - (r + 1)) % nw = nw - 1 := by
              have : ln - 1 - r = ln - (r + 1) := by omega
              unfold dg at e2
              rw [this] at e2; exact e2
            rw [hp, Nat.mod_mul, hmod, h3, Nat.mul_sub, Nat.mul_one]
            have h4 : nw ^ (ln - (r + 1)) * 1 ≤ nw ^ (ln - (r + 1)) * nw := Nat.mul_le_mul_left _ h0
            omega
          rw [if_pos e2, ite_in (show r < 4 by omega) (by decide)]
          simp only [lt]
          rw [sA_sR, sR_sR, e6]
          have := ih r (upd g r 0) (by omega) (by omega) hm2 (fun i hi => by
            rw [upd_at]
            by_cases e3 : i = r
            · rw [if_pos e3, if_neg (by omega)]
            · rw [if_neg e3, hg i hi]
              by_cases e4 : i < r
              · rw [if_pos (by omega), if_pos e4]
              · rw [if_neg (by omega), if_neg e4])
          rw [Int32.sub_eq_add_neg] at this
          rw [← n1]
          exact this
        · rw [if_neg e2, f_X8_next_J39, if_pos (nI_pos' (by omega)), ite_in (show r < 4 by omega) (by decide), ite_in (show r < 4 by omega) (by decide)]
          simp only [lt]
          rw [nI_clamp (by omega), e6, hgr, sA_sR, sR_sR, e6, ← n1, nI_1]
          have hds := dg_succ (r := r) (by omega) h0 (by rw [show ln - 1 - r = ln - (r + 1) by omega]; exact hmod) e2
          refine ⟨upd g r (nI (dg nw ln x r + 1)), fun _ => ⟨rfl, fun i hi => ?_⟩, fun h => ?_⟩
          · rw [sR_A, if_pos rfl, upd_at, hds i hi]
            by_cases e3 : i = r
            · rw [if_pos e3, if_neg (by omega), if_pos e3]
            · rw [if_neg e3, hg i hi]
              by_cases e4 : i < r
              · rw [if_pos (by omega), if_pos e4]
              · rw [if_neg (by omega), if_neg e4, if_neg e3]; rfl
          · exfalso
            have h5 : dg nw ln x r = nw - 1 := by
              have hx1 : x = nw ^ ln - 1 := by omega
              unfold dg
              have hp : nw ^ ln = nw ^ (ln - 1 - r) * nw ^ (r + 1) := by rw [← Nat.pow_add]; congr 1; omega
              have hP : 0 < nw ^ (ln - 1 - r) := Nat.pow_pos h0
              have hQ : 0 < nw ^ (r + 1) := Nat.pow_pos h0
              have h6 : x = nw ^ (ln - 1 - r) * (nw ^ (r + 1) - 1) + (nw ^ (ln - 1 - r) - 1) := by
                rw [hx1, hp, Nat.mul_sub, Nat.mul_one]
                have : nw ^ (ln - 1 - r) * 1 ≤ nw ^ (ln - 1 - r) * nw ^ (r + 1) := Nat.mul_le_mul_left _ hQ
                omega
              rw [h6, Nat.mul_add_div hP, Nat.div_eq_of_lt (by omega), Nat.add_zero, Nat.pow_succ]
              have h7 : nw ^ r * nw - 1 = nw * (nw ^ r - 1) + (nw - 1) := by
                have : 0 < nw ^ r := Nat.pow_pos h0
                rw [Nat.mul_sub, Nat.mul_one, Nat.mul_comm nw]
                have : nw * 1 ≤ nw ^ r * nw := by rw [Nat.mul_comm (nw ^ r)]; exact Nat.mul_le_mul_left _ this
                omega
              rw [h7, Nat.mul_add_mod]
              exact Nat.mod_eq_of_lt (by omega)
            exact e2 h5
  have hs : sR m 6 (m.2.1 6) = m := by
    unfold sR
    have : va_up m.2.1 6 (m.2.1 6) = m.2.1 := by
      funext i
      unfold va_up
      by_cases e : i = 6 <;> simp [e]
    rw [this]
  have h9 := loop FU ln (m.2.1 6) (Nat.le_refl _) (by have := FU_big; omega) (by rw [Nat.sub_self, Nat.pow_zero, Nat.mod_one]) (fun r hr => by rw [if_pos hr]; exact hA r hr)
  rw [hs] at h9
  have e9 : f_X8_next m = f_X8_next_L7 FU m (nI ln - 1) := by rw [f_X8_next, lt, hM.2.1]
  rw [e9]
  exact h9
