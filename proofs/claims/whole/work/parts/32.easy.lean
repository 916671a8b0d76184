theorem ite_leN {α : Type} {a b : Nat} (ha : a < 2 ^ 31) (hb : b < 2 ^ 31) (x y : α) : (if nI a ≤ nI b then x else y) = if a ≤ b then x else y := by
  by_cases h : a ≤ b
  · rw [if_pos h, if_pos ((nI_leI ha hb).mpr h)]
  · rw [if_neg h, if_neg (fun q => h ((nI_leI ha hb).mp q))]
theorem ite_ltN {α : Type} {a b : Nat} (ha : a < 2 ^ 31) (hb : b < 2 ^ 31) (x y : α) : (if nI a < nI b then x else y) = if a < b then x else y := by
  by_cases h : a < b
  · rw [if_pos h, if_pos ((nI_ltI ha hb).mpr h)]
  · rw [if_neg h, if_neg (fun q => h ((nI_ltI ha hb).mp q))]
theorem ite_eqN {α : Type} {a b : Nat} (ha : a < 2 ^ 31) (hb : b < 2 ^ 31) (x y : α) : (if nI a = nI b then x else y) = if a = b then x else y := by
  by_cases h : a = b
  · rw [if_pos h, if_pos ((nI_eq ha hb).mpr h)]
  · rw [if_neg h, if_neg (fun q => h ((nI_eq ha hb).mp q))]
theorem i0 : (0 : Int32).toInt = 0 := rfl
/-- a word's number, or none: both sides -/
theorem has_both {nw : Nat} {c m : St} (hn : nw ≤ 12) (hc : c.1 5 = nI nw) (hm : m.1 1 = nI nw) (x : Int32) : (∃ k, k < nw ∧ x = nI k ∧ f_X6_has c x = some 1 ∧ f_X8_isWord m x = some 1) ∨ (f_X6_has c x = some 0 ∧ f_X8_isWord m x = some 0) := by
  rcases within_n x (show nw < 2 ^ 30 by omega) with ⟨k, hk, hx, hw⟩ | ⟨h, hw⟩
  · refine Or.inl ⟨k, hk, hx, ?_, ?_⟩
    · unfold f_X6_has
      rw [hc, hx, if_neg (nI_pos (by omega)), if_neg (by rw [nI_le_iff (by omega) (by omega)]; omega)]
    · unfold f_X8_isWord
      rw [hm, hw]
      rfl
  · refine Or.inr ⟨?_, ?_⟩
    · unfold f_X6_has f_X6_has_J16
      rw [hc]
      by_cases h1 : x < 0
      · rw [if_pos h1]
      · rw [if_neg h1, if_pos]
        rw [i32_lt, i0] at h1
        rw [i32_le, nI_toInt (by omega)]
        omega
    · unfold f_X8_isWord
      rw [hm, hw]
      rfl
theorem place_both {ln : Nat} {c m : St} (hn : ln ≤ 4) (hc : c.1 6 = nI ln) (hm : m.1 0 = nI ln) (x : Int32) : (∃ k, k < ln ∧ x = nI k ∧ f_X6_hasPlace c x = some 1 ∧ f_X8_isRow m x = some 1 ∧ f_X8_within x 0 (nI ln - 1) = some 1) ∨ (f_X6_hasPlace c x = some 0 ∧ f_X8_isRow m x = some 0 ∧ f_X8_within x 0 (nI ln - 1) = some 0) := by
  rcases within_n x (show ln < 2 ^ 30 by omega) with ⟨k, hk, hx, hw⟩ | ⟨h, hw⟩
  · refine Or.inl ⟨k, hk, hx, ?_, ?_, hw⟩
    · unfold f_X6_hasPlace
      rw [hc, hx, if_neg (nI_pos (by omega)), if_neg (by rw [nI_le_iff (by omega) (by omega)]; omega)]
    · unfold f_X8_isRow
      rw [hm, hw]
      rfl
  · refine Or.inr ⟨?_, ?_, hw⟩
    · unfold f_X6_hasPlace f_X6_hasPlace_J16
      rw [hc]
      by_cases h1 : x < 0
      · rw [if_pos h1]
      · rw [if_neg h1, if_pos]
        rw [i32_lt, i0] at h1
        rw [i32_le, nI_toInt (by omega)]
        omega
    · unfold f_X8_isRow
      rw [hm, hw]
      rfl
theorem given_r {c : St} {r : Nat} (hr : r < 4) : f_X0_given c (nI r) = some (c.2.1 17 r) := by
  unfold f_X0_given
  rw [if_neg (nI_pos (by omega)), if_neg (by rw [show (4 : Int32) = nI 4 from rfl, nI_le_iff (by omega) (by omega)]; omega), ite_in hr (by decide), nI_clamp (by omega)]
theorem give_r {c : St} {r : Nat} {v : Int32} (hr : r < 4) : f_X0_give c (nI r) v = some (sA c 17 r v) := by
  unfold f_X0_give
  rw [if_neg (nI_pos (by omega)), if_neg (by rw [show (4 : Int32) = nI 4 from rfl, nI_le_iff (by omega) (by omega)]; omega), ite_in hr (by decide), nI_clamp (by omega)]
  rfl
theorem op1 : Op_1 Rel := by
  intro c m hR
  obtain ⟨nw, ln, wd, wt, tl, tx, bd, hWL, ⟨t1, t2, t3, t4⟩, hCL, hML, hRW, hRB, hRN, hRF, hRP, hRH, hRK⟩ := hR
  refine ⟨nI tl, sI c 4 0, sI m 4 0, ?_, ?_, nw, ln, wd, wt, 0, tx, bd, hWL, ⟨by omega, rfl, rfl, fun i hi => by omega⟩, hCL, hML, hRW, hRB, hRN, hRF, hRP, hRH, hRK⟩
  · unfold f_X7_blank f_X5_size f_X5_clear lt
    rw [t2]; rfl
  · unfold f_X8_blank lt
    rw [t3]
theorem op0 : Op_0 Rel := by
  intro c m a hR
  have hR0 := hR
  obtain ⟨nw, ln, wd, wt, tl, tx, bd, hWL, ⟨t1, t2, t3, t4⟩, hCL, hML, hRW, hRB, hRN, hRF, hRP, hRH, hRK⟩ := hR
  by_cases h1 : a < 32
  · refine ⟨-102, c, m, ?_, ?_, hR0⟩
    · unfold f_X7_letter f_X7_letter_J12
      rw [if_pos h1]
    · unfold f_X8_letter
      rw [within_f (Or.inl h1)]; rfl
  · by_cases h2 : a ≤ 126
    · have hw : f_X8_within a 32 126 = some 1 := within_t h1 (by rw [i32_lt]; rw [i32_le] at h2; omega)
      by_cases h3 : tl = 60
      · refine ⟨-104, c, m, ?_, ?_, hR0⟩
        · unfold f_X7_letter f_X5_size
          rw [if_neg h1, if_pos h2, t2, h3]; rfl
        · unfold f_X8_letter
          rw [hw, t3, h3]; rfl
      · have h60 : ¬ ((60 : Int32) ≤ nI tl) := by rw [show (60 : Int32) = nI 60 from rfl, nI_le_iff (by omega) (by omega)]; omega
        have hlt : nI tl < 60 := by rw [show (60 : Int32) = nI 60 from rfl, nI_lt_iff (by omega) (by omega)]; omega
        have hne : ¬ (nI tl = 60) := by rw [show (60 : Int32) = nI 60 from rfl, nI_eq_iff (by omega) (by omega)]; exact h3
        obtain ⟨k, hk1, hk2⟩ : ∃ k : Nat, (32 ≤ k ∧ k ≤ 126) ∧ a = nI k := by
          obtain ⟨k, hk, hx⟩ := nI_of (x := a) (by rw [i32_lt] at h1 ⊢; rw [i0]; have e : (32 : Int32).toInt = 32 := rfl; omega)
          refine ⟨k, ?_, hx⟩
          rw [hx, i32_lt, nI_toInt hk] at h1
          rw [hx, i32_le, nI_toInt hk] at h2
          have e : (32 : Int32).toInt = 32 := rfl
          have e2 : (126 : Int32).toInt = 126 := rfl
          omega
        refine ⟨nI (tl + 1), sI (sA c 11 tl a) 4 (nI (tl + 1)), sI (sA m 4 tl a) 4 (nI (tl + 1)), ?_, ?_, nw, ln, wd, wt, tl + 1, fun i => if i = tl then k else tx i, bd, hWL, ⟨by omega, rfl, rfl, fun i hi => ?_⟩, hCL, hML, hRW, hRB, hRN, hRF, hRP, hRH, hRK⟩
        · unfold f_X7_letter f_X5_size f_X5_append lt
          rw [if_neg h1, if_pos h2, t2]
          show (if nI tl < 60 then _ else _) = _
          rw [if_pos hlt, if_neg h60, ite_in (show tl < 60 by omega) (by decide), nI_clamp (by omega)]
          show some ((sA c 11 tl a).1 4 + 1, sI (sA c 11 tl a) 4 ((sA c 11 tl a).1 4 + 1)) = _
          rw [sA_I, t2, nI_1]
        · unfold f_X8_letter lt
          rw [hw, t3]
          show (if nI tl = 60 then _ else _) = _
          rw [if_neg hne, ite_in (show tl < 60 by omega) (by decide), nI_clamp (by omega)]
          show some ((sA m 4 tl a).1 4 + 1, sI (sA m 4 tl a) 4 ((sA m 4 tl a).1 4 + 1)) = _
          rw [sA_I, t3, nI_1]
        · show 32 ≤ (if i = tl then k else tx i) ∧ (if i = tl then k else tx i) ≤ 126 ∧ upd (c.2.1 11) tl a i = nI (if i = tl then k else tx i) ∧ upd (m.2.1 4) tl a i = nI (if i = tl then k else tx i)
          by_cases e : i = tl
          · rw [upd_at, upd_at, if_pos e, if_pos e, if_pos e]
            exact ⟨hk1.1, hk1.2, hk2, hk2⟩
          · rw [upd_at, upd_at, if_neg e, if_neg e, if_neg e]
            exact t4 i (by omega)
    · refine ⟨-102, c, m, ?_, ?_, hR0⟩
      · unfold f_X7_letter f_X7_letter_J12
        rw [if_neg h1, if_neg h2]
      · unfold f_X8_letter
        rw [within_f (Or.inr (by rw [i32_lt]; rw [i32_le] at h2; omega))]; rfl
theorem op17 : Op_17 Rel := by
  intro c m a hR
  have hR0 := hR
  obtain ⟨nw, ln, wd, wt, tl, tx, bd, hWL, hRT, hCL, hML, hRW, hRB, hRN, hRF, hRP, hRH, hRK⟩ := hR
  rcases place_both hWL.2.1 hCL.2.1 hML.2.1 a with ⟨r, hr, rfl, h1, h2, -⟩ | ⟨h1, h2, -⟩
  · have hr4 : r < 4 := by have := hWL.2.1; omega
    refine ⟨bd r, ?_, ?_, hR0⟩
    · unfold f_X7_board
      rw [h1]
      show (f_X0_given c (nI r)).bind _ = _
      rw [given_r hr4, (hRB r hr4).1]; rfl
    · unfold f_X8_board
      rw [h2]
      show (if inb (nI r) 4 = true then _ else _) = _
      rw [ite_in hr4 (by decide), nI_clamp (by omega), (hRB r hr4).2.1]
  · refine ⟨-101, ?_, ?_, hR0⟩
    · unfold f_X7_board
      rw [h1]; rfl
    · unfold f_X8_board
      rw [h2]; rfl
theorem FT_upd {nw ln : Nat} {wd : Nat → Nat → Nat} {c : St} {bd bd' : Nat → Int32} (h : c.1 1 = 0) : RK nw ln wd bd' c := Or.inl h
theorem op15 : Op_15 Rel := by
  intro c m a b hR
  have hR0 := hR
  obtain ⟨nw, ln, wd, wt, tl, tx, bd, hWL, hRT, hCL, hML, hRW, hRB, hRN, hRF, hRP, hRH, hRK⟩ := hR
  rcases place_both hWL.2.1 hCL.2.1 hML.2.1 a with ⟨r, hr, rfl, h1, h2, -⟩ | ⟨h1, h2, -⟩
  · have hr4 : r < 4 := by have := hWL.2.1; omega
    rcases has_both hWL.1 hCL.1 hML.1 b with ⟨w, hw, rfl, h3, h4⟩ | ⟨h3, h4⟩
    · refine ⟨bd r, sI (sA c 17 r (nI w)) 1 0, sA m 3 r (nI w), ?_, ?_, nw, ln, wd, wt, tl, tx, fun j => if j = r then nI w else bd j, hWL, hRT, hCL, hML, hRW, fun j hj => ?_, hRN, hRF, hRP, hRH, Or.inl rfl⟩
      · unfold f_X7_put lt
        rw [h1]
        show (f_X6_has c (nI w)).bind _ = _
        rw [h3]
        show (f_X0_given c (nI r)).bind _ = _
        rw [given_r hr4, (hRB r hr4).1]
        show (f_X0_give c (nI r) (nI w)).bind _ = _
        rw [give_r hr4]; rfl
      · unfold f_X8_put lt
        rw [h2]
        show (f_X8_isWord m (nI w)).bind _ = _
        rw [h4]
        show (if inb (nI r) 4 = true then _ else _) = _
        rw [ite_in hr4 (by decide), ite_in hr4 (by decide), nI_clamp (by omega), (hRB r hr4).2.1]
      · show upd (c.2.1 17) r (nI w) j = _ ∧ upd (m.2.1 3) r (nI w) j = _ ∧ _
        rw [upd_at, upd_at]
        by_cases e : j = r
        · simp only [if_pos e]
          exact ⟨trivial, trivial, Or.inr ⟨by omega, w, hw, rfl⟩⟩
        · simp only [if_neg e]
          exact hRB j hj
    · refine ⟨-101, c, m, ?_, ?_, hR0⟩
      · unfold f_X7_put f_X7_put_J22
        rw [h1]
        show (f_X6_has c b).bind _ = _
        rw [h3]; rfl
      · unfold f_X8_put
        rw [h2]
        show (f_X8_isWord m b).bind _ = _
        rw [h4]; rfl
  · refine ⟨-101, c, m, ?_, ?_, hR0⟩
    · unfold f_X7_put f_X7_put_J22
      rw [h1]; rfl
    · unfold f_X8_put
      rw [h2]; rfl
theorem nI_ne_m1 {w : Nat} (h : w < 2 ^ 31) : ¬ (nI w = -1) := by
  rw [i32_eq, nI_toInt h]
  have e : (-1 : Int32).toInt = -1 := rfl
  omega
theorem op16 : Op_16 Rel := by
  intro c m a hR
  have hR0 := hR
  obtain ⟨nw, ln, wd, wt, tl, tx, bd, hWL, hRT, hCL, hML, hRW, hRB, hRN, hRF, hRP, hRH, hRK⟩ := hR
  rcases place_both hWL.2.1 hCL.2.1 hML.2.1 a with ⟨r, hr, rfl, h1, h2, -⟩ | ⟨h1, h2, -⟩
  · have hr4 : r < 4 := by have := hWL.2.1; omega
    by_cases hb : bd r = -1
    · refine ⟨-103, c, m, ?_, ?_, hR0⟩
      · unfold f_X7_lift
        rw [h1]
        show (f_X0_given c (nI r)).bind _ = _
        rw [given_r hr4, (hRB r hr4).1]
        show (if bd r = -1 then _ else _) = _
        rw [if_pos hb]
      · unfold f_X8_lift
        rw [h2]
        show (if inb (nI r) 4 = true then _ else _) = _
        rw [ite_in hr4 (by decide), nI_clamp (by omega), (hRB r hr4).2.1, if_pos hb]
    · refine ⟨bd r, sI (sA c 17 r (-1)) 1 0, sA m 3 r (-1), ?_, ?_, nw, ln, wd, wt, tl, tx, fun j => if j = r then -1 else bd j, hWL, hRT, hCL, hML, hRW, fun j hj => ?_, hRN, hRF, hRP, hRH, Or.inl rfl⟩
      · unfold f_X7_lift lt
        rw [h1]
        show (f_X0_given c (nI r)).bind _ = _
        rw [given_r hr4, (hRB r hr4).1]
        show (if bd r = -1 then _ else _) = _
        rw [if_neg hb, give_r hr4]; rfl
      · unfold f_X8_lift lt
        rw [h2]
        show (if inb (nI r) 4 = true then _ else _) = _
        rw [ite_in hr4 (by decide), nI_clamp (by omega), (hRB r hr4).2.1, if_neg hb, ite_in hr4 (by decide)]
        show (if inb (nI r) 4 = true then _ else _) = _
        rw [ite_in hr4 (by decide)]
      · show upd (c.2.1 17) r (-1) j = _ ∧ upd (m.2.1 3) r (-1) j = _ ∧ _
        rw [upd_at, upd_at]
        by_cases e : j = r
        · simp only [if_pos e]
          exact ⟨trivial, trivial, Or.inl trivial⟩
        · simp only [if_neg e]
          exact hRB j hj
  · refine ⟨-101, c, m, ?_, ?_, hR0⟩
    · unfold f_X7_lift
      rw [h1]; rfl
    · unfold f_X8_lift
      rw [h2]; rfl
theorem i10 : ((1 : Int32) = 0) = False := by simp
theorem i00 : ((0 : Int32) = 0) = True := by simp
theorem i01 : ((0 : Int32) = 1) = False := by simp
theorem i11 : ((1 : Int32) = 1) = True := by simp
theorem op5 : Op_5 Rel := by
  intro c m a v hR
  have hR0 := hR
  obtain ⟨nw, ln, wd, wt, tl, tx, bd, hWL, hRT, hCL, hML, hRW, hRB, hRN, hRF, hRP, hRH, hRK⟩ := hR
  rcases has_both hWL.1 hCL.1 hML.1 a with ⟨w, hw, rfl, h1, h2⟩ | ⟨h1, h2⟩
  · have hw12 : w < 12 := by have := hWL.1; omega
    by_cases hv : v < 1 ∨ 9 < v
    · refine ⟨-102, c, m, ?_, ?_, hR0⟩
      · simp only [f_X7_weigh, f_X7_weigh_J25, h1, Option.bind_some, i10, if_false]
        by_cases hv1 : v < 1
        · rw [if_pos hv1]
        · rw [if_neg hv1, if_neg (by have := hv.resolve_left hv1; rw [i32_lt] at this; rw [i32_le]; omega)]
      · simp only [f_X8_weigh, h2, Option.bind_some, i10, if_false, within_f hv, i00, if_true]
    · have hv1 : ¬ v < 1 := fun h => hv (Or.inl h)
      have hv2 : ¬ 9 < v := fun h => hv (Or.inr h)
      obtain ⟨k, hk1, hk2⟩ : ∃ k : Nat, (1 ≤ k ∧ k ≤ 9) ∧ v = nI k := by
        have e1 : (1 : Int32).toInt = 1 := rfl
        have e9 : (9 : Int32).toInt = 9 := rfl
        rw [i32_lt] at hv1 hv2
        obtain ⟨k, hk, hx⟩ := nI_of (x := v) (by rw [i32_lt, i0]; omega)
        rw [hx, nI_toInt hk] at hv1 hv2
        exact ⟨k, by omega, hx⟩
      refine ⟨nI (wt w), sI (sA c 13 w v) 0 0, sA m 2 w v, ?_, ?_, nw, ln, wd, fun j => if j = w then k else wt j, tl, tx, bd, hWL, hRT, hCL, hML, fun j hj => ?_, hRB, hRN, hRF, hRP, Or.inl rfl, hRK⟩
      · simp only [f_X7_weigh, f_X7_weigh_J25, h1, Option.bind_some, i10, if_false, f_X6_weightOf, f_X6_setWeight, and15 (show w < 16 by omega), lt]
        rw [if_neg hv1, if_pos (by rw [i32_le]; rw [i32_lt] at hv2; omega)]
        simp only [ite_in (show w < 16 by omega) (show 16 < 2 ^ 31 by decide), Option.bind_some, nI_clamp (show w < 2 ^ 31 by omega), (hRW w hw).2.2.1]
      · simp only [f_X8_weigh, h2, Option.bind_some, i10, if_false, within_t hv1 hv2, ite_in hw12 (show 12 < 2 ^ 31 by decide), lt, nI_clamp (show w < 2 ^ 31 by omega), (hRW w hw).2.2.2]
      · show 1 ≤ (if j = w then k else wt j) ∧ (if j = w then k else wt j) ≤ 9 ∧ upd (c.2.1 13) w v j = _ ∧ upd (m.2.1 2) w v j = _
        rw [upd_at, upd_at]
        by_cases e : j = w
        · simp only [if_pos e]
          exact ⟨hk1.1, hk1.2, hk2, hk2⟩
        · simp only [if_neg e]
          exact hRW j hj
  · refine ⟨-101, c, m, ?_, ?_, hR0⟩
    · simp only [f_X7_weigh, h1, Option.bind_some, i00, if_true]
    · simp only [f_X8_weigh, h2, Option.bind_some, i00, if_true]
/-- rows of the board that are given -/
theorem given_many {ln : Nat} {bd : Nat → Int32} {c : St} (h : ∀ r, r < 4 → c.2.1 17 r = bd r) : f_X0_numberOfGiven c = some (nI (ct (fun r => !decide (bd r = -1)) 4)) := by
  have key : ∀ (n k : Nat), k ≤ 4 → 4 - k < n → f_X0_numberOfGiven_L4 c n (nI (ct (fun r => !decide (bd r = -1)) k)) (nI k) = some (nI (ct (fun r => !decide (bd r = -1)) 4)) := by
    intro n
    induction n with
    | zero => intro k _ h2; omega
    | succ n ih =>
      intro k hk hn
      unfold f_X0_numberOfGiven_L4
      rw [show (4 : Int32) = nI 4 from rfl, ite_leN (by omega) (by omega)]
      by_cases e : 4 ≤ k
      · rw [if_pos e, show k = 4 by omega]
      · rw [if_neg e, ite_in (show k < 4 by omega) (by decide), nI_clamp (by omega), h k (by omega)]
        have ih1 := ih (k + 1) (by omega) (by omega)
        by_cases hb : bd k = -1
        · rw [if_pos hb]
          simp only [f_X0_numberOfGiven_J22, lt, nI_1]
          rw [← ih1]
          congr 2
          simp [ct, hb]
        · rw [if_neg hb]
          simp only [f_X0_numberOfGiven_J22, lt, nI_1]
          rw [← ih1]
          congr 2
          simp [ct, hb]
  unfold f_X0_numberOfGiven
  exact key FU 0 (by decide) (by have := FU_big; omega)
theorem laid_many {ln : Nat} {bd : Nat → Int32} {m : St} (hln : ln ≤ 4) (hl : m.1 0 = nI ln) (h : ∀ r, r < 4 → m.2.1 3 r = bd r) : f_X8_laidMany m = some (nI (ct (fun r => !decide (bd r = -1)) ln)) := by
  have key : ∀ (n k : Nat), k ≤ ln → ln - k < n → f_X8_laidMany_L4 m n (nI (ct (fun r => !decide (bd r = -1)) k)) (nI k) = some (nI (ct (fun r => !decide (bd r = -1)) ln)) := by
    intro n
    induction n with
    | zero => intro k _ h2; omega
    | succ n ih =>
      intro k hk hn
      unfold f_X8_laidMany_L4
      rw [hl, ite_leN (by omega) (by omega)]
      by_cases e : ln ≤ k
      · rw [if_pos e, show k = ln by omega]
      · rw [if_neg e, ite_in (show k < 4 by omega) (by decide), nI_clamp (by omega), h k (by omega)]
        have ih1 := ih (k + 1) (by omega) (by omega)
        by_cases hb : bd k = -1
        · rw [if_pos hb]
          simp only [f_X8_laidMany_J28, lt, nI_1]
          rw [← ih1]
          congr 2
          simp [ct, hb]
        · rw [if_neg hb]
          simp only [f_X8_laidMany_J28, lt, nI_1]
          rw [← ih1]
          congr 2
          simp [ct, hb]
  unfold f_X8_laidMany
  exact key FU 0 (by omega) (by have := FU_big; omega)
theorem ct_same {p : Nat → Bool} {a : Nat} : ∀ b, a ≤ b → (∀ i, a ≤ i → i < b → p i = false) → ct p b = ct p a := by
  intro b
  induction b with
  | zero => intro h _; rw [show a = 0 by omega]
  | succ b ih =>
    intro h hp
    by_cases e : a = b + 1
    · rw [e]
    · rw [ct, ih (by omega) (fun i h1 h2 => hp i h1 (by omega)), hp b (by omega) (by omega)]
      rfl
theorem op22 : Op_22 Rel := by
  intro c m a hR
  have hR0 := hR
  obtain ⟨nw, ln, wd, wt, tl, tx, bd, hWL, ⟨t1, t2, t3, t4⟩, hCL, hML, hRW, hRB, hRN, hRF, hRP, hRH, hRK⟩ := hR
  have hg := given_many (ln := ln) (bd := bd) (c := c) (fun r hr => (hRB r hr).1)
  have hm := laid_many (bd := bd) hWL.2.1 hML.2.1 (fun r hr => (hRB r hr).2.1)
  have he : ct (fun r => !decide (bd r = -1)) 4 = ct (fun r => !decide (bd r = -1)) ln := ct_same 4 hWL.2.1 (fun i h1 h2 => by
    rcases (hRB i h2).2.2 with h | ⟨h, -⟩
    · simp [h]
    · omega)
  rw [he] at hg
  refine ⟨if a = 0 then nI nw else if a = 1 then nI tl else if a = 2 then nI (ct (fun r => !decide (bd r = -1)) ln) else if a = 3 then c.1 2 else if a = 4 then c.1 3 else -102, ?_, ?_, hR0⟩
  · simp only [f_X7_count, f_X6_size, f_X5_size, hg, Option.bind_some, hCL.1, t2]
    split <;> (try rfl)
    split <;> (try rfl)
    split <;> (try rfl)
    split <;> (try rfl)
    split <;> rfl
  · simp only [f_X8_count, f_X8_howMany, hm, Option.bind_some, hML.1, t3, hRN.1, hRN.2]
    split <;> (try rfl)
    split <;> (try rfl)
    split <;> (try rfl)
    split <;> (try rfl)
    split <;> rfl
