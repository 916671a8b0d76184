section
/-! a word is struck -/
def sh (v w : Nat) : Nat := if w < v then w else w + 1
theorem sh_le (v w : Nat) : sh v w ≤ w + 1 := by unfold sh; split <;> omega
theorem sh_mono {v a b : Nat} (h : a < b) : sh v a < sh v b := by unfold sh; split <;> split <;> omega
theorem del_c {nw ln v : Nat} {c : St} (hn : nw ≤ 12) (hv : v < nw) (h5 : c.1 5 = nI nw) (h6 : c.1 6 = nI ln) (hh : f_X6_has c (nI v) = some 1) : ∃ c', f_X6_delete c (nI v) = some c' ∧ c'.1 5 = nI (nw - 1) ∧ c'.1 6 = nI (if nw - 1 = 0 then 0 else ln) ∧ (∀ j, j ≠ 5 → j ≠ 6 → c'.1 j = c.1 j) ∧ c'.2.2 = c.2.2 ∧ (∀ j, j ≠ 12 → j ≠ 13 → c'.2.1 j = c.2.1 j) ∧ ∀ w, w < nw - 1 → c'.2.1 12 w = c.2.1 12 (sh v w) ∧ c'.2.1 13 w = c.2.1 13 (sh v w) := by
  have loop : ∀ (n k : Nat) (st : St), v ≤ k → k ≤ nw - 1 → nw - 1 - k < n → st.1 = (sI c 5 (nI (nw - 1))).1 → st.2.2 = c.2.2 → (∀ j, j ≠ 12 → j ≠ 13 → st.2.1 j = c.2.1 j) → (∀ w, w < nw → st.2.1 12 w = c.2.1 12 (if w < k then sh v w else w) ∧ st.2.1 13 w = c.2.1 13 (if w < k then sh v w else w)) → ∃ c', f_X6_delete_L21 n st (nI k) = some c' ∧ c'.1 5 = nI (nw - 1) ∧ c'.1 6 = nI (if nw - 1 = 0 then 0 else ln) ∧ (∀ j, j ≠ 5 → j ≠ 6 → c'.1 j = c.1 j) ∧ c'.2.2 = c.2.2 ∧ (∀ j, j ≠ 12 → j ≠ 13 → c'.2.1 j = c.2.1 j) ∧ ∀ w, w < nw - 1 → c'.2.1 12 w = c.2.1 12 (sh v w) ∧ c'.2.1 13 w = c.2.1 13 (sh v w) := by
    intro n
    induction n with
    | zero => intro k st _ _ h; omega
    | succ n ih =>
      intro k st hk hk2 hnn h1 h2 h3 h4
      have hs5 : st.1 5 = nI (nw - 1) := by rw [h1, sI_I, if_pos rfl]
      rw [f_X6_delete_L21, hs5, ite_leN (by omega) (by omega)]
      by_cases e : nw - 1 ≤ k
      · have hs6 : st.1 6 = nI ln := by rw [h1, sI_I, if_neg (by decide)]; exact h6
        rw [if_pos e]
        by_cases e0 : nw - 1 = 0
        · rw [if_pos (by rw [e0]; exact nI_0), lt, if_pos e0]
          refine ⟨_, rfl, by rw [sI_I, if_neg (by decide)]; exact hs5, by rw [sI_I, if_pos rfl]; exact nI_0.symm, fun j j5 j6 => ?_, h2, h3, fun w hw => by omega⟩
          rw [sI_I, if_neg j6, h1, sI_I, if_neg j5]
        · rw [if_neg (by rw [← nI_0, nI_eq_iff (by omega) (by omega)]; exact e0), if_neg e0]
          refine ⟨st, rfl, hs5, hs6, fun j j5 j6 => ?_, h2, h3, fun w hw => ?_⟩
          · rw [h1, sI_I, if_neg j5]
          · have q := h4 w (by omega)
            rw [if_pos (by omega)] at q
            exact q
      · have a1 := h4 (k + 1) (by omega)
        rw [if_neg (by omega)] at a1
        rw [if_neg e, nI_1, ite_in (show k + 1 < 16 by omega) (by decide), ite_in (show k < 16 by omega) (by decide), nI_clamp (by omega), nI_clamp (by omega), lt, ite_in (show k + 1 < 16 by omega) (by decide), ite_in (show k < 16 by omega) (by decide), lt, lt]
        refine ih (k + 1) _ (by omega) (by omega) (by omega) h1 h2 (fun j j1 j2 => ?_) (fun w hw => ?_)
        · rw [sA_A, if_neg j2, sA_A, if_neg j1]; exact h3 j j1 j2
        · have q := h4 w hw
          have e12 : ∀ x, (sA st 12 k x).2.1 13 = st.2.1 13 := fun x => rfl
          refine ⟨?_, ?_⟩
          · rw [sA_A, if_neg (by decide), sA_A, if_pos rfl, upd_at]
            by_cases e2 : w = k
            · rw [if_pos e2, a1.1, if_pos (by omega), e2, sh, if_neg (by omega)]
            · rw [if_neg e2, q.1]
              by_cases e3 : w < k
              · rw [if_pos e3, if_pos (by omega)]
              · rw [if_neg e3, if_neg (by omega)]
          · rw [sA_A, if_pos rfl, upd_at, e12]
            by_cases e2 : w = k
            · rw [if_pos e2, a1.2, if_pos (by omega), e2, sh, if_neg (by omega)]
            · rw [if_neg e2, q.2]
              by_cases e3 : w < k
              · rw [if_pos e3, if_pos (by omega)]
              · rw [if_neg e3, if_neg (by omega)]
  have e5 : c.1 5 - 1 = nI (nw - 1) := by rw [h5, n1, pk_sub (by omega)]
  rw [f_X6_delete, bind_s hh, if_neg (by decide), e5, lt]
  refine loop FU v _ (Nat.le_refl _) (by omega) (by have := FU_big; omega) rfl rfl (fun j _ _ => rfl) (fun w hw => ?_)
  by_cases e : w < v
  · rw [if_pos e, sh, if_pos e]; exact ⟨rfl, rfl⟩
  · rw [if_neg e]; exact ⟨rfl, rfl⟩
theorem move_m {m : St} {a b : Nat} (ha : a < 12) (hb : b < 12) (hab : a ≠ b) : ∃ m', f_X8_move m (nI a) (nI b) = some m' ∧ m'.1 = m.1 ∧ m'.2.2 = m.2.2 ∧ (∀ j, j ≠ 1 → j ≠ 2 → m'.2.1 j = m.2.1 j) ∧ (∀ w, m'.2.1 2 w = if w = b then m.2.1 2 a else m.2.1 2 w) ∧ ∀ w i, i < 4 → m'.2.1 1 (4 * w + i) = if w = b then m.2.1 1 (4 * a + i) else m.2.1 1 (4 * w + i) := by
  have loop : ∀ (n k : Nat) (st : St), k ≤ 4 → 4 - k < n → st.1 = m.1 → st.2.2 = m.2.2 → (∀ j, j ≠ 1 → j ≠ 2 → st.2.1 j = m.2.1 j) → (∀ w, st.2.1 2 w = if w = b then m.2.1 2 a else m.2.1 2 w) → (∀ w i, i < 4 → st.2.1 1 (4 * w + i) = if w = b ∧ i < k then m.2.1 1 (4 * a + i) else m.2.1 1 (4 * w + i)) → ∃ m', f_X8_move_L14 n st (nI a) (nI b) (nI k) = some m' ∧ m'.1 = m.1 ∧ m'.2.2 = m.2.2 ∧ (∀ j, j ≠ 1 → j ≠ 2 → m'.2.1 j = m.2.1 j) ∧ (∀ w, m'.2.1 2 w = if w = b then m.2.1 2 a else m.2.1 2 w) ∧ ∀ w i, i < 4 → m'.2.1 1 (4 * w + i) = if w = b then m.2.1 1 (4 * a + i) else m.2.1 1 (4 * w + i) := by
    intro n
    induction n with
    | zero => intro k st _ h; omega
    | succ n ih =>
      intro k st hk hnn h1 h2 h3 h4 h5
      rw [f_X8_move_L14, n4, ite_leN (by omega) (by omega)]
      by_cases e : 4 ≤ k
      · rw [if_pos e]
        refine ⟨st, rfl, h1, h2, h3, h4, fun w i hi => ?_⟩
        rw [h5 w i hi]
        by_cases e2 : w = b
        · rw [if_pos ⟨e2, by omega⟩, if_pos e2]
        · rw [if_neg (fun q => e2 q.1), if_neg e2]
      · have a1 := h5 a k (by omega)
        rw [if_neg (fun q => hab q.1)] at a1
        rw [if_neg e, pk_mul, pk_mul, nI_add, nI_add, ite_in (show 4 * a + k < 48 by omega) (by decide), ite_in (show 4 * b + k < 48 by omega) (by decide), nI_clamp (by omega), nI_clamp (by omega), a1, lt, lt, nI_1]
        refine ih (k + 1) _ (by omega) (by omega) h1 h2 (fun j j1 j2 => ?_) (fun w => ?_) (fun w i hi => ?_)
        · rw [sA_A, if_neg j1]; exact h3 j j1 j2
        · rw [sA_A, if_neg (by decide)]; exact h4 w
        · rw [sA_A, if_pos rfl, upd_at]
          by_cases e2 : w = b ∧ i = k
          · rw [if_pos (by omega), if_pos (by omega), e2.2]
          · rw [if_neg (by omega), h5 w i hi]
            by_cases e3 : w = b ∧ i < k
            · rw [if_pos e3, if_pos (by omega)]
            · rw [if_neg e3, if_neg (by omega)]
  have h9 := loop FU 0 (sA m 2 b (m.2.1 2 a)) (by omega) (by have := FU_big; omega) rfl rfl (fun j j1 j2 => by rw [sA_A, if_neg j2]) (fun w => by rw [sA_A, if_pos rfl, upd_at]) (fun w i hi => by rw [sA_A, if_neg (by decide), if_neg (by omega)])
  rw [nI_0] at h9
  rw [f_X8_move, ite_in ha (by decide), ite_in hb (by decide), nI_clamp (by omega), nI_clamp (by omega), lt]
  exact h9
theorem strike_m {nw ln v : Nat} {m : St} (hn : nw ≤ 12) (hv : v < nw) (h1 : m.1 1 = nI nw) (h0 : m.1 0 = nI ln) (hh : f_X8_isWord m (nI v) = some 1) : ∃ m', f_X8_strike m (nI v) = some (nI (nw - 1), m') ∧ m'.1 1 = nI (nw - 1) ∧ m'.1 0 = nI (if nw - 1 = 0 then 0 else ln) ∧ m'.1 3 = m.1 3 + 1 ∧ m'.1 2 = m.1 2 ∧ m'.1 4 = m.1 4 ∧ m'.2.1 4 = m.2.1 4 ∧ (∀ r, r < 4 → m'.2.1 3 r = -1) ∧ ∀ w, w < nw - 1 → m'.2.1 2 w = m.2.1 2 (sh v w) ∧ ∀ i, i < 4 → m'.2.1 1 (4 * w + i) = m.2.1 1 (4 * sh v w + i) := by
  have loop : ∀ (n k : Nat) (st : St), v ≤ k → k ≤ nw - 1 → nw - 1 - k < n → st.1 = (sI m 1 (nI (nw - 1))).1 → (∀ j, j ≠ 1 → j ≠ 2 → st.2.1 j = m.2.1 j) → (∀ w, w < nw → st.2.1 2 w = m.2.1 2 (if w < k then sh v w else w) ∧ ∀ i, i < 4 → st.2.1 1 (4 * w + i) = m.2.1 1 (4 * (if w < k then sh v w else w) + i)) → ∃ m', f_X8_strike_L23 n st (nI k) = some (nI (nw - 1), m') ∧ m'.1 1 = nI (nw - 1) ∧ m'.1 0 = nI (if nw - 1 = 0 then 0 else ln) ∧ m'.1 3 = m.1 3 + 1 ∧ m'.1 2 = m.1 2 ∧ m'.1 4 = m.1 4 ∧ m'.2.1 4 = m.2.1 4 ∧ (∀ r, r < 4 → m'.2.1 3 r = -1) ∧ ∀ w, w < nw - 1 → m'.2.1 2 w = m.2.1 2 (sh v w) ∧ ∀ i, i < 4 → m'.2.1 1 (4 * w + i) = m.2.1 1 (4 * sh v w + i) := by
    intro n
    induction n with
    | zero => intro k st _ _ h; omega
    | succ n ih =>
      intro k st hk hk2 hnn g1 g3 g4
      have hs1 : st.1 1 = nI (nw - 1) := by rw [g1, sI_I, if_pos rfl]
      rw [f_X8_strike_L23, hs1, ite_leN (by omega) (by omega)]
      by_cases e : nw - 1 ≤ k
      · have hs0 : st.1 0 = nI ln := by rw [g1, sI_I, if_neg (by decide)]; exact h0
        have fin : ∀ L : Nat, ∃ m', f_X8_strike_J61 st (nI L) = some (nI (nw - 1), m') ∧ m'.1 1 = nI (nw - 1) ∧ m'.1 0 = nI L ∧ m'.1 3 = m.1 3 + 1 ∧ m'.1 2 = m.1 2 ∧ m'.1 4 = m.1 4 ∧ m'.2.1 4 = m.2.1 4 ∧ (∀ r, r < 4 → m'.2.1 3 r = -1) ∧ ∀ w, w < nw - 1 → m'.2.1 2 w = m.2.1 2 (sh v w) ∧ ∀ i, i < 4 → m'.2.1 1 (4 * w + i) = m.2.1 1 (4 * sh v w + i) := fun L => by
          obtain ⟨g, b1, b2⟩ := cb_m (m := sI st 0 (nI L))
          refine ⟨sI (sR (sI st 0 (nI L)) 3 g) 3 (m.1 3 + 1), ?_, ?_, ?_, ?_, ?_, ?_, ?_, ?_, fun w hw => ?_⟩
          · have hA : (sR (sI st 0 (nI L)) 3 g).1 3 = m.1 3 := by rw [sR_I, sI_I, if_neg (by decide), g1, sI_I, if_neg (by decide)]
            have hB : ∀ x, (sI (sR (sI st 0 (nI L)) 3 g) 3 x).1 1 = nI (nw - 1) := fun x => by rw [sI_I, if_neg (by decide), sR_I, sI_I, if_neg (by decide), hs1]
            rw [f_X8_strike_J61, lt, bind_s b1, hA, lt, hB]
          · rw [sI_I, if_neg (by decide), sR_I, sI_I, if_neg (by decide), hs1]
          · rw [sI_I, if_neg (by decide), sR_I, sI_I, if_pos rfl]
          · rw [sI_I, if_pos rfl]
          · rw [sI_I, if_neg (by decide), sR_I, sI_I, if_neg (by decide), g1, sI_I, if_neg (by decide)]
          · rw [sI_I, if_neg (by decide), sR_I, sI_I, if_neg (by decide), g1, sI_I, if_neg (by decide)]
          · rw [sI_A, sR_A, if_neg (by decide), sI_A]; exact g3 4 (by decide) (by decide)
          · intro r hr
            rw [sI_A, sR_A, if_pos rfl]; exact b2 r hr
          · have q := g4 w (by omega)
            rw [if_pos (by omega)] at q
            rw [sI_A, sR_A, if_neg (by decide), sR_A, if_neg (by decide), sI_A]
            exact q
        rw [if_pos e]
        by_cases e0 : nw - 1 = 0
        · rw [if_pos (by rw [e0]; exact nI_0), if_pos e0]
          have q := fin 0
          rw [nI_0] at q ⊢
          exact q
        · rw [if_neg (by rw [← nI_0, nI_eq_iff (by omega) (by omega)]; exact e0), if_neg e0, hs0]
          exact fin ln
      · obtain ⟨m2, a1, a2, a3, a4, a5, a6⟩ := move_m (m := st) (a := k + 1) (b := k) (by omega) (by omega) (by omega)
        rw [if_neg e, nI_1, bind_s a1, lt]
        refine ih (k + 1) m2 (by omega) (by omega) (by omega) (a2.trans g1) (fun j j1 j2 => (a4 j j1 j2).trans (g3 j j1 j2)) (fun w hw => ?_)
        have q := g4 w hw
        have q1 := g4 (k + 1) (by omega)
        rw [if_neg (by omega)] at q1
        by_cases e2 : w = k
        · refine ⟨?_, fun i hi => ?_⟩
          · rw [a5, if_pos e2, q1.1, if_pos (by omega), e2, sh, if_neg (by omega)]
          · rw [a6 w i hi, if_pos e2, q1.2 i hi, if_pos (by omega), e2, sh, if_neg (by omega)]
        · have e4 : (if w < k + 1 then sh v w else w) = if w < k then sh v w else w := by
            by_cases e3 : w < k
            · rw [if_pos e3, if_pos (by omega)]
            · rw [if_neg e3, if_neg (by omega)]
          rw [e4]
          refine ⟨?_, fun i hi => ?_⟩
          · rw [a5, if_neg e2]; exact q.1
          · rw [a6 w i hi, if_neg e2]; exact q.2 i hi
  have e1 : m.1 1 - 1 = nI (nw - 1) := by rw [h1, n1, pk_sub (by omega)]
  rw [f_X8_strike, bind_s hh, if_neg (by decide), e1, lt]
  refine loop FU v _ (Nat.le_refl _) (by omega) (by have := FU_big; omega) rfl (fun j _ _ => rfl) (fun w hw => ?_)
  by_cases e : w < v
  · rw [if_pos e, sh, if_pos e]; exact ⟨rfl, fun i _ => rfl⟩
  · rw [if_neg e]; exact ⟨rfl, fun i _ => rfl⟩
theorem op4 : Op_4 Rel := by
  rintro c m a1 ⟨nw, ln, wd, wt, tl, tx, bd, hR⟩
  obtain ⟨hW, hT, hC, hM, hRW, hB, hN, hF, hP, hH, hK⟩ := id hR
  rcases has_both hW.1 hC.1 hM.1 a1 with ⟨v, hv, rfl, g1, g2⟩ | ⟨g1, g2⟩
  · obtain ⟨c1, d1, d2, d3, d4, d5, d6, d7⟩ := del_c hW.1 hv hC.1 hC.2.1 g1
    obtain ⟨m1, s1, s2, s3, s4, s5, s6, s7, s8, s9⟩ := strike_m hW.1 hv hM.1 hM.2.1 g2
    obtain ⟨L, hL⟩ : ∃ L, L = if nw - 1 = 0 then 0 else ln := ⟨_, rfl⟩
    rw [← hL] at d3 s3
    have hL0 : nw - 1 = 0 → L = 0 := fun e => by rw [hL, if_pos e]
    have hL1 : 0 < nw - 1 → L = ln := fun e => by rw [hL, if_neg (by omega)]
    have hsh : ∀ w, w < nw - 1 → sh v w < nw := fun w hw => by have := sh_le v w; omega
    have hln := hW.2.1
    have hln2 := hW.2.2.2.1
    have hW' : WL (nw - 1) L (fun w => wd (sh v w)) := by
      refine ⟨by have := hW.1; omega, ?_, hL0, fun h => ?_, fun w hw i hi => ?_, fun a b hab hb => ?_⟩
      · rcases Nat.eq_zero_or_pos (nw - 1) with e | e
        · rw [hL0 e]; omega
        · rw [hL1 e]; exact hln
      · rw [hL1 h]; exact hln2 (by omega)
      · rw [hL1 (by omega)] at hi
        exact hW.2.2.2.2.1 _ (hsh w hw) i hi
      · rw [hL1 (by omega)]
        exact hW.2.2.2.2.2 _ _ (sh_mono hab) (hsh b hb)
    have f3 : ∀ j, j ≠ 3 → (sI c1 3 (c1.1 3 + 1)).1 j = c1.1 j := fun j hj => by rw [sI_I, if_neg hj]
    obtain ⟨c2, r1, r2, r3⟩ := renew_c (c := sI c1 3 (c1.1 3 + 1)) (m := m1) (wt := fun w => wt (sh v w)) (tl := tl) (tx := tx) hW' ⟨hT.1, by rw [f3 4 (by decide), d4 4 (by decide) (by decide)]; exact hT.2.1, by rw [s6]; exact hT.2.2.1, fun i hi => by
        obtain ⟨p1, p2, p3, p4⟩ := hT.2.2.2 i hi
        refine ⟨p1, p2, ?_, by rw [s7]; exact p4⟩
        rw [sI_A, d6 11 (by decide) (by decide)]; exact p3⟩ ⟨by rw [f3 5 (by decide)]; exact d2, by rw [f3 6 (by decide)]; exact d3, fun w hw => by
        rw [sI_A, (d7 w hw).1, hC.2.2 _ (hsh w hw), hL1 (by omega)]⟩ ⟨s2, s3, fun w hw i hi => by
        rw [hL1 (by omega)] at hi
        rw [(s9 w hw).2 i (by omega)]
        exact hM.2.2 _ (hsh w hw) i hi⟩ (fun w hw => by
        obtain ⟨p1, p2, p3, p4⟩ := hRW _ (hsh w hw)
        refine ⟨p1, p2, ?_, ?_⟩
        · rw [sI_A, (d7 w hw).2]; exact p3
        · rw [(s9 w hw).1]; exact p4) ⟨by rw [f3 2 (by decide), d4 2 (by decide) (by decide), s5]; exact hN.1, by rw [sI_I, if_pos rfl, d4 3 (by decide) (by decide), s4, hN.2]⟩ (fun k hk => by
        show 64 ≤ c1.2.2.2 k ∧ c1.2.2.2 k ≤ 41472
        rw [d5]; exact hP k hk) s8
    refine ⟨nI (nw - 1), c2, m1, ?_, s1, ⟨_, _, _, _, _, _, _, r2⟩⟩
    rw [f_X7_strike, bind_s g1, if_neg (by decide), bind_s d1, lt, bind_s r1, f_X7_strike_J36, f_X6_size, bind_s rfl, r3, f3 5 (by decide), d2]
  · refine ⟨-101, c, m, ?_, ?_, ⟨nw, ln, wd, wt, tl, tx, bd, hR⟩⟩
    · rw [f_X7_strike, bind_s g1, if_pos rfl]
    · rw [f_X8_strike, bind_s g2, if_pos rfl]
end
