section
/-! the class finds all squares anew -/
theorem fillJ_c {st : St} : ∃ c', f_J7_fill_d0a16 st 0 = some c' ∧ c'.1 = st.1 ∧ c'.2.1 = st.2.1 ∧ c'.2.2.2 = st.2.2.2 ∧ ∀ i, i < 1296 → c'.2.2.1 i = 0 := by
  have loop : ∀ (n k : Nat) (c : St), k ≤ 1296 → 1296 - k < n → c.1 = st.1 → c.2.1 = st.2.1 → c.2.2.2 = st.2.2.2 → (∀ i, i < k → c.2.2.1 i = 0) → ∃ c', f_J7_fill_d0a16_L6 n c 0 (nI k) (nI 1296) = some c' ∧ c'.1 = st.1 ∧ c'.2.1 = st.2.1 ∧ c'.2.2.2 = st.2.2.2 ∧ ∀ i, i < 1296 → c'.2.2.1 i = 0 := by
    intro n
    induction n with
    | zero => intro k c _ h; omega
    | succ n ih =>
      intro k c hk hnn h1 h2 h3 h4
      rw [f_J7_fill_d0a16_L6, ite_leN (by omega) (by omega)]
      by_cases e : 1296 ≤ k
      · rw [if_pos e]
        exact ⟨c, rfl, h1, h2, h3, fun i hi => h4 i (by omega)⟩
      · rw [if_neg e, ite_in (show k < 1296 by omega) (by decide), nI_clamp (by omega), lt, lt, nI_1]
        refine ih (k + 1) _ (by omega) (by omega) h1 h2 h3 (fun i hi => ?_)
        rw [sJ_J]
        by_cases e2 : i = k
        · rw [if_pos e2]
        · rw [if_neg e2]; exact h4 i (by omega)
  have h9 := loop FU 0 st (by omega) (by have := FU_big; omega) rfl rfl rfl (fun i hi => by omega)
  rw [nI_0] at h9
  rw [f_J7_fill_d0a16, lt]
  exact h9
def Zsc (j : Nat) : Prop := (7 ≤ j ∧ j ≤ 11) ∨ (13 ≤ j ∧ j ≤ 15)
theorem clear_c {c : St} : ∃ c', f_X2_clear c = some c' ∧ (∀ j, ¬ Zsc j → c'.1 j = c.1 j) ∧ (∀ j, Zsc j → c'.1 j = 0) ∧ (∀ j, ¬ (14 ≤ j ∧ j ≤ 16) → c'.2.1 j = c.2.1 j) ∧ (∀ j i, 14 ≤ j → j ≤ 16 → i < 16 → c'.2.1 j i = 0) ∧ c'.2.2.2 = c.2.2.2 ∧ ∀ i, i < 1296 → c'.2.2.1 i = 0 := by
  obtain ⟨c1, a1, a2, a3, a4, a5⟩ := fillJ_c (st := c)
  obtain ⟨s1, e1⟩ : ∃ s1, s1 = sI (sI (sI (sI c1 11 0) (13 + 0) 0) (13 + 1) 0) (13 + 2) 0 := ⟨_, rfl⟩
  obtain ⟨g1, b1, b2⟩ := fill_c (st := s1) (q := 14) (n := 16) (v := 0) (by decide)
  obtain ⟨g2, d1, d2⟩ := fill_c (st := sR s1 14 g1) (q := 15) (n := 16) (v := 0) (by decide)
  obtain ⟨g3, h1, h2⟩ := fill_c (st := sR (sR s1 14 g1) 15 g2) (q := 16) (n := 16) (v := 0) (by decide)
  refine ⟨sI (sI (sI (sI (sR (sR (sR s1 14 g1) 15 g2) 16 g3) 7 0) 8 0) 9 0) 10 0, ?_, fun j hj => ?_, fun j hj => ?_, fun j hj => ?_, fun j i hj1 hj2 hi => ?_, ?_, fun i hi => ?_⟩
  · rw [f_X2_clear, f_X1_clear, bind_s a1, lt, bind_s rfl, f_X4_clear, lt, bind_s rfl, f_X4_clear, lt, bind_s rfl, f_X4_clear, lt, bind_s rfl, ← e1, bind_s b1, bind_s d1, bind_s h1]
    rfl
  · rw [e1]
    simp only [sI_I, sR_I, a2]
    unfold Zsc at hj
    (repeat' split) <;> first | rfl | (exfalso; omega)
  · rw [e1]
    simp only [sI_I, sR_I, a2]
    unfold Zsc at hj
    (repeat' split) <;> first | rfl | (exfalso; omega)
  · rw [e1]
    simp only [sI_A, sR_A, a3]
    rw [if_neg (by omega), if_neg (by omega), if_neg (by omega)]
  · rw [e1]
    simp only [sI_A, sR_A, a3]
    rcases (show j = 14 ∨ j = 15 ∨ j = 16 by omega) with q | q | q
    · rw [if_neg (by omega), if_neg (by omega), if_pos q]; exact b2 i hi
    · rw [if_neg (by omega), if_pos q]; exact d2 i hi
    · rw [if_pos q]; exact h2 i hi
  · rw [e1]; exact a4
  · rw [e1]; exact a5 i hi
theorem EX_FRr {nw ln : Nat} {wd : Nat → Nat → Nat} {n : Nat} {c c' : St} (h : FRr Stab c c') (g : EX nw ln wd n c) : EX nw ln wd n c' := by
  obtain ⟨e0, e1, e2, e3, e4⟩ := g
  have hs : ∀ k, k < 3 → SQ nw ln wd c k n → SQ nw ln wd c' k n := fun k hk q => ⟨by rw [h.1]; exact q.1, by rw [h.2.1]; exact q.2.1, fun x hx hx2 => by rw [h.2.2 (20 + k) (by show ¬ (24 ≤ 20 + k); omega)]; exact q.2.2 x hx hx2⟩
  refine ⟨hs 0 (by decide) e0, hs 1 (by decide) e1, hs 2 (by decide) e2, fun w hw => ?_, fun j hj => by rw [h.2.1]; exact e4 j hj⟩
  rw [h.2.2 14 (by show ¬ (24 ≤ 14); omega), h.2.2 15 (by show ¬ (24 ≤ 15); omega), h.2.2 16 (by show ¬ (24 ≤ 16); omega)]
  exact e3 w hw
theorem nb_zero {B : Nat} : ∀ n, nb B n (fun _ => 0) = 0
  | 0 => rfl
  | n + 1 => by rw [nb, nb_zero n, Nat.zero_mul]
theorem RF_mo {nw ln : Nat} {wd : Nat → Nat → Nat} {c c' : St} (h1 : ∀ j, 7 ≤ j → c'.1 j = c.1 j) (h2 : ∀ j, j ≠ 17 → c'.2.1 j = c.2.1 j) (h3 : c'.2.2.2 = c.2.2.2) (g : RF nw ln wd c) : RF nw ln wd c' := by
  obtain ⟨e0, e1, e2, e3, e4⟩ := g
  have hs : ∀ k, k < 3 → ∀ n, SQ nw ln wd c k n → SQ nw ln wd c' k n := fun k hk n q => ⟨by rw [h1 (13 + k) (by omega)]; exact q.1, by rw [h3]; exact q.2.1, fun x hx hx2 => by rw [h2 (20 + k) (by omega)]; exact q.2.2 x hx hx2⟩
  refine ⟨hs 0 (by decide) _ e0, hs 1 (by decide) _ e1, hs 2 (by decide) _ e2, fun w hw => ?_, fun h0 => ?_⟩
  · rw [h2 14 (by decide), h2 15 (by decide), h2 16 (by decide)]
    exact e3 w hw
  · rw [h1 7 (by decide), h1 8 (by decide), h1 9 (by decide), h1 10 (by decide), h1 11 (by decide)]
    exact e4 h0
theorem run_c {nw ln : Nat} {wd : Nat → Nat → Nat} {c : St} (hW : WL nw ln wd) (hC : CL nw ln wd c) (hP : RP c) : ∃ c', f_X2_run c = some c' ∧ CL nw ln wd c' ∧ RF nw ln wd c' ∧ RP c' ∧ (∀ j, j < 7 ∨ j = 12 → c'.1 j = c.1 j) ∧ (∀ j, j < 14 ∨ (17 ≤ j ∧ j < 20) → c'.2.1 j = c.2.1 j) := by
  have hn := hW.1
  have hl := hW.2.1
  obtain ⟨b1, k1, k2, k3, k4, k5, k6, k7⟩ := clear_c (c := c)
  have hCb : CL nw ln wd b1 := ⟨by rw [k2 5 (by unfold Zsc; omega)]; exact hC.1, by rw [k2 6 (by unfold Zsc; omega)]; exact hC.2.1, fun w hw => by rw [k4 12 (by omega)]; exact hC.2.2 w hw⟩
  have s0 : ∀ k, k < 3 → SQ nw ln wd b1 k 0 := fun k hk => ⟨by rw [k3 (13 + k) (by unfold Zsc; omega)]; exact nI_0.symm, Nat.zero_le _, fun x hx => absurd hx (Nat.not_lt_zero _)⟩
  have hE : EX nw ln wd 0 b1 := ⟨s0 0 (by decide), s0 1 (by decide), s0 2 (by decide), fun w hw => ⟨by rw [k5 14 w (by omega) (by omega) (by omega)]; exact nI_0.symm, by rw [k5 15 w (by omega) (by omega) (by omega)]; exact nI_0.symm, by rw [k5 16 w (by omega) (by omega) (by omega)]; exact nI_0.symm⟩, fun j hj => by rw [k6]; exact hP j hj⟩
  have hz : (nI nw ≤ 0) = (nw ≤ 0) := by rw [← nI_0]; exact nI_le_iff (by omega) (by omega)
  rw [f_X2_run, bind_s k1, bind_s (siz_c hCb)]
  by_cases h0 : nw = 0
  · rw [if_pos (by rw [hz]; omega)]
    have hNN : NN nw ln = 0 := by rw [h0]; exact NN_z
    refine ⟨b1, rfl, hCb, ?_, hE.2.2.2.2, fun j hj => k2 j (by unfold Zsc; omega), fun j hj => k4 j (by omega)⟩
    unfold RF
    rw [hNN]
    exact ⟨s0 0 (by decide), s0 1 (by decide), s0 2 (by decide), fun w hw => by omega, fun h => by omega⟩
  · have hp : 0 < nw := by omega
    rw [if_neg (by rw [hz]; omega)]
    obtain ⟨b2, t1, t2, t3⟩ := build_c hW hCb
    have hC2 : CL nw ln wd b2 := t2.cl (by show ¬ (24 ≤ 12); omega) hCb
    have hE2 := EX_FRr t2 hE
    have hh0 : pkd ln (hd nw wd 0 0) = 0 := by
      have q : ∀ i, hd nw wd 0 0 i = 0 := fun i => fs_eq (p := fun w => al (fun r => wd (dg nw 0 0 r) i == wd w r) 0) hp rfl (fun j hj => by omega)
      rw [pkd_nb, nb_congr (f := hd nw wd 0 0) (g := fun _ => 0) (fun i _ => q i), nb_zero]
    obtain ⟨c3, x1, x2, x3, x4, x5⟩ := expl_c hW hp ln 0 0 6 b2 (by omega) (by rw [Nat.pow_zero]; decide) (st_root hp) hC2 t3 (by rw [Nat.zero_mul]; exact hE2) (by omega)
    rw [hh0, show pkd 0 (dg nw 0 0) = 0 from rfl, nI_0] at x1
    rw [Nat.zero_add, Nat.one_mul, ← NN_pos hp] at x2
    have hC3 := x3.cl hC2
    have hT3 := x3.tt t3
    have z9 : ∀ j, 9 ≤ j → j ≤ 11 → c3.1 j = 0 := fun j h1 h2 => by
      rw [x3.1 j (by unfold Ssc; omega), t2.1, k3 j (by unfold Zsc; omega)]
    have hM0 : MR ln (0, 0, []) c3 := ⟨by rw [z9 9 (by omega) (by omega)]; exact nI_0.symm, by rw [z9 10 (by omega) (by omega)]; exact nI_0.symm, by rw [z9 11 (by omega) (by omega)]; exact nI_0.symm, fun l hg hk => by
      rw [x3.2.2, t2.2.1, k7 _ (by omega)]
      show Nat.testBit 0 _ = decide (l ∈ [])
      rw [Nat.zero_testBit]
      exact (decide_eq_false (by simp)).symm⟩
    obtain ⟨c4, y1, y2, y3⟩ := expm_c hW ln 0 0 6 c3 (0, 0, []) (by omega) (st_root hp) hC3 hT3 hM0 (by omega)
    rw [hh0, nI_0] at y1
    obtain ⟨e0, e1, e2, e3, e4⟩ := x2
    have hs : ∀ k, k < 3 → ∀ n, SQ nw ln wd c3 k n → SQ nw ln wd c4 k n := fun k hk n q => ⟨by rw [y3.1 (13 + k) (by omega)]; exact q.1, by rw [y3.2.2]; exact q.2.1, fun x hx hx2 => by rw [y3.2.1]; exact q.2.2 x hx hx2⟩
    refine ⟨c4, ?_, y3.cl hC3, ⟨hs 0 (by decide) _ e0, hs 1 (by decide) _ e1, hs 2 (by decide) _ e2, fun w hw => by rw [y3.2.1]; exact e3 w hw, fun _ => ⟨?_, ?_, y2.1, y2.2.1, y2.2.2.1⟩⟩, fun j hj => by rw [y3.2.2]; exact e4 j hj, fun j hj => ?_, fun j hj => ?_⟩
    · rw [bind_s t1, bind_s x1, f_X2_run_J28, bind_s y1]
    · rw [y3.1 7 (by omega), x4, t2.1, k3 7 (by unfold Zsc; omega), Int32.zero_add]
    · rw [y3.1 8 (by omega), x5, t2.1, k3 8 (by unfold Zsc; omega), Int32.zero_add]
    · rw [y3.1 j (by omega), x3.1 j (by unfold Ssc; omega), t2.1, k2 j (by unfold Zsc; omega)]
    · rw [y3.2.1, x3.2.1 j (by unfold Srw; omega), t2.2.2 j (by show ¬ (24 ≤ j); omega), k4 j (by omega)]
theorem cb_m {m : St} : ∃ g : Nat → Int32, f_X8_clearBoard m = some (sR m 3 g) ∧ ∀ r, r < 4 → g r = -1 := by
  have loop : ∀ (fu k : Nat) (g : Nat → Int32), k ≤ 4 → 4 - k < fu → (∀ i, i < k → g i = -1) → ∃ g2 : Nat → Int32, f_X8_clearBoard_L2 fu (sR m 3 g) (nI k) = some (sR m 3 g2) ∧ ∀ i, i < 4 → g2 i = -1 := by
    intro fu
    induction fu with
    | zero => intro k g _ h; omega
    | succ fu ih =>
      intro k g hk hf hg
      rw [f_X8_clearBoard_L2, n4, ite_leN (by omega) (by omega)]
      by_cases e : 4 ≤ k
      · rw [if_pos e]
        exact ⟨g, rfl, fun i hi => hg i (by omega)⟩
      · rw [if_neg e, ite_in (show k < 4 by omega) (by omega), nI_clamp (by omega), lt, lt, sA_sR, sR_sR, nI_1]
        have eq : (sR m 3 g).2.1 3 = g := by rw [sR_A, if_pos rfl]
        rw [eq]
        refine ih (k + 1) _ (by omega) (by omega) (fun i hi => ?_)
        rw [upd_at]
        by_cases e2 : i = k
        · rw [if_pos e2]
        · rw [if_neg e2]; exact hg i (by omega)
  have h9 := loop FU 0 (m.2.1 3) (by omega) (by have := FU_big; omega) (fun i hi => by omega)
  rw [sR_id, nI_0] at h9
  rw [f_X8_clearBoard]
  exact h9
theorem renew_c {nw ln : Nat} {wd : Nat → Nat → Nat} {wt : Nat → Nat} {tl : Nat} {tx : Nat → Nat} {c m : St} (hW : WL nw ln wd) (hT : RT tl tx c m) (hC : CL nw ln wd c) (hM : ML nw ln wd m) (hRW : RW nw wt c m) (hN : RN c m) (hP : RP c) (hb : ∀ r, r < 4 → m.2.1 3 r = -1) : ∃ c', f_X7_renew c = some c' ∧ RL9 nw ln wd wt tl tx (fun _ => -1) c' m ∧ c'.1 5 = c.1 5 := by
  obtain ⟨c1, a1, a2, a3, a4, a5, a6⟩ := run_c hW hC hP
  obtain ⟨g, b1, b2⟩ := fill_c (st := c1) (q := 17) (n := 4) (v := -1) (by decide)
  obtain ⟨c', e⟩ : ∃ c', c' = sI (sI (sR c1 17 g) 0 0) 1 0 := ⟨_, rfl⟩
  have f1 : ∀ j, 2 ≤ j → c'.1 j = c1.1 j := fun j hj => by
    rw [e, sI_I, if_neg (by omega), sI_I, if_neg (by omega), sR_I]
  have f2 : ∀ j, j ≠ 17 → c'.2.1 j = c1.2.1 j := fun j hj => by
    rw [e, sI_A, sI_A, sR_A, if_neg hj]
  have f17 : ∀ r, r < 4 → c'.2.1 17 r = -1 := fun r hr => by
    rw [e, sI_A, sI_A, sR_A, if_pos rfl]; exact b2 r hr
  have f3 : c'.2.2.2 = c1.2.2.2 := by rw [e]; rfl
  refine ⟨c', ?_, ⟨hW, ⟨hT.1, ?_, hT.2.2.1, fun i hi => ?_⟩, ⟨?_, ?_, fun w hw => ?_⟩, hM, fun w hw => ?_, fun r hr => ⟨f17 r hr, hb r hr, Or.inl rfl⟩, ⟨?_, ?_⟩, RF_mo (fun j hj => f1 j (by omega)) f2 f3 a3, fun k hk => by rw [f3]; exact a4 k hk, Or.inl ?_, Or.inl ?_⟩, ?_⟩
  · rw [f_X7_renew, bind_s a1, f_X7_renew_J7, f_X0_clear, bind_s b1, bind_s rfl, lt, lt, e]
  · rw [f1 4 (by omega), a5 4 (by omega)]; exact hT.2.1
  · obtain ⟨p1, p2, p3, p4⟩ := hT.2.2.2 i hi
    exact ⟨p1, p2, by rw [f2 11 (by omega), a6 11 (by omega)]; exact p3, p4⟩
  · rw [f1 5 (by omega), a5 5 (by omega)]; exact hC.1
  · rw [f1 6 (by omega), a5 6 (by omega)]; exact hC.2.1
  · rw [f2 12 (by omega), a6 12 (by omega)]; exact hC.2.2 w hw
  · obtain ⟨p1, p2, p3, p4⟩ := hRW w hw
    exact ⟨p1, p2, by rw [f2 13 (by omega), a6 13 (by omega)]; exact p3, p4⟩
  · rw [f1 2 (by omega), a5 2 (by omega)]; exact hN.1
  · rw [f1 3 (by omega), a5 3 (by omega)]; exact hN.2
  · rw [e, sI_I, if_neg (by decide), sI_I, if_pos rfl]
  · rw [e, sI_I, if_pos rfl]
  · rw [f1 5 (by omega), a5 5 (by omega)]
end
