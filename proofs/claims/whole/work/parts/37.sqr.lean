section
/-! the reference: loops over all rows -/
def Fs (m m' : St) : Prop := Fr m m' ∧ m'.2.2 = m.2.2
theorem Fs.rf {m : St} : Fs m m := ⟨Fr.rf, rfl⟩
theorem Fs.tr {a b c : St} (h : Fs a b) (g : Fs b c) : Fs a c := ⟨h.1.tr g.1, g.2.trans h.2⟩
theorem sR_Fs {m : St} {j : Nat} (h : 5 ≤ j) (g : Nat → Int32) : Fs m (sR m j g) := ⟨sR_Fr h g, rfl⟩
theorem sA_Fs {m : St} {j i : Nat} {v : Int32} (h : 5 ≤ j) : Fs m (sA m j i v) := sR_Fs h _
theorem sI_Fs {m : St} {j : Nat} {v : Int32} (h : 5 ≤ j) : Fs m (sI m j v) := ⟨⟨fun k hk => by rw [sI_I, if_neg (by omega)], fun _ _ _ => rfl⟩, rfl⟩
theorem NN_pos {nw ln : Nat} (h : 0 < nw) : NN nw ln = nw ^ ln := by unfold NN; rw [if_neg (by omega)]
theorem NN_le {nw ln : Nat} {wd : Nat → Nat → Nat} (hW : WL nw ln wd) : NN nw ln ≤ 20736 := by
  unfold NN
  split
  · omega
  · have h1 : nw ^ ln ≤ 12 ^ ln := Nat.pow_le_pow_left hW.1 ln
    have h2 : 12 ^ ln ≤ 12 ^ 4 := Nat.pow_le_pow_right (by decide) hW.2.1
    have h3 : (12 : Nat) ^ 4 = 20736 := by decide
    omega
theorem NN_z {ln : Nat} : NN 0 ln = 0 := by unfold NN; rw [if_pos rfl]
theorem nx_m {nw ln : Nat} {wd : Nat → Nat → Nat} {m : St} (hW : WL nw ln wd) (hM : ML nw ln wd m) {x : Nat} (hx : x < NN nw ln) (hA : Ax nw ln x m) : ∃ g : Nat → Int32, f_X8_next m = some (bi (decide (x + 1 < NN nw ln)), sR m 6 g) ∧ (x + 1 < NN nw ln → Ax nw ln (x + 1) (sR m 6 g)) := by
  have h0 : 0 < nw := by
    rcases Nat.eq_zero_or_pos nw with h | h
    · rw [h, NN_z] at hx; omega
    · exact h
  rw [NN_pos h0] at hx ⊢
  obtain ⟨g, h1, h2⟩ := next_m hW hM h0 hx hA
  refine ⟨g, ?_, fun h => (h1 h).2⟩
  by_cases e : x + 1 < nw ^ ln
  · rw [decide_eq_true e]; exact (h1 e).1
  · rw [decide_eq_false e]; exact h2 (by omega)
theorem bg_m {nw ln : Nat} {wd : Nat → Nat → Nat} {m : St} (hW : WL nw ln wd) : ∃ g : Nat → Int32, f_X8_begin m = some (sR m 6 g) ∧ Ax nw ln 0 (sR m 6 g) := by
  obtain ⟨g, h1, h2⟩ := begin_m6 (m := m)
  refine ⟨g, h1, fun r hr => ?_⟩
  have := hW.2.1
  rw [sR_A, if_pos rfl, h2 r (by omega), dg_zero]; rfl
theorem more_m {nw ln : Nat} {wd : Nat → Nat → Nat} (hW : WL nw ln wd) {α : Type} (f : Int32 → α) : (if nI nw ≤ 0 then f 0 else f 1) = f (bi (decide (0 < NN nw ln))) := by
  have hn := hW.1
  rcases Nat.eq_zero_or_pos nw with h | h
  · subst h
    rw [NN_z, if_pos (by decide)]; rfl
  · rw [NN_pos h, if_neg (nI_nle h (by omega)), decide_eq_true (Nat.pow_pos h)]; rfl
theorem nz_of {nw ln x : Nat} (h : x < NN nw ln) : 0 < nw := by
  rcases Nat.eq_zero_or_pos nw with g | g
  · rw [g, NN_z] at h; omega
  · exact g
theorem sqs_m {nw ln : Nat} {wd : Nat → Nat → Nat} {m : St} (hW : WL nw ln wd) (hM : ML nw ln wd m) {k : Nat} (hk : k < 3) : ∃ m2, f_X8_squaresNow m (nI k) = some (nI (ct (PK nw ln wd k) (NN nw ln)), m2) ∧ Fs m m2 := by
  have hN := NN_le hW
  have loop : ∀ (n x : Nat) (m' : St), x ≤ NN nw ln → NN nw ln - x < n → Fs m m' → (x < NN nw ln → Ax nw ln x m') → ∃ m2, f_X8_squaresNow_L19 n m' (nI k) (nI (ct (PK nw ln wd k) x)) (bi (decide (x < NN nw ln))) = some (nI (ct (PK nw ln wd k) (NN nw ln)), m2) ∧ Fs m m2 := by
    intro n
    induction n with
    | zero => intro x m' _ h2; omega
    | succ n ih =>
      intro x m' hx hnn hF hA
      rw [f_X8_squaresNow_L19]
      by_cases e : x < NN nw ln
      · have h0 := nz_of e
        obtain ⟨g, h1, -⟩ := of_m hW (hF.1.ml hM) h0 hk (hA e)
        have hF2 := hF.tr (sR_Fs (m := m') (show 5 ≤ 7 by decide) g)
        obtain ⟨g2, h3, h4⟩ := nx_m hW (hF2.1.ml hM) e (Ax_sR (g := g) (show 7 ≠ 6 by decide) (hA e))
        have ih1 := ih (x + 1) _ (by omega) (by omega) (hF2.tr (sR_Fs (m := sR m' 7 g) (show 5 ≤ 6 by decide) g2)) h4
        rw [decide_eq_true e, bi_t, if_neg (by decide), h1]
        rw [ct] at ih1
        cases hp : PK nw ln wd k x with
        | false =>
          rw [hp] at ih1
          simp only [Option.bind_some, bi_f, f_X8_squaresNow_J37, lt, h3]
          rw [if_pos trivial, Int32.add_zero]
          exact ih1
        | true =>
          rw [hp, if_pos rfl] at ih1
          simp only [Option.bind_some, bi_t, f_X8_squaresNow_J37, lt, h3]
          rw [if_neg (by decide), nI_1]
          exact ih1
      · rw [decide_eq_false e, bi_f, if_pos rfl, show x = NN nw ln by omega]
        exact ⟨m', rfl, hF⟩
  obtain ⟨g, h1, h2⟩ := bg_m (m := m) hW
  have h9 := loop FU 0 (sR m 6 g) (by omega) (by have := FU_big; omega) (sR_Fs (by decide) g) (fun _ => h2)
  rw [f_X8_squaresNow, h1]
  simp only [Option.bind_some, f_X8_squaresNow_J18, sR_I, hM.1]
  rw [more_m hW (fun t => f_X8_squaresNow_L19 FU (sR m 6 g) (nI k) 0 t)]
  exact h9
/-- a square is laid -/
theorem lay_m {nw ln : Nat} {wd : Nat → Nat → Nat} {m : St} (hW : WL nw ln wd) (hM : ML nw ln wd m) {k : Nat} (hk : k < 3) (a : Int32) : (∃ x m2, x < NN nw ln ∧ PK nw ln wd k x = true ∧ a = nI (ct (PK nw ln wd k) x) ∧ f_X8_lay m (nI k) a = some (1, m2) ∧ Fs m m2 ∧ Ax nw ln x m2 ∧ Cx7 nw ln wd x m2 ∧ P0 nw ln wd x = true) ∨ ((a.toInt < 0 ∨ (ct (PK nw ln wd k) (NN nw ln) : Int) ≤ a.toInt) ∧ ∃ m2, f_X8_lay m (nI k) a = some (0, m2) ∧ Fs m m2) := by
  have hN := NN_le hW
  have loop : ∀ (q : Nat), q < 2 ^ 31 → ∀ (n x : Nat) (m' : St), x ≤ NN nw ln → NN nw ln - x < n → Fs m m' → (x < NN nw ln → Ax nw ln x m') → ct (PK nw ln wd k) x ≤ q → (∃ y m2, y < NN nw ln ∧ PK nw ln wd k y = true ∧ q = ct (PK nw ln wd k) y ∧ f_X8_lay_L24 n m' (nI k) (nI (q - ct (PK nw ln wd k) x)) (bi (decide (x < NN nw ln))) = some (1, m2) ∧ Fs m m2 ∧ Ax nw ln y m2 ∧ Cx7 nw ln wd y m2 ∧ P0 nw ln wd y = true) ∨ (ct (PK nw ln wd k) (NN nw ln) ≤ q ∧ ∃ m2, f_X8_lay_L24 n m' (nI k) (nI (q - ct (PK nw ln wd k) x)) (bi (decide (x < NN nw ln))) = some (0, m2) ∧ Fs m m2) := by
    intro q hq n
    induction n with
    | zero => intro x m' _ h2; omega
    | succ n ih =>
      intro x m' hx hnn hF hA hc
      rw [f_X8_lay_L24]
      by_cases e : x < NN nw ln
      · have h0 := nz_of e
        obtain ⟨g, h1, h1b⟩ := of_m hW (hF.1.ml hM) h0 hk (hA e)
        have hF2 := hF.tr (sR_Fs (m := m') (show 5 ≤ 7 by decide) g)
        obtain ⟨g2, h3, h4⟩ := nx_m hW (hF2.1.ml hM) e (Ax_sR (g := g) (show 7 ≠ 6 by decide) (hA e))
        have ih1 := ih (x + 1) _ (by omega) (by omega) (hF2.tr (sR_Fs (m := sR m' 7 g) (show 5 ≤ 6 by decide) g2)) h4
        rw [decide_eq_true e, bi_t, if_neg (by decide), h1]
        rw [ct] at ih1
        cases hp : PK nw ln wd k x with
        | false =>
          rw [hp] at ih1
          simp only [Option.bind_some, bi_f, f_X8_lay_J46, h3]
          rw [if_pos trivial]
          exact ih1 hc
        | true =>
          rw [hp, if_pos rfl] at ih1
          simp only [Option.bind_some, bi_t, f_X8_lay_J46, lt, h3]
          rw [if_neg (by decide)]
          by_cases e2 : q = ct (PK nw ln wd k) x
          · rw [← e2, Nat.sub_self, if_pos nI_0]
            exact Or.inl ⟨x, _, e, hp, e2, rfl, hF2, Ax_sR (show 7 ≠ 6 by decide) (hA e), (h1b hp).2, (h1b hp).1⟩
          · have hne : ¬ (nI (q - ct (PK nw ln wd k) x) = 0) := by
              rw [← nI_0, nI_eq_iff (by omega) (by omega)]; omega
            rw [if_neg hne]
            have e3 : nI (q - ct (PK nw ln wd k) x) + -1 = nI (q - (ct (PK nw ln wd k) x + 1)) := by
              rw [← Int32.sub_eq_add_neg, n1, pk_sub (by omega)]
              congr 1
            rw [e3]
            exact ih1 (by omega)
      · rw [decide_eq_false e, bi_f, if_pos rfl]
        have e3 : x = NN nw ln := by omega
        rw [e3] at hc
        exact Or.inr ⟨hc, m', rfl, hF⟩
  obtain ⟨g, h1, h2⟩ := bg_m (m := m) hW
  rw [f_X8_lay, h1]
  simp only [Option.bind_some, f_X8_lay_J22, f_X8_lay_J21, sR_I, hM.1]
  have hc := ct_le (PK nw ln wd k) (NN nw ln)
  by_cases h : a < 0
  case neg =>
    obtain ⟨q, hq, rfl⟩ := nI_of (x := a) h
    rw [if_neg (nI_pos (show q < 2 ^ 31 by omega)), more_m hW (fun t => f_X8_lay_L24 FU (sR m 6 g) (nI k) (nI q) t)]
    rcases loop q (by omega) FU 0 (sR m 6 g) (by omega) (by have := FU_big; omega) (sR_Fs (by decide) g) (fun _ => h2) (by rw [ct]; omega) with ⟨y, m2, g1, g2, g3, g4, g5⟩ | ⟨g1, g2⟩
    · rw [ct, Nat.sub_zero] at g4
      exact Or.inl ⟨y, m2, g1, g2, by rw [g3], g4, g5⟩
    · rw [ct, Nat.sub_zero] at g2
      refine Or.inr ⟨Or.inr ?_, g2⟩
      rw [nI_toInt (by omega)]; omega
  case pos =>
    refine Or.inr ⟨Or.inl (by rw [i32_lt, i0] at h; exact h), sR m 6 g, ?_, sR_Fs (by decide) g⟩
    have hz : f_X8_lay_L24 FU (sR m 6 g) (nI k) a 0 = some (0, sR m 6 g) := by
      obtain ⟨n, hn⟩ := fu_s 1 (by decide)
      rw [hn, f_X8_lay_L24, if_pos rfl]
    rw [hz, if_pos h]
    split <;> rfl
/-- the weight of the square that is laid -/
theorem heavy_m {nw ln : Nat} {wd : Nat → Nat → Nat} {wt : Nat → Nat} {c m m' : St} (hW : WL nw ln wd) (hM : ML nw ln wd m) (hR : RW nw wt c m) (hF : Fs m m') {x : Nat} (h0 : 0 < nw) (hA : Ax nw ln x m') (hC : Cx7 nw ln wd x m') (hP : P0 nw ln wd x = true) : f_X8_heavyNow m' = some (nI (wgt nw ln wd wt x)) := by
  have hn := hW.1
  have hl := hW.2.1
  have hM2 := hF.1.ml hM
  have loop : ∀ (n k : Nat), k ≤ ln → ln - k < n → f_X8_heavyNow_L4 m' n (nI (sm (fun r => wt (dg nw ln x r) + wt (hd nw wd ln x r)) k)) (nI k) = some (nI (sm (fun r => wt (dg nw ln x r) + wt (hd nw wd ln x r)) ln)) := by
    intro n
    induction n with
    | zero => intro k _ h2; omega
    | succ n ih =>
      intro k hk hnn
      rw [f_X8_heavyNow_L4, hM2.2.1, ite_leN (by omega) (by omega)]
      by_cases e : ln ≤ k
      · rw [if_pos e, show k = ln by omega]
      · have ih1 := ih (k + 1) (by omega) (by omega)
        have b1 : dg nw ln x k < nw := dg_lt h0
        have b2 := hd_lt hP (show k < ln by omega)
        rw [if_neg e, ite_in (show k < 4 by omega) (by decide), ite_in (show k < 4 by omega) (by decide), nI_clamp (by omega), hA k (by omega), hC k (by omega), ite_in (show dg nw ln x k < 12 by omega) (by decide), ite_in (show hd nw wd ln x k < 12 by omega) (by decide), nI_clamp (by omega), nI_clamp (by omega), hF.1.2 2 (by decide) (by decide), (hR _ b1).2.2.2, (hR _ b2).2.2.2]
        simp only [lt, nI_1, nI_add]
        exact ih1
  have h9 := loop FU 0 (by omega) (by have := FU_big; omega)
  rw [f_X8_heavyNow]
  exact h9
theorem wgt_le {nw ln : Nat} {wd : Nat → Nat → Nat} {wt : Nat → Nat} {c m : St} (hW : WL nw ln wd) (hR : RW nw wt c m) {x : Nat} (h0 : 0 < nw) (hP : P0 nw ln wd x = true) : wgt nw ln wd wt x ≤ 72 := by
  have hl := hW.2.1
  have h : ∀ k, k ≤ ln → sm (fun r => wt (dg nw ln x r) + wt (hd nw wd ln x r)) k ≤ 18 * k := by
    intro k
    induction k with
    | zero => intro _; exact Nat.le_refl _
    | succ k ih =>
      intro hk
      have h1 := ih (by omega)
      have h2 := (hR _ (dg_lt (d := ln) (x := x) (r := k) h0)).2.1
      have h3 := (hR _ (hd_lt hP (show k < ln by omega))).2.1
      rw [sm]; omega
  have := h ln (Nat.le_refl _)
  unfold wgt; omega
theorem heaviest_m {nw ln : Nat} {wd : Nat → Nat → Nat} {wt : Nat → Nat} {c m : St} (hW : WL nw ln wd) (hM : ML nw ln wd m) (hR : RW nw wt c m) {k : Nat} (hk : k < 3) : ∃ m2, f_X8_heaviestNow m (nI k) = some ((hv (PK nw ln wd k) (wgt nw ln wd wt) (NN nw ln)).1, m2) ∧ Fs m m2 := by
  have hN := NN_le hW
  have loop : ∀ (n x : Nat) (m' : St), x ≤ NN nw ln → NN nw ln - x < n → Fs m m' → (x < NN nw ln → Ax nw ln x m') → (hv (PK nw ln wd k) (wgt nw ln wd wt) x).2 ≤ 72 → ∃ m2, f_X8_heaviestNow_L25 n m' (nI k) (hv (PK nw ln wd k) (wgt nw ln wd wt) x).1 (nI (hv (PK nw ln wd k) (wgt nw ln wd wt) x).2) (nI (ct (PK nw ln wd k) x)) (bi (decide (x < NN nw ln))) = some ((hv (PK nw ln wd k) (wgt nw ln wd wt) (NN nw ln)).1, m2) ∧ Fs m m2 := by
    intro n
    induction n with
    | zero => intro x m' _ h2; omega
    | succ n ih =>
      intro x m' hx hnn hF hA hb
      rw [f_X8_heaviestNow_L25]
      by_cases e : x < NN nw ln
      · have h0 := nz_of e
        obtain ⟨g, h1, h1b⟩ := of_m hW (hF.1.ml hM) h0 hk (hA e)
        have hF2 := hF.tr (sR_Fs (m := m') (show 5 ≤ 7 by decide) g)
        have hA2 := Ax_sR (g := g) (show 7 ≠ 6 by decide) (hA e)
        obtain ⟨g2, h3, h4⟩ := nx_m hW (hF2.1.ml hM) e hA2
        have ih1 := ih (x + 1) _ (by omega) (by omega) (hF2.tr (sR_Fs (m := sR m' 7 g) (show 5 ≤ 6 by decide) g2)) h4
        rw [decide_eq_true e, bi_t, if_neg (by decide), h1]
        rw [ct, hv] at ih1
        cases hp : PK nw ln wd k x with
        | false =>
          rw [hp] at ih1
          simp only [Option.bind_some, bi_f, f_X8_heaviestNow_J73, h3]
          rw [if_pos trivial]
          exact ih1 hb
        | true =>
          have hw := wgt_le hW hR h0 (h1b hp).1
          rw [hp, if_pos rfl] at ih1
          simp only [Option.bind_some, bi_t]
          rw [if_neg (by decide), heavy_m hW hM hR hF2 h0 hA2 (h1b hp).2 (h1b hp).1]
          simp only [Option.bind_some, f_X8_heaviestNow_J73, f_X8_heaviestNow_J56, f_X8_heaviestNow_J69, lt, h3, nI_1]
          by_cases e2 : wgt nw ln wd wt x ≤ (hv (PK nw ln wd k) (wgt nw ln wd wt) x).2
          · have e3 := (nI_leI (show wgt nw ln wd wt x < 2 ^ 31 by omega) (by omega)).mpr e2
            rw [if_pos e3, if_pos e3]
            rw [Bool.true_and, decide_eq_false (by omega)] at ih1
            exact ih1 hb
          · have e3 := fun q => e2 ((nI_leI (show wgt nw ln wd wt x < 2 ^ 31 by omega) (by omega)).mp q)
            rw [if_neg e3, if_neg e3]
            rw [Bool.true_and, decide_eq_true (by omega)] at ih1
            exact ih1 hw
      · rw [decide_eq_false e, bi_f, if_pos rfl, show x = NN nw ln by omega]
        exact ⟨m', rfl, hF⟩
  obtain ⟨g, h1, h2⟩ := bg_m (m := m) hW
  have h9 := loop FU 0 (sR m 6 g) (by omega) (by have := FU_big; omega) (sR_Fs (by decide) g) (fun _ => h2) (by rw [hv]; decide)
  rw [f_X8_heaviestNow, h1]
  simp only [Option.bind_some, f_X8_heaviestNow_J23, sR_I, hM.1]
  rw [more_m hW (fun t => f_X8_heaviestNow_L25 FU (sR m 6 g) (nI k) (-1) 0 0 t)]
  exact h9
end
