section
/-! heaviest, turned -/
theorem great_c {nw ln : Nat} {wd : Nat → Nat → Nat} {wt : Nat → Nat} {c m : St} (hW : WL nw ln wd) (hCL : c.1 6 = nI ln) (hRW : RW nw wt c m) {k : Nat} (hk : k < 3) (hS : SQ nw ln wd c k (NN nw ln)) (hP : RP c) : f_X7_greatestOf c k = some (hv (PK nw ln wd k) (wgt nw ln wd wt) (NN nw ln)).1 := by
  have hN := NN_le hW
  have hc := ct_le (PK nw ln wd k) (NN nw ln)
  have loop : ∀ (d x n : Nat), x + d = NN nw ln → ct (PK nw ln wd k) (NN nw ln) - ct (PK nw ln wd k) x < n → (hv (PK nw ln wd k) (wgt nw ln wd wt) x).2 ≤ 72 → f_X7_greatestOf_L7 c n k (hv (PK nw ln wd k) (wgt nw ln wd wt) x).1 (nI (hv (PK nw ln wd k) (wgt nw ln wd wt) x).2) (nI (ct (PK nw ln wd k) x)) = some (hv (PK nw ln wd k) (wgt nw ln wd wt) (NN nw ln)).1 := by
    intro d
    induction d with
    | zero =>
      intro x n hx hn _
      obtain ⟨n', rfl⟩ : ∃ n', n = n' + 1 := ⟨n - 1, by omega⟩
      rw [show x = NN nw ln by omega, f_X7_greatestOf_L7]
      simp only [f_X4_size, Option.bind_some, hS.1]
      rw [ite_leN (by omega) (by omega), if_pos (Nat.le_refl _)]
    | succ d ih =>
      intro x n hx hn hb
      have hx2 : x < NN nw ln := by omega
      cases hp : PK nw ln wd k x with
      | false =>
        have ih1 := ih (x + 1) n (by omega)
        rw [hv, ct, hp] at ih1
        exact ih1 (by simpa using hn) hb
      | true =>
        have h1 := ct_lt hx2 hp
        have hw := wgt_le hW hRW (nz_of hx2) (PK_P0 hp)
        obtain ⟨n', rfl⟩ : ∃ n', n = n' + 1 := ⟨n - 1, by omega⟩
        have ih1 := ih (x + 1) n' (by omega)
        rw [hv, ct, hp, Bool.true_and, if_pos rfl] at ih1
        rw [f_X7_greatestOf_L7]
        simp only [f_X4_size, Option.bind_some, hS.1]
        rw [ite_leN (by omega) (by omega), if_neg (by omega), wsq_c hW hCL hRW hk hS hP hx2 hp]
        simp only [Option.bind_some, f_X7_greatestOf_J37, lt, nI_1]
        by_cases e2 : wgt nw ln wd wt x ≤ (hv (PK nw ln wd k) (wgt nw ln wd wt) x).2
        · have e3 := (nI_leI (show wgt nw ln wd wt x < 2 ^ 31 by omega) (by omega)).mpr e2
          rw [if_pos e3]
          rw [decide_eq_false (by omega)] at ih1
          exact ih1 (by omega) hb
        · have e3 := fun q => e2 ((nI_leI (show wgt nw ln wd wt x < 2 ^ 31 by omega) (by omega)).mp q)
          rw [if_neg e3]
          rw [decide_eq_true (by omega)] at ih1
          exact ih1 (by omega) hw
  exact loop (NN nw ln) 0 FU (by omega) (by have := FU_big; omega) (by rw [hv]; decide)
theorem sA_10 (c : St) (j k : Nat) (v : Int32) : (sA c 10 j v).2.1 10 k = if k = j then v else c.2.1 10 k := by
  rw [sA_A, if_pos rfl, upd_at]
theorem hvst_c {nw ln : Nat} {wd : Nat → Nat → Nat} {wt : Nat → Nat} {tl : Nat} {tx : Nat → Nat} {bd : Nat → Int32} {c m : St} (hR : RL9 nw ln wd wt tl tx bd c m) {k : Nat} (hk : k < 3) (h1 : f_X7_isKind (nI k) = some 1) : ∃ c', f_X7_heaviest c (nI k) = some ((hv (PK nw ln wd k) (wgt nw ln wd wt) (NN nw ln)).1, c') ∧ RL9 nw ln wd wt tl tx bd c' m := by
  obtain ⟨hWL, hRT, hCL, hML, hRW, hRB, hRN, hRF, hRP, hRH, hRK⟩ := hR
  have hin : inb (nI k) 3 = true := inb_t hk (by decide)
  rcases hRH with h | ⟨h, h2⟩
  · generalize hv0 : (hv (PK nw ln wd 0) (wgt nw ln wd wt) (NN nw ln)).1 = v0
    generalize hv1 : (hv (PK nw ln wd 1) (wgt nw ln wd wt) (NN nw ln)).1 = v1
    generalize hv2 : (hv (PK nw ln wd 2) (wgt nw ln wd wt) (NN nw ln)).1 = v2
    have g0 : f_X7_greatestOf c 0 = some v0 := by rw [← hv0]; exact great_c hWL hCL.2.1 hRW (by decide) hRF.1 hRP
    have g1 : f_X7_greatestOf (sA c 10 0 v0) 1 = some v1 := by
      rw [← hv1]
      exact great_c (c := sA c 10 0 v0) (m := m) hWL hCL.2.1 hRW (by decide) hRF.2.1 hRP
    have g2 : f_X7_greatestOf (sA (sA c 10 0 v0) 10 1 v1) 2 = some v2 := by
      rw [← hv2]
      exact great_c (c := sA (sA c 10 0 v0) 10 1 v1) (m := m) hWL hCL.2.1 hRW (by decide) hRF.2.2.1 hRP
    obtain ⟨n, hn⟩ := fu_s 4 (by decide)
    have hfin : ∀ j, j < 3 → (sI (sA (sA (sA c 10 0 v0) 10 1 v1) 10 2 v2) 0 1).2.1 10 j = (hv (PK nw ln wd j) (wgt nw ln wd wt) (NN nw ln)).1 := fun j hj => by
      rw [sI_A, sA_10, sA_10, sA_10]
      rcases (show j = 0 ∨ j = 1 ∨ j = 2 by omega) with rfl | rfl | rfl
      · rw [hv0]; rfl
      · rw [hv1]; rfl
      · rw [hv2]; rfl
    refine ⟨sI (sA (sA (sA c 10 0 v0) 10 1 v1) 10 2 v2) 0 1, ?_, hWL, hRT, hCL, hML, hRW, hRB, hRN, hRF, hRP, Or.inr ⟨rfl, hfin⟩, hRK⟩
    rw [f_X7_heaviest, h1]
    simp only [Option.bind_some, i10, if_false]
    rw [h, if_pos rfl, hn]
    have k0 : f_X2_ofKind c 0 = some 0 := rfl
    have k1 : ∀ c, f_X2_ofKind c (0 + 1) = some 1 := fun _ => rfl
    have k2 : ∀ c, f_X2_ofKind c (0 + 1 + 1) = some 2 := fun _ => rfl
    rw [f_X7_heaviest_L19, if_neg (by decide), k0]
    simp only [Option.bind_some, g0]
    rw [if_pos (by decide), lt, lt, f_X7_heaviest_L19, if_neg (by decide), k1]
    simp only [Option.bind_some]
    rw [show Int32.toNatClampNeg 0 = 0 from rfl, g1]
    simp only [Option.bind_some]
    rw [if_pos (by decide), lt, lt, f_X7_heaviest_L19, if_neg (by decide), k2]
    simp only [Option.bind_some]
    rw [show Int32.toNatClampNeg (0 + 1) = 1 from rfl, g2]
    simp only [Option.bind_some]
    rw [if_pos (by decide), lt, lt, f_X7_heaviest_L19, if_pos (by decide), lt, f_X7_heaviest_J53, if_pos hin, show Int32.toNatClampNeg (0 + 1 + 1) = 2 from rfl, nI_clamp (by omega), hfin k hk]
  · refine ⟨c, ?_, hWL, hRT, hCL, hML, hRW, hRB, hRN, hRF, hRP, Or.inr ⟨h, h2⟩, hRK⟩
    rw [f_X7_heaviest, h1]
    simp only [Option.bind_some, i10, if_false]
    rw [h, if_neg (by decide), f_X7_heaviest_J53, if_pos hin, nI_clamp (by omega), h2 k hk]
theorem op13 : Op_13 Rel := by
  intro c m a hR
  obtain ⟨nw, ln, wd, wt, tl, tx, bd, hR0⟩ := hR
  rcases kind_both a with ⟨k, hk, rfl, h1, h2⟩ | ⟨h1, h2⟩
  · obtain ⟨c', h3, h4⟩ := hvst_c hR0 hk h1
    obtain ⟨m2, h5, h6⟩ := heaviest_m hR0.1 hR0.2.2.2.1 hR0.2.2.2.2.1 hk
    refine ⟨_, c', m2, h3, ?_, nw, ln, wd, wt, tl, tx, bd, h6.1.rel h4⟩
    simp only [f_X8_heaviest, h2, Option.bind_some, i10, if_false, h5]
  · refine ⟨-102, c, m, ?_, ?_, nw, ln, wd, wt, tl, tx, bd, hR0⟩
    · simp only [f_X7_heaviest, h1, Option.bind_some, i00, if_true]
    · simp only [f_X8_heaviest, h2, Option.bind_some, i00, if_true]
/-! the turned square -/
theorem nb_mono {B C : Nat} {f g : Nat → Nat} : ∀ {n : Nat}, (∀ i, i < n → f i < B) → (∀ i, i < n → g i < B) → B ≤ C → nb B n f < nb B n g → nb C n f < nb C n g
  | 0, _, _, _, h => by simp [nb] at h
  | n + 1, hf, hg, hBC, h => by
    have f1 := hf n (by omega)
    have g1 := hg n (by omega)
    rw [nb, nb] at h ⊢
    rcases Nat.lt_trichotomy (nb B n f) (nb B n g) with e | e | e
    · have ih := nb_mono (n := n) (fun i hi => hf i (by omega)) (fun i hi => hg i (by omega)) hBC e
      have : (nb C n f + 1) * C ≤ nb C n g * C := Nat.mul_le_mul_right _ ih
      rw [Nat.add_mul] at this
      omega
    · have e2 := nb_congr (B := C) (nb_inj (fun i hi => hf i (by omega)) (fun i hi => hg i (by omega)) e)
      rw [e] at h
      rw [e2]
      omega
    · have : (nb B n g + 1) * B ≤ nb B n f * B := Nat.mul_le_mul_right _ e
      rw [Nat.add_mul] at this
      omega
theorem nb_dg {nw ln x : Nat} (h0 : 0 < nw) (hx : x < nw ^ ln) : nb nw ln (dg nw ln x) = x := nb_of h0 hx
theorem pk_mono {nw ln : Nat} {wd : Nat → Nat → Nat} (hW : WL nw ln wd) {x y : Nat} (hx : x < NN nw ln) (hy : y < NN nw ln) : pkd ln (dg nw ln x) < pkd ln (dg nw ln y) ↔ x < y := by
  have h0 := nz_of hx
  have hn := hW.1
  have key : ∀ x y, x < NN nw ln → y < NN nw ln → x < y → pkd ln (dg nw ln x) < pkd ln (dg nw ln y) := fun x y hx hy h => by
    rw [NN_pos h0] at hx hy
    rw [pkd_nb, pkd_nb]
    refine nb_mono (B := nw) (fun i _ => dg_lt h0) (fun i _ => dg_lt h0) (by omega) ?_
    rw [nb_dg h0 hx, nb_dg h0 hy]
    exact h
  constructor
  · intro h
    rcases Nat.lt_trichotomy x y with e | e | e
    · exact e
    · rw [e] at h; omega
    · have := key y x hy hx e; omega
  · exact key x y hx hy
theorem wd_inj {nw ln : Nat} {wd : Nat → Nat → Nat} (hW : WL nw ln wd) {v w : Nat} (hv : v < nw) (hw : w < nw) (h : ∀ i, i < ln → wd v i = wd w i) : v = w := by
  have e : cd ln (wd v) = cd ln (wd w) := by rw [cd_nb, cd_nb]; exact nb_congr h
  rcases Nat.lt_trichotomy v w with g | g | g
  · have := hW.2.2.2.2.2 v w g hw; omega
  · exact g
  · have := hW.2.2.2.2.2 w v g hv; omega
def tr (nw ln : Nat) (wd : Nat → Nat → Nat) (x : Nat) : Nat := nb nw ln (hd nw wd ln x)
theorem tr_spec {nw ln : Nat} {wd : Nat → Nat → Nat} (hW : WL nw ln wd) (h0 : 0 < nw) {x : Nat} (hP : P0 nw ln wd x = true) : tr nw ln wd x < NN nw ln ∧ (∀ r, r < ln → dg nw ln (tr nw ln wd x) r = hd nw wd ln x r) ∧ (∀ r, r < ln → hd nw wd ln (tr nw ln wd x) r = dg nw ln x r) ∧ P0 nw ln wd (tr nw ln wd x) = true := by
  have hlt : ∀ i, i < ln → hd nw wd ln x i < nw := fun i hi => hd_lt hP hi
  have h1 : ∀ r, r < ln → dg nw ln (tr nw ln wd x) r = hd nw wd ln x r := fun r hr => nb_dig hr hlt
  have h2 : ∀ r, r < ln → hd nw wd ln (tr nw ln wd x) r = dg nw ln x r := fun r hr => by
    have hq : ∀ q, q < ln → wd (dg nw ln (tr nw ln wd x) q) r = wd (dg nw ln x r) q := fun q hq => by
      rw [h1 q hq]
      have := fs_yes (fun w => al (fun r => wd (dg nw ln x r) q == wd w r) ln) (n := nw) (hlt q hq)
      have := al_iff.mp this r hr
      simp at this
      exact this.symm
    unfold hd
    refine fs_eq (dg_lt h0) (al_iff.mpr (fun q hq2 => by simp [hq q hq2])) (fun i hi => ?_)
    cases h : al (fun q => wd (dg nw ln (tr nw ln wd x) q) r == wd i q) ln with
    | false => rfl
    | true =>
      exfalso
      have hd1 : dg nw ln x r < nw := dg_lt h0
      have : i = dg nw ln x r := wd_inj hW (by omega) hd1 (fun q hq2 => by
        have := al_iff.mp h q hq2
        simp at this
        rw [← this, hq q hq2])
      omega
  refine ⟨by rw [NN_pos h0]; exact nb_lt hlt, h1, h2, al_iff.mpr (fun r hr => ?_)⟩
  have hd1 : dg nw ln x r < nw := dg_lt h0
  rw [h2 r hr]
  exact decide_eq_true hd1
theorem withRows_c {nw ln : Nat} {wd : Nat → Nat → Nat} {c : St} (hW : WL nw ln wd) (hS : SQ nw ln wd c 0 (NN nw ln)) (hP : RP c) {y : Nat} (hy : y < NN nw ln) (hp : PK nw ln wd 0 y = true) : f_X4_withRows c 0 (nI (pkd ln (dg nw ln y))) = some (nI (ct (PK nw ln wd 0) y)) := by
  have hN := NN_le hW
  have hl := hW.2.1
  have h0 := nz_of hy
  have hc := ct_le (PK nw ln wd 0) (NN nw ln)
  have hj := ct_lt hy hp
  have hpy := pkd_lt hl (dg16 hW h0 y)
  have loop : ∀ (n s at' : Nat), s < n → s ≤ 15 → at' ≤ ct (PK nw ln wd 0) y → ct (PK nw ln wd 0) y < at' + 2 ^ s → f_X4_withRows_L6 c 0 n (nI (pkd ln (dg nw ln y))) (nI at') (nI (2 ^ s / 2)) = some (nI (ct (PK nw ln wd 0) y)) := by
    intro n
    induction n with
    | zero => intro s a h; omega
    | succ n ih =>
      intro s a hs h15 h1 h2
      rw [f_X4_withRows_L6]
      by_cases e0 : s = 0
      · subst e0
        rw [if_pos (by decide), show a = ct (PK nw ln wd 0) y by omega]
      · obtain ⟨t, rfl⟩ : ∃ t, s = t + 1 := ⟨s - 1, by omega⟩
        have ht : 2 ^ (t + 1) / 2 = 2 ^ t := by rw [Nat.pow_succ, Nat.mul_div_cancel _ (by decide)]
        have ht2 : 2 ^ t ≤ 2 ^ 14 := Nat.pow_le_pow_right (by decide) (by omega)
        have ht3 : (2 : Nat) ^ 14 = 16384 := by decide
        have ht4 : 0 < 2 ^ t := Nat.pow_pos (by decide)
        have ht5 : 2 ^ (t + 1) = 2 * 2 ^ t := by rw [Nat.pow_succ, Nat.mul_comm]
        rw [ht, if_neg (nI_nle ht4 (by omega)), nI_add, hS.1, ite_leN (by omega) (by omega)]
        have hdv : nI (2 ^ t) / 2 = nI (2 ^ t / 2) := by
          rw [show (2 : Int32) = nI 2 from rfl, pk_div (by omega) (by decide) (by decide)]
        simp only [f_X4_withRows_J35, lt, hdv]
        by_cases e : ct (PK nw ln wd 0) (NN nw ln) ≤ a + 2 ^ t
        · rw [if_pos e]
          exact ih t a (by omega) (by omega) h1 (by omega)
        · rw [if_neg e]
          obtain ⟨z, z1, z2, z3⟩ := ct_nth (show a + 2 ^ t < ct (PK nw ln wd 0) (NN nw ln) by omega)
          rw [← z3, rows_c hW (by decide) hS hP z1 z2, z3]
          simp only [Option.bind_some]
          have hpz := pkd_lt hl (dg16 hW h0 z)
          rw [ite_ltN (by omega) (by omega)]
          have hm := pk_mono hW hy z1
          by_cases e2 : pkd ln (dg nw ln y) < pkd ln (dg nw ln z)
          · rw [if_pos e2]
            have := ct_lt (hm.mp e2) hp
            exact ih t a (by omega) (by omega) h1 (by omega)
          · rw [if_neg e2]
            have h5 : z ≤ y := by
              rcases Nat.lt_or_ge y z with q | q
              · exact absurd (hm.mpr q) e2
              · exact q
            have := ct_mono (PK nw ln wd 0) h5
            exact ih t (a + 2 ^ t) (by omega) (by omega) (by omega) (by omega)
  have h9 := loop FU 15 0 (by have := FU_big; omega) (by omega) (by omega) (by omega)
  rw [f_X4_withRows]
  exact h9
theorem turned_m {nw ln : Nat} {wd : Nat → Nat → Nat} {m m1 : St} (hW : WL nw ln wd) (hM : ML nw ln wd m) (hF1 : Fs m m1) {x : Nat} (hx : x < NN nw ln) (hP : P0 nw ln wd x = true) (hC : Cx7 nw ln wd x m1) : ∃ m2, f_X8_turnedNow m1 = some (nI (ct (PK nw ln wd 0) (tr nw ln wd x)), m2) ∧ Fs m m2 := by
  have hN := NN_le hW
  have hn := hW.1
  have hl := hW.2.1
  have h0 := nz_of hx
  obtain ⟨t1, t2, t3, t4⟩ := tr_spec hW h0 hP
  have cp : ∀ (n k : Nat) (g : Nat → Int32), k ≤ 4 → 4 - k < n → (∀ r, r < k → g r = m1.2.1 7 r) → ∃ g2 : Nat → Int32, (∀ r, r < 4 → g2 r = m1.2.1 7 r) ∧ f_X8_turnedNow_L2 n (sR m1 8 g) (nI k) = (f_X8_begin (sR m1 8 g2)).bind fun b28 => f_X8_turnedNow_L33 FU b28 0 0 := by
    intro n
    induction n with
    | zero => intro k g _ h; omega
    | succ n ih =>
      intro k g hk hnn hg
      rw [f_X8_turnedNow_L2, n4, ite_leN (by omega) (by omega)]
      by_cases e : 4 ≤ k
      · rw [if_pos e]
        exact ⟨g, fun r hr => hg r (by omega), rfl⟩
      · rw [if_neg e, ite_in (show k < 4 by omega) (by decide), ite_in (show k < 4 by omega) (by decide), nI_clamp (by omega), lt, lt, sA_sR, sR_sR]
        have e8 : (sR m1 8 g).2.1 8 = g := by rw [sR_A, if_pos rfl]
        have e7 : (sR m1 8 g).2.1 7 k = m1.2.1 7 k := by rw [sR_A, if_neg (by decide)]
        rw [e8, e7, nI_1]
        exact ih (k + 1) _ (by omega) (by omega) (fun r hr => by
          rw [upd_at]
          by_cases e2 : r = k
          · rw [if_pos e2, e2]
          · rw [if_neg e2]; exact hg r (by omega))
  have inner : ∀ (r33 : St → Int32 → Int32 → Option (Int32 × St)) (m' : St) (z : Nat) (num : Int32), Fs m m' → Ax nw ln z m' → (∀ r, r < ln → m'.2.1 8 r = nI (hd nw wd ln x r)) → ∀ (n k : Nat), k ≤ ln → ln - k < n → f_X8_turnedNow_L41 r33 n m' num (bi (al (fun r => dg nw ln z r == hd nw wd ln x r) k)) (nI k) = if al (fun r => dg nw ln z r == hd nw wd ln x r) ln then r33 m' num 1 else (f_X8_isSquare m').bind fun b86 => if b86.1 = 0 then f_X8_turnedNow_J97 r33 b86.2 0 0 num else f_X8_turnedNow_J97 r33 b86.2 0 1 num := by
    intro r33 m' z num hF hA h8 n
    have hM2 := hF.1.ml hM
    induction n with
    | zero => intro k _ h; omega
    | succ n ih =>
      intro k hk hnn
      rw [f_X8_turnedNow_L41, hM2.2.1, ite_leN (by omega) (by omega)]
      by_cases e : ln ≤ k
      · rw [if_pos e, show k = ln by omega]
        cases al (fun r => dg nw ln z r == hd nw wd ln x r) ln with
        | false => rw [bi_f, if_pos rfl]; rfl
        | true => rw [bi_t, if_neg (by decide)]; rfl
      · have ih1 := ih (k + 1) (by omega) (by omega)
        rw [if_neg e]
        rw [al] at ih1
        cases h : al (fun r => dg nw ln z r == hd nw wd ln x r) k with
        | false =>
          rw [h] at ih1
          rw [bi_f, if_pos rfl]
          simp only [f_X8_turnedNow_J72, f_X8_turnedNow_J73, lt, nI_1]
          exact ih1
        | true =>
          rw [h] at ih1
          have b1 : dg nw ln z k < nw := dg_lt h0
          have b2 := hd_lt hP (show k < ln by omega)
          rw [bi_t, if_neg (by decide), ite_in (show k < 4 by omega) (by decide), ite_in (show k < 4 by omega) (by decide), nI_clamp (by omega), hA k (by omega), h8 k (by omega), ite_eqN (by omega) (by omega)]
          simp only [f_X8_turnedNow_J72, f_X8_turnedNow_J73, lt, nI_1]
          by_cases e2 : dg nw ln z k = hd nw wd ln x k
          · rw [if_pos e2]
            simp only [e2, beq_self_eq_true, Bool.and_true] at ih1
            exact ih1
          · rw [if_neg e2]
            have e3 : (dg nw ln z k == hd nw wd ln x k) = false := by simp [e2]
            rw [e3] at ih1
            exact ih1
  have outer : ∀ (n z : Nat) (m' : St), z ≤ tr nw ln wd x → tr nw ln wd x - z + 1 < n → Fs m m' → Ax nw ln z m' → (∀ r, r < ln → m'.2.1 8 r = nI (hd nw wd ln x r)) → ∃ m2, f_X8_turnedNow_L33 n m' (nI (ct (PK nw ln wd 0) z)) 0 = some (nI (ct (PK nw ln wd 0) (tr nw ln wd x)), m2) ∧ Fs m m2 := by
    intro n
    induction n with
    | zero => intro z m' _ h; omega
    | succ n ih =>
      intro z m' hz hnn hF hA h8
      have hi := inner (f_X8_turnedNow_L33 n) m' z (nI (ct (PK nw ln wd 0) z)) hF hA h8 FU 0 (by omega) (by have := FU_big; omega)
      rw [al, bi_t, nI_0] at hi
      rw [f_X8_turnedNow_L33, if_pos rfl, hi]
      by_cases e : z = tr nw ln wd x
      · have ha : al (fun r => dg nw ln z r == hd nw wd ln x r) ln = true := al_iff.mpr (fun r hr => by rw [e, t2 r hr]; simp)
        obtain ⟨n', rfl⟩ : ∃ n', n = n' + 1 := ⟨n - 1, by omega⟩
        rw [ha, if_pos rfl, f_X8_turnedNow_L33, if_neg (by decide), ← e]
        exact ⟨m', rfl, hF⟩
      · have hz2 : z < NN nw ln := by omega
        have ha : al (fun r => dg nw ln z r == hd nw wd ln x r) ln = false := by
          cases h : al (fun r => dg nw ln z r == hd nw wd ln x r) ln with
          | false => rfl
          | true =>
            exfalso
            apply e
            have q0 := nb_dg (nw := nw) (ln := ln) (x := z) h0 (by rw [← NN_pos h0]; exact hz2)
            exact q0.symm.trans (nb_congr (fun r hr => by have := al_iff.mp h r hr; simpa using this))
        obtain ⟨g, q1, q2⟩ := sq_m hW (hF.1.ml hM) h0 hA
        have hF2 := hF.tr (sR_Fs (m := m') (show 5 ≤ 7 by decide) g)
        obtain ⟨g2, q3, q4⟩ := nx_m hW (hF2.1.ml hM) hz2 (Ax_sR (g := g) (show 7 ≠ 6 by decide) hA)
        have ih1 := ih (z + 1) (sR (sR m' 7 g) 6 g2) (by omega) (by omega) (hF2.tr (sR_Fs (m := sR m' 7 g) (show 5 ≤ 6 by decide) g2)) (q4 (by omega)) (fun r hr => by
          rw [sR_A, if_neg (by decide), sR_A, if_neg (by decide)]; exact h8 r hr)
        rw [ha, if_neg (by decide), q1]
        rw [ct, PK0] at ih1
        simp only [Option.bind_some, f_X8_turnedNow_J97, lt, q3]
        cases hp : P0 nw ln wd z with
        | false =>
          rw [hp] at ih1
          rw [bi_f, if_pos rfl, Int32.add_zero]
          exact ih1
        | true =>
          rw [hp] at ih1
          rw [bi_t, if_neg (by decide), nI_1]
          exact ih1
  have hs : sR m1 8 (m1.2.1 8) = m1 := by
    unfold sR
    have : va_up m1.2.1 8 (m1.2.1 8) = m1.2.1 := by
      funext i
      unfold va_up
      by_cases e : i = 8 <;> simp [e]
    rw [this]
  obtain ⟨g2, c1, c2⟩ := cp FU 0 (m1.2.1 8) (by omega) (by have := FU_big; omega) (fun r hr => by omega)
  rw [hs, nI_0] at c2
  obtain ⟨g, b1, b2⟩ := bg_m (m := sR m1 8 g2) hW
  obtain ⟨m2, o1, o2⟩ := outer FU 0 (sR (sR m1 8 g2) 6 g) (by omega) (by have := FU_big; omega) ((hF1.tr (sR_Fs (m := m1) (show 5 ≤ 8 by decide) g2)).tr (sR_Fs (m := sR m1 8 g2) (show 5 ≤ 6 by decide) g)) b2 (fun r hr => by
    rw [sR_A, if_neg (by decide), sR_A, if_pos rfl, c1 r (by omega)]; exact hC r hr)
  refine ⟨m2, ?_, o2⟩
  rw [f_X8_turnedNow, c2, b1]
  exact o1
theorem op12 : Op_12 Rel := by
  intro c m a hR
  obtain ⟨nw, ln, wd, wt, tl, tx, bd, hR0⟩ := hR
  have hR1 := hR0
  obtain ⟨hWL, hRT, hCL, hML, hRW, hRB, hRN, hRF, hRP, hRH, hRK⟩ := hR0
  have hk0 : f_X2_ofKind c 0 = some 0 := rfl
  rcases lay_m hWL hML (show 0 < 3 by decide) a with ⟨x, m2, hx, hp, rfl, h5, h6, h7, h8, h9⟩ | ⟨h5, m2, h6, h7⟩
  · obtain ⟨t1, t2, t3, t4⟩ := tr_spec hWL (nz_of hx) h9
    obtain ⟨m3, k1, k2⟩ := turned_m hWL hML h6 hx h9 h8
    refine ⟨nI (ct (PK nw ln wd 0) (tr nw ln wd x)), m3, ?_, ?_, nw, ln, wd, wt, tl, tx, bd, k2.1.rel hR1⟩
    · have h3 : f_X4_has c 0 (nI (ct (PK nw ln wd 0) x)) = some 1 := by
        have hN := NN_le hWL
        have hc := ct_le (PK nw ln wd 0) (NN nw ln)
        have h2 := ct_lt hx hp
        rw [f_X4_has, hRF.1.1, if_neg (nI_pos (by omega)), ite_leN (by omega) (by omega), if_neg (by omega)]
      have h4 : pkd ln (hd nw wd ln x) = pkd ln (dg nw ln (tr nw ln wd x)) := by
        rw [pkd_nb, pkd_nb]
        exact nb_congr (fun r hr => (t2 r hr).symm)
      have h10 := cols_c hWL (show 0 < 3 by decide) hRF.1 hRP hx hp
      rw [h4] at h10
      simp only [f_X7_turned, hk0, Option.bind_some, h3, i10, if_false, h10, withRows_c hWL hRF.1 hRP t1 t4]
    · rw [nI_0] at h5
      simp only [f_X8_turned, h5, Option.bind_some, i10, if_false, k1]
  · have h8 : f_X4_has c 0 a = some 0 := by
      rcases has_c hWL hRF.1 a with ⟨x, g1, g2, g3, g4⟩ | ⟨-, g⟩
      · exfalso
        have := ct_lt g1 g2
        have hN := NN_le hWL
        have := ct_le (PK nw ln wd 0) (NN nw ln)
        rw [g3, nI_toInt (by omega)] at h5
        omega
      · exact g
    refine ⟨-101, m2, ?_, ?_, nw, ln, wd, wt, tl, tx, bd, h7.1.rel hR1⟩
    · simp only [f_X7_turned, hk0, Option.bind_some, h8, i00, if_true]
    · rw [nI_0] at h6
      simp only [f_X8_turned, h6, Option.bind_some, i00, if_true]
end
