section
/-! the class goes on by its tables -/
theorem hd_col {nw : Nat} {wd : Nat → Nat → Nat} {d x c : Nat} (h : hd nw wd d x c < nw) : ∀ r, r < d → wd (dg nw d x r) c = wd (hd nw wd d x c) r := fun r hr => by
  have := fs_yes (fun w => al (fun r => wd (dg nw d x r) c == wd w r) d) h
  have := al_iff.mp this r hr
  simp at this
  exact this
theorem hd_fw {nw ln : Nat} {wd : Nat → Nat → Nat} {d x w c : Nat} (hs : isSt nw ln wd d x = true) (hc : c < ln) (hw : w < nw) : hd nw wd (d + 1) (x * nw + w) c = fw nw wd d (hd nw wd d x c) (wd w c) nw := by
  have h1 : hd nw wd d x c < nw := by have := al_iff.mp hs c hc; simpa using this
  have h2 := hd_col h1
  unfold hd fw
  refine fs_congr (fun v _ => ?_)
  rw [al]
  have e1 : al (fun r => wd (dg nw (d + 1) (x * nw + w) r) c == wd v r) d = sp wd d (hd nw wd d x c) v := by
    unfold sp
    exact al_congr (fun r hr => by rw [dg_ext hw (by omega), if_pos hr, h2 r hr])
  rw [e1, dg_ext hw (Nat.le_refl _), if_neg (by omega)]
  unfold hd
  congr 1
  exact Bool.eq_iff_iff.mpr ⟨fun h => by simp at h; simp [h], fun h => by simp at h; simp [h]⟩
theorem hd_head {nw ln : Nat} {wd : Nat → Nat → Nat} (hW : WL nw ln wd) {d x c : Nat} (hd4 : d ≤ ln) (hs : isSt nw ln wd d x = true) (hc : c < ln) : hd nw wd d x c < nw ∧ isH wd d (hd nw wd d x c) = true := by
  have h1 : hd nw wd d x c < nw := by have := al_iff.mp hs c hc; simpa using this
  refine ⟨h1, (isH_iff hW hd4 h1).mpr ?_⟩
  have h2 := hd_col h1
  have hle := fh_le (nw := nw) (wd := wd) (d := d) (w := hd nw wd d x c)
  rcases Nat.lt_or_ge (fh nw wd d (hd nw wd d x c)) (hd nw wd d x c) with q | q
  · exfalso
    have := fs_min (fun w => al (fun r => wd (dg nw d x r) c == wd w r) d) q
    have h3 := sp_iff.mp (fh_sp (nw := nw) (wd := wd) (d := d) h1)
    rw [al_iff.mpr (fun r hr => by rw [h2 r hr, h3 r hr]; simp)] at this
    cases this
  · omega
theorem len_c {nw ln : Nat} {wd : Nat → Nat → Nat} {c : St} (hC : CL nw ln wd c) : f_X6_length c = some (nI ln) := by rw [f_X6_length, hC.2.1]
theorem siz_c {nw ln : Nat} {wd : Nat → Nat → Nat} {c : St} (hC : CL nw ln wd c) : f_X6_size c = some (nI nw) := by rw [f_X6_size, hC.1]
theorem and3 {d : Nat} (h : d < 4) : nI d &&& 3 = nI d := by
  rw [and_nI (by omega) 2 (by decide), Nat.mod_eq_of_lt (show d < 2 ^ 2 by omega)]
theorem next_c {nw ln : Nat} {wd : Nat → Nat → Nat} {c : St} (hW : WL nw ln wd) (hC : CL nw ln wd c) (hT : TT nw ln wd ln c) {d x : Nat} (hd4 : d < ln) (hs : isSt nw ln wd d x = true) : ∃ S : Nat, S < 2 ^ 12 ∧ f_X3_nextRows c (nI d) (nI (pkd ln (hd nw wd d x))) = some (nI S) ∧ ∀ w, w < nw → S.testBit w = isSt nw ln wd (d + 1) (x * nw + w) := by
  have hn := hW.1
  have hl := hW.2.1
  have h16 : ∀ i, i < ln → hd nw wd d x i < 16 := fun i hi => by have := (hd_head hW (show d ≤ ln by omega) hs hi).1; omega
  have loop : ∀ (n k S : Nat), k ≤ ln → ln - k < n → S < 2 ^ 12 → (∀ w, w < nw → S.testBit w = al (fun c => decide (hd nw wd (d + 1) (x * nw + w) c < nw)) k) → ∃ S2 : Nat, S2 < 2 ^ 12 ∧ f_X3_nextRows_L15 c n (nI d) (nI (pkd ln (hd nw wd d x))) (nI S) (nI k) = some (nI S2) ∧ ∀ w, w < nw → S2.testBit w = isSt nw ln wd (d + 1) (x * nw + w) := by
    intro n
    induction n with
    | zero => intro k S _ h; omega
    | succ n ih =>
      intro k S hk hnn hS hb
      rw [f_X3_nextRows_L15, bind_s (len_c hC), ite_leN (by omega) (by omega)]
      by_cases e : ln ≤ k
      · have : k = ln := by omega
        subst this
        rw [if_pos e]
        exact ⟨S, hS, rfl, hb⟩
      · have hkl : k < ln := by omega
        obtain ⟨g1, g2⟩ := hd_head hW (show d ≤ ln by omega) hs hkl
        obtain ⟨T, t1, t2, t3⟩ := (hT d hd4).2.1 _ g1 g2 k hkl
        rw [if_neg e, n4, ite_leN (by omega) (by omega), if_neg (by omega), bind_s (len_c hC), bind_s (pw_c hl h16 hkl), and3 (by omega), ite_in (show d < 4 by omega) (by decide), pk_mul, nI_add, ite_in (show hd nw wd d x k * 4 + k < 64 by omega) (by decide), nI_clamp (by omega), nI_clamp (by omega), Nat.mul_comm _ 4, t2, and_nn, lt, lt, nI_1]
        refine ih (k + 1) _ (by omega) (by omega) (Nat.lt_of_le_of_lt Nat.and_le_left hS) (fun w hw => ?_)
        rw [Nat.testBit_and, hb w hw, t3, decide_eq_true hw, Bool.true_and, al, hd_fw hs hkl hw]
  have hp : 2 ^ nw ≤ 2 ^ 12 := Nat.pow_le_pow_right (by decide) hn
  have hp0 : 0 < 2 ^ nw := Nat.pow_pos (by decide)
  obtain ⟨S, s1, s2, s3⟩ := loop FU 0 (2 ^ nw - 1) (by omega) (by have := FU_big; omega) (by omega) (fun w hw => by rw [Nat.testBit_two_pow_sub_one, decide_eq_true hw]; rfl)
  rw [nI_0] at s2
  refine ⟨S, s1, ?_, s3⟩
  have e1 : (1 <<< (nI nw &&& 31)) - 1 = nI (2 ^ nw - 1) := by
    rw [n1, shl_nI (by omega) (by omega), Nat.one_mul, pk_sub (by omega)]
  rw [f_X3_nextRows, bind_s (siz_c hC), e1, lt]
  exact s2
theorem heads_c {nw ln : Nat} {wd : Nat → Nat → Nat} {c : St} (hW : WL nw ln wd) (hC : CL nw ln wd c) (hT : TT nw ln wd ln c) {d x w : Nat} (hd4 : d < ln) (hs : isSt nw ln wd d x = true) (hw : w < nw) (hs2 : isSt nw ln wd (d + 1) (x * nw + w) = true) : f_X3_headsWith c (nI d) (nI (pkd ln (hd nw wd d x))) (nI w) = some (nI (pkd ln (hd nw wd (d + 1) (x * nw + w)))) := by
  have hn := hW.1
  have hl := hW.2.1
  have h16 : ∀ i, i < ln → hd nw wd d x i < 16 := fun i hi => by have := (hd_head hW (show d ≤ ln by omega) hs hi).1; omega
  have h16' : ∀ i, i < ln → hd nw wd (d + 1) (x * nw + w) i < 16 := fun i hi => by have := (hd_head hW (show d + 1 ≤ ln by omega) hs2 hi).1; omega
  have loop : ∀ (n k : Nat), k ≤ ln → ln - k < n → f_X3_headsWith_L6 c n (nI d) (nI (pkd ln (hd nw wd d x))) (nI w) (nI (pkd k (hd nw wd (d + 1) (x * nw + w)))) (nI k) = some (nI (pkd ln (hd nw wd (d + 1) (x * nw + w)))) := by
    intro n
    induction n with
    | zero => intro k _ h; omega
    | succ n ih =>
      intro k hk hnn
      rw [f_X3_headsWith_L6, bind_s (len_c hC), ite_leN (by omega) (by omega)]
      by_cases e : ln ≤ k
      · rw [if_pos e, show k = ln by omega]
      · have hkl : k < ln := by omega
        obtain ⟨g1, g2⟩ := hd_head hW (show d ≤ ln by omega) hs hkl
        have hlet := hW.2.2.2.2.1 w hw k hkl
        have hL := (hT d hd4).1 _ g1 g2 (wd w k) (by omega)
        have hlt := (hd_head hW (show d + 1 ≤ ln by omega) hs2 hkl).1
        rw [← hd_fw hs hkl hw, orN, if_pos hlt] at hL
        have q1 : pkd k (hd nw wd (d + 1) (x * nw + w)) < 2 ^ 12 := by
          have h1 := nb_lt (B := 16) (n := k) (f := hd nw wd (d + 1) (x * nw + w)) (fun i hi => h16' i (by omega))
          have h2 : 16 ^ k ≤ 16 ^ 3 := Nat.pow_le_pow_right (by decide) (by omega)
          rw [pkd_nb]
          have h3 : (16 : Nat) ^ 3 = 4096 := by decide
          omega
        rw [if_neg e, bind_s (len_c hC), bind_s (pw_c hl h16 hkl), and3 (by omega), ite_in (show d < 4 by omega) (by decide), bind_s (letter_c hW hC hw hkl), bind_s (place_c (show hd nw wd d x k < 16 by omega) (show wd w k < 32 by omega)), ite_in (show 32 * hd nw wd d x k + wd w k < 512 by omega) (by decide), nI_clamp (by omega), nI_clamp (by omega), hL, lt, and15 (by omega), shl4 q1 (by omega), lt, lt, nI_1]
        exact ih (k + 1) (by omega) (by omega)
  have h9 := loop FU 0 (by omega) (by have := FU_big; omega)
  rw [show pkd 0 (hd nw wd (d + 1) (x * nw + w)) = 0 from rfl, nI_0] at h9
  rw [f_X3_headsWith]
  exact h9
theorem liken_c {nw ln : Nat} {wd : Nat → Nat → Nat} {c : St} (hW : WL nw ln wd) (hC : CL nw ln wd c) (hT : TT nw ln wd ln c) {d x : Nat} (hd4 : d < ln) (hs : isSt nw ln wd d x = true) : f_X3_likeness c (nI d) (nI (pkd ln (hd nw wd d x))) = some (nI (kcd 12 5 (key nw ln wd d x))) := by
  have hn := hW.1
  have hl := hW.2.1
  have h16 : ∀ i, i < ln → hd nw wd d x i < 16 := fun i hi => by have := (hd_head hW (show d ≤ ln by omega) hs hi).1; omega
  have loop : ∀ (n k : Nat), k ≤ 4 → 4 - k < n → f_X3_likeness_L5 c n (nI d) (nI (pkd ln (hd nw wd d x))) (nI (nb 12 (k + 1) (fun i => (key nw ln wd d x).getD i 0))) (nI k) = some (nI (kcd 12 5 (key nw ln wd d x))) := by
    intro n
    induction n with
    | zero => intro k _ h; omega
    | succ n ih =>
      intro k hk hnn
      have ih1 := ih (k + 1)
      rw [f_X3_likeness_L5, show (4 : Int32) = nI 4 from rfl, ite_leN (by omega) (by omega)]
      by_cases e : 4 ≤ k
      · rw [if_pos e, show k = 4 by omega]; rfl
      · rw [nb, key_get, if_neg (by omega)] at ih1
        have j50 : ∀ v : Nat, f_X3_likeness_J50 c (f_X3_likeness_L5 c n) (nI d) (nI (pkd ln (hd nw wd d x))) (nI (nb 12 (k + 1) (fun i => (key nw ln wd d x).getD i 0))) (nI k) (nI v) = f_X3_likeness_L5 c n (nI d) (nI (pkd ln (hd nw wd d x))) (nI (nb 12 (k + 1) (fun i => (key nw ln wd d x).getD i 0) * 12 + v)) (nI (k + 1)) := fun v => by
          rw [f_X3_likeness_J50, show (12 : Int32) = nI 12 from rfl, pk_mul, nI_add, lt, lt, nI_1]
        rw [if_neg e, bind_s (len_c hC), ite_leN (by omega) (by omega)]
        by_cases e2 : ln ≤ k
        · rw [if_neg (by omega)] at ih1
          have q := j50 0
          rw [show nI 0 = 0 from rfl] at q
          rw [if_pos e2, q]
          exact ih1 (by omega) (by omega)
        · have hkl : k < ln := by omega
          obtain ⟨g1, g2⟩ := hd_head hW (show d ≤ ln by omega) hs hkl
          have hL := (hT d hd4).2.2 _ g1 g2
          rw [if_pos (by omega), show k + 1 - 1 = k by omega] at ih1
          rw [if_neg e2, and3 (by omega), ite_in (show d < 4 by omega) (by decide), bind_s (len_c hC), bind_s (pw_c hl h16 hkl), ite_in (h16 k hkl) (by decide), nI_clamp (by omega), nI_clamp (by omega), hL, lt, j50]
          have e5 : lk nw ln wd d (hd nw wd d x k) = if d = 0 then 0 else lk nw ln wd d (hd nw wd d x k) := by
            by_cases e6 : d = 0
            · rw [if_pos e6]
              subst e6
              have h0 : hd nw wd 0 x k = 0 := by
                have := isH_iff hW (Nat.zero_le _) g1
                have h1 := this.mp g2
                rw [← h1]
                have : fh nw wd 0 (hd nw wd 0 x k) ≤ 0 := fh_min rfl
                omega
              have := lk_le (ln := ln) (wd := wd) (d := 0) g1
              omega
            · rw [if_neg e6]
          rw [e5]
          exact ih1 (by omega) (by omega)
  have h9 := loop FU 0 (by omega) (by have := FU_big; omega)
  rw [nb, nb, key_get, if_pos rfl, nI_0, Nat.zero_mul, Nat.zero_add] at h9
  rw [f_X3_likeness]
  exact h9
end
