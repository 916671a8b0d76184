section
/-! words in their order: beginnings and rests -/
theorem nb_split {B : Nat} {f : Nat → Nat} {d : Nat} : ∀ e, nb B (d + e) f = nb B d f * B ^ e + nb B e (fun i => f (d + i))
  | 0 => by rw [Nat.add_zero, Nat.pow_zero, Nat.mul_one]; rfl
  | e + 1 => by
    rw [← Nat.add_assoc, nb, nb_split e, nb, Nat.add_mul, Nat.pow_succ, Nat.mul_assoc, Nat.add_assoc]
def rs (ln : Nat) (wd : Nat → Nat → Nat) (d w : Nat) : Nat := nb 32 (ln - d) (fun i => wd w (d + i))
theorem cd_rs {ln : Nat} {wd : Nat → Nat → Nat} {d w : Nat} (hd : d ≤ ln) : cd ln (wd w) = cd d (wd w) * 32 ^ (ln - d) + rs ln wd d w := by
  rw [cd_nb, cd_nb]
  have := nb_split (B := 32) (f := wd w) (d := d) (ln - d)
  rw [show d + (ln - d) = ln by omega] at this
  exact this
theorem rs_lt {nw ln : Nat} {wd : Nat → Nat → Nat} (hW : WL nw ln wd) {d w : Nat} (hd : d ≤ ln) (hw : w < nw) : rs ln wd d w < 32 ^ (ln - d) := nb_lt (fun i hi => by have := hW.2.2.2.2.1 w hw (d + i) (by omega); omega)
theorem cd_div {nw ln : Nat} {wd : Nat → Nat → Nat} (hW : WL nw ln wd) {d w : Nat} (hd : d ≤ ln) (hw : w < nw) : cd d (wd w) = cd ln (wd w) / 32 ^ (ln - d) := by
  rw [cd_nb, cd_nb, nb_div hd (fun i hi => by have := hW.2.2.2.2.1 w hw i hi; omega)]
theorem cd_mono {nw ln : Nat} {wd : Nat → Nat → Nat} (hW : WL nw ln wd) {d v w : Nat} (hd : d ≤ ln) (h : v ≤ w) (hw : w < nw) : cd d (wd v) ≤ cd d (wd w) := by
  rw [cd_div hW hd (by omega), cd_div hW hd hw]
  apply Nat.div_le_div_right
  by_cases e : v = w
  · rw [e]; exact Nat.le_refl _
  · exact Nat.le_of_lt (hW.2.2.2.2.2 v w (by omega) hw)
theorem sp_iff {wd : Nat → Nat → Nat} {d v w : Nat} : sp wd d v w = true ↔ ∀ i, i < d → wd v i = wd w i := by
  unfold sp
  rw [al_iff]
  constructor
  · intro h i hi; simpa using h i hi
  · intro h i hi; simp [h i hi]
theorem sp_rf {wd : Nat → Nat → Nat} {d v : Nat} : sp wd d v v = true := sp_iff.mpr (fun _ _ => rfl)
theorem sp_sy {wd : Nat → Nat → Nat} {d v w : Nat} (h : sp wd d v w = true) : sp wd d w v = true := sp_iff.mpr (fun i hi => (sp_iff.mp h i hi).symm)
theorem sp_tr {wd : Nat → Nat → Nat} {d u v w : Nat} (h : sp wd d u v = true) (g : sp wd d v w = true) : sp wd d u w = true := sp_iff.mpr (fun i hi => (sp_iff.mp h i hi).trans (sp_iff.mp g i hi))
theorem sp_conv {nw ln : Nat} {wd : Nat → Nat → Nat} (hW : WL nw ln wd) {d u v w : Nat} (hd : d ≤ ln) (h1 : v ≤ u) (h2 : u ≤ w) (hw : w < nw) (h : sp wd d v w = true) : sp wd d v u = true := by
  rw [sp_cd hW (by omega) hw hd, decide_eq_true_eq] at h
  rw [sp_cd hW (by omega) (by omega) hd, decide_eq_true_eq]
  have a := cd_mono hW hd h1 (show u < nw by omega)
  have b := cd_mono hW hd h2 hw
  omega
/-- the first word that begins so -/
def fh (nw : Nat) (wd : Nat → Nat → Nat) (d w : Nat) : Nat := fs (fun v => sp wd d v w) nw
theorem fh_le {nw : Nat} {wd : Nat → Nat → Nat} {d w : Nat} : fh nw wd d w ≤ w := by
  rcases Nat.lt_or_ge w (fh nw wd d w) with q | q
  · have := fs_min (fun v => sp wd d v w) q
    rw [sp_rf] at this; cases this
  · exact q
theorem fh_sp {nw : Nat} {wd : Nat → Nat → Nat} {d w : Nat} (hw : w < nw) : sp wd d (fh nw wd d w) w = true := fs_yes (fun v => sp wd d v w) (Nat.lt_of_le_of_lt fh_le hw)
theorem fh_min {nw : Nat} {wd : Nat → Nat → Nat} {d v w : Nat} (h : sp wd d v w = true) : fh nw wd d w ≤ v := by
  rcases Nat.lt_or_ge v (fh nw wd d w) with q | q
  · have := fs_min (fun v => sp wd d v w) q
    rw [h] at this; cases this
  · exact q
theorem fh_cong {nw : Nat} {wd : Nat → Nat → Nat} {d v w : Nat} (h : sp wd d v w = true) : fh nw wd d v = fh nw wd d w := fs_congr (fun u _ => by
  cases g : sp wd d u v with
  | true => rw [sp_tr g h]
  | false =>
    cases g2 : sp wd d u w with
    | false => rfl
    | true => rw [sp_tr g2 (sp_sy h)] at g; cases g)
theorem isH_iff {nw ln : Nat} {wd : Nat → Nat → Nat} (hW : WL nw ln wd) {d w : Nat} (hd : d ≤ ln) (hw : w < nw) : isH wd d w = true ↔ fh nw wd d w = w := by
  unfold isH
  rw [Bool.or_eq_true, decide_eq_true_eq, Bool.not_eq_true']
  constructor
  · rintro (h | h)
    · have := fh_le (nw := nw) (wd := wd) (d := d) (w := w); omega
    · rcases Nat.lt_or_ge (fh nw wd d w) w with q | q
      · have h1 := sp_conv hW hd (show fh nw wd d w ≤ w - 1 by omega) (by omega) hw (fh_sp hw)
        have h2 := sp_tr (sp_sy h1) (fh_sp (d := d) hw)
        rw [h] at h2; cases h2
      · have := fh_le (nw := nw) (wd := wd) (d := d) (w := w); omega
  · intro h
    by_cases e : w = 0
    · exact Or.inl e
    · refine Or.inr ?_
      cases g : sp wd d (w - 1) w with
      | false => rfl
      | true => have := fh_min (nw := nw) g; omega
theorem isH_f {nw : Nat} {wd : Nat → Nat → Nat} {d w : Nat} (h : isH wd d w = false) : 0 < w ∧ fh nw wd d w = fh nw wd d (w - 1) := by
  unfold isH at h
  rw [Bool.or_eq_false_iff, decide_eq_false_iff_not, Bool.not_eq_false'] at h
  exact ⟨by omega, (fh_cong h.2).symm⟩
theorem isH_fh {nw ln : Nat} {wd : Nat → Nat → Nat} (hW : WL nw ln wd) {d w : Nat} (hd : d ≤ ln) (hw : w < nw) : isH wd d (fh nw wd d w) = true := by
  have h1 : fh nw wd d w < nw := Nat.lt_of_le_of_lt fh_le hw
  rw [isH_iff hW hd h1]
  exact fh_cong (fh_sp hw)
theorem isH_eq {nw ln : Nat} {wd : Nat → Nat → Nat} (hW : WL nw ln wd) {d h v : Nat} (hd : d ≤ ln) (hh : h < nw) (h1 : isH wd d h = true) (h2 : sp wd d h v = true) : h = fh nw wd d v := by
  rw [← (isH_iff hW hd hh).mp h1]
  exact fh_cong h2
theorem rs_mono {nw ln : Nat} {wd : Nat → Nat → Nat} (hW : WL nw ln wd) {d v w : Nat} (hd : d ≤ ln) (h : v < w) (hw : w < nw) (hs : sp wd d v w = true) : rs ln wd d v < rs ln wd d w := by
  have h1 := hW.2.2.2.2.2 v w h hw
  rw [cd_rs hd, cd_rs (w := w) hd] at h1
  rw [sp_cd hW (by omega) hw hd, decide_eq_true_eq] at hs
  rw [hs] at h1
  omega
theorem rs_iff {nw ln : Nat} {wd : Nat → Nat → Nat} (hW : WL nw ln wd) {d v w : Nat} (hd : d ≤ ln) (hv : v < nw) (hw : w < nw) : al (fun i => decide (i < d) || (wd w i == wd v i)) ln = true ↔ rs ln wd d w = rs ln wd d v := by
  rw [al_iff]
  constructor
  · intro h
    exact nb_congr (fun i hi => by
      have := h (d + i) (by omega)
      rw [decide_eq_false (by omega), Bool.false_or] at this
      simpa using this)
  · intro h i hi
    by_cases e : i < d
    · rw [decide_eq_true e]; rfl
    · have := nb_inj (B := 32) (n := ln - d) (f := fun i => wd w (d + i)) (g := fun i => wd v (d + i)) (fun i hi => by have := hW.2.2.2.2.1 w hw (d + i) (by omega); show wd w (d + i) < 32; omega) (fun i hi => by have := hW.2.2.2.2.1 v hv (d + i) (by omega); show wd v (d + i) < 32; omega) h (i - d) (by omega)
      rw [show d + (i - d) = i by omega] at this
      simp [this]
theorem allR_iff {nw ln : Nat} {wd : Nat → Nat → Nat} (hW : WL nw ln wd) {d b o : Nat} (hd : d ≤ ln) : allR nw ln wd d b o = true ↔ ∀ w, w < nw → sp wd d o w = true → ∃ v, v < nw ∧ sp wd d b v = true ∧ rs ln wd d v = rs ln wd d w := by
  unfold allR
  rw [al_iff]
  constructor
  · intro h w hw hs
    have := h w hw
    rw [hs, Bool.not_true, Bool.false_or, hasR, an_iff] at this
    obtain ⟨v, hv, h2⟩ := this
    rw [Bool.and_eq_true] at h2
    exact ⟨v, hv, h2.1, (rs_iff hW hd hw hv).mp h2.2⟩
  · intro h w hw
    cases hs : sp wd d o w with
    | false => rfl
    | true =>
      rw [Bool.not_true, Bool.false_or, hasR, an_iff]
      obtain ⟨v, hv, h1, h2⟩ := h w hw hs
      exact ⟨v, hv, by rw [h1, (rs_iff hW hd hw hv).mpr h2]; rfl⟩
theorem allR_cong {nw ln : Nat} {wd : Nat → Nat → Nat} (hW : WL nw ln wd) {d b b' o o' : Nat} (hd : d ≤ ln) (h1 : sp wd d b b' = true) (h2 : sp wd d o o' = true) (h : allR nw ln wd d b o = true) : allR nw ln wd d b' o' = true := by
  rw [allR_iff hW hd] at h ⊢
  intro w hw hs
  obtain ⟨v, hv, g1, g2⟩ := h w hw (sp_tr h2 hs)
  exact ⟨v, hv, sp_tr (sp_sy h1) g1, g2⟩
/-- the i-th word behind a head -/
def IN (nw : Nat) (wd : Nat → Nat → Nat) (d h i : Nat) : Bool := decide (h + i < nw) && sp wd d h (h + i)
theorem IN_iff {nw : Nat} {wd : Nat → Nat → Nat} {d h i : Nat} : IN nw wd d h i = true ↔ h + i < nw ∧ sp wd d h (h + i) = true := by
  unfold IN
  rw [Bool.and_eq_true, decide_eq_true_eq]
theorem IN_dn {nw ln : Nat} {wd : Nat → Nat → Nat} (hW : WL nw ln wd) {d h i j : Nat} (hd : d ≤ ln) (hj : j ≤ i) (hi : IN nw wd d h i = true) : IN nw wd d h j = true := by
  rw [IN_iff] at hi ⊢
  exact ⟨by omega, sp_conv hW hd (by omega) (by omega) hi.1 hi.2⟩
theorem IN_of {nw ln : Nat} {wd : Nat → Nat → Nat} (hW : WL nw ln wd) {d h v : Nat} (hd : d ≤ ln) (hh : h < nw) (h1 : isH wd d h = true) (hv : v < nw) (h2 : sp wd d h v = true) : ∃ j, v = h + j ∧ IN nw wd d h j = true := by
  have := isH_eq hW hd hh h1 h2
  have := fh_le (nw := nw) (wd := wd) (d := d) (w := v)
  refine ⟨v - h, by omega, IN_iff.mpr ?_⟩
  rw [show h + (v - h) = v by omega]
  exact ⟨hv, h2⟩
theorem IN_mono {nw ln : Nat} {wd : Nat → Nat → Nat} (hW : WL nw ln wd) {d h i j : Nat} (hd : d ≤ ln) (hj : j < i) (hi : IN nw wd d h i = true) : rs ln wd d (h + j) < rs ln wd d (h + i) := by
  have h1 := IN_iff.mp hi
  have h2 := IN_iff.mp (IN_dn hW hd (Nat.le_of_lt hj) hi)
  exact rs_mono hW hd (by omega) h1.1 (sp_tr (sp_sy h2.2) h1.2)
/-- one step of the comparison -/
theorem lock_half {nw ln : Nat} {wd : Nat → Nat → Nat} (hW : WL nw ln wd) {d a b i : Nat} (hd : d ≤ ln) (hb : b < nw) (h2 : isH wd d b = true) (hR : allR nw ln wd d b a = true) (hp : ∀ j, j < i → rs ln wd d (a + j) = rs ln wd d (b + j)) (hi : IN nw wd d a i = true) : IN nw wd d b i = true ∧ rs ln wd d (b + i) ≤ rs ln wd d (a + i) := by
  have h1 := IN_iff.mp hi
  obtain ⟨v, hv, g1, g2⟩ := (allR_iff hW hd).mp hR (a + i) h1.1 h1.2
  obtain ⟨j, rfl, hj⟩ := IN_of hW hd hb h2 hv g1
  rcases Nat.lt_trichotomy j i with q | q | q
  · have m := IN_mono hW hd q hi
    have := hp j q
    omega
  · subst q
    exact ⟨hj, by omega⟩
  · have m := IN_mono hW hd q hj
    exact ⟨IN_dn hW hd (Nat.le_of_lt q) hj, by omega⟩
theorem lock {nw ln : Nat} {wd : Nat → Nat → Nat} (hW : WL nw ln wd) {d a b : Nat} (hd : d ≤ ln) (ha : a < nw) (hb : b < nw) (h1 : isH wd d a = true) (h2 : isH wd d b = true) : (allR nw ln wd d a b = true ∧ allR nw ln wd d b a = true) ↔ ∀ i, IN nw wd d a i = IN nw wd d b i ∧ (IN nw wd d a i = true → rs ln wd d (a + i) = rs ln wd d (b + i)) := by
  constructor
  · rintro ⟨r1, r2⟩
    have key : ∀ i, (∀ j, j < i → IN nw wd d a i = true → rs ln wd d (a + j) = rs ln wd d (b + j)) → (∀ j, j < i → IN nw wd d b i = true → rs ln wd d (a + j) = rs ln wd d (b + j)) → IN nw wd d a i = IN nw wd d b i ∧ (IN nw wd d a i = true → rs ln wd d (a + i) = rs ln wd d (b + i)) := by
      intro i p1 p2
      cases ea : IN nw wd d a i with
      | true =>
        have q := lock_half hW hd hb h2 r2 (fun j hj => p1 j hj ea) ea
        have q2 := lock_half hW hd ha h1 r1 (fun j hj => (p1 j hj ea).symm) q.1
        exact ⟨q.1.symm, fun _ => by omega⟩
      | false =>
        cases eb : IN nw wd d b i with
        | false => exact ⟨rfl, fun h => by cases h⟩
        | true =>
          have q2 := lock_half hW hd ha h1 r1 (fun j hj => (p2 j hj eb).symm) eb
          rw [ea] at q2; cases q2.1
    intro i
    induction i using Nat.strongRecOn with
    | _ i ih =>
      refine key i (fun j hj hi => ?_) (fun j hj hi => ?_)
      · exact (ih j hj).2 (IN_dn hW hd (Nat.le_of_lt hj) hi)
      · have := ih j hj
        exact this.2 (by rw [this.1]; exact IN_dn hW hd (Nat.le_of_lt hj) hi)
  · intro h
    rw [allR_iff hW hd, allR_iff hW hd]
    refine ⟨fun w hw hs => ?_, fun w hw hs => ?_⟩
    · obtain ⟨j, rfl, hj⟩ := IN_of hW hd hb h2 hw hs
      have q := h j
      rw [hj] at q
      exact ⟨a + j, (IN_iff.mp q.1).1, (IN_iff.mp q.1).2, q.2 q.1⟩
    · obtain ⟨j, rfl, hj⟩ := IN_of hW hd ha h1 hw hs
      have q := h j
      have q1 := q.1
      rw [hj] at q1
      exact ⟨b + j, (IN_iff.mp q1.symm).1, (IN_iff.mp q1.symm).2, (q.2 hj).symm⟩
end
