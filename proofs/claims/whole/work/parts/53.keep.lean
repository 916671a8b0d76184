section
/-! the class keeps a square -/
theorem SQ_skip {nw ln : Nat} {wd : Nat → Nat → Nat} {c : St} {k n : Nat} (h : SQ nw ln wd c k n) (hp : PK nw ln wd k n = false) : SQ nw ln wd c k (n + 1) := by
  have e : ct (PK nw ln wd k) (n + 1) = ct (PK nw ln wd k) n := by rw [ct, hp]; rfl
  refine ⟨by rw [e]; exact h.1, by rw [e]; exact h.2.1, fun x hx hx2 => ?_⟩
  by_cases e2 : x = n
  · rw [e2, hp] at hx2; cases hx2
  · exact h.2.2 x (by omega) hx2
def FA (k : Nat) (c c' : St) : Prop := (∀ j, j ≠ 13 + k → c'.1 j = c.1 j) ∧ (∀ j, j ≠ 20 + k → c'.2.1 j = c.2.1 j) ∧ c'.2.2.1 = c.2.2.1 ∧ ∀ j, j ≠ k → c'.2.2.2 j = c.2.2.2 j
theorem FA.sq {nw ln : Nat} {wd : Nat → Nat → Nat} {c c' : St} {k j n : Nat} (h : FA k c c') (hj : j ≠ k) (g : SQ nw ln wd c j n) : SQ nw ln wd c' j n := ⟨by rw [h.1 _ (by omega)]; exact g.1, by rw [h.2.2.2 _ hj]; exact g.2.1, fun x hx hx2 => by rw [h.2.1 _ (by omega)]; exact g.2.2 x hx hx2⟩
theorem item16 {C R : Nat} (hC : C < 65536) (hR : R < 65536) : (nI C <<< (16 &&& 31)) ||| nI R = nI (C * 65536 + R) := by
  rw [show (16 : Int32) = nI 16 from rfl, shl_nI (by omega) (by omega), or_nI]
  congr 1
  have h := Nat.two_pow_add_eq_or_of_lt (i := 16) (b := R) (by omega) C
  rw [Nat.mul_comm C]
  exact h.symm
theorem app_c {nw ln : Nat} {wd : Nat → Nat → Nat} {c : St} (hW : WL nw ln wd) {k n : Nat} (hk : k < 3) (hn : n < NN nw ln) (hS : SQ nw ln wd c k n) (hP : RP c) (hp : PK nw ln wd k n = true) : ∃ c', f_X4_append c k (nI (pkd ln (dg nw ln n))) (nI (pkd ln (hd nw wd ln n))) = some c' ∧ SQ nw ln wd c' k (n + 1) ∧ FA k c c' ∧ RP c' := by
  have h0 := nz_of hn
  have hl := hW.2.1
  have hN := NN_le hW
  have hc := ct_le (PK nw ln wd k) n
  have h3 := pkd_lt hl (dg16 hW h0 n)
  have h4 := pkd_lt hl (hd16 hW (PK_P0 hp))
  have hal : ∀ c : St, aln c (20 + k) = c.2.2.2 k := fun c => by
    rcases (show k = 0 ∨ k = 1 ∨ k = 2 by omega) with rfl | rfl | rfl <;> rfl
  have e : ct (PK nw ln wd k) (n + 1) = ct (PK nw ln wd k) n + 1 := by rw [ct, hp]; rfl
  have hlen := hP k hk
  /- with room -/
  have j40 : ∀ c : St, SQ nw ln wd c k n → RP c → ct (PK nw ln wd k) n < c.2.2.2 k → ∃ c', f_X4_append_J40 k c (nI (pkd ln (dg nw ln n))) (nI (pkd ln (hd nw wd ln n))) = some c' ∧ SQ nw ln wd c' k (n + 1) ∧ FA k c c' ∧ RP c' := by
    intro c hS hP hlt
    have hlen := hP k hk
    refine ⟨sI (sA c (20 + k) (ct (PK nw ln wd k) n) (itm nw ln wd n)) (13 + k) (nI (ct (PK nw ln wd k) n + 1)), ?_, ⟨?_, ?_, fun x hx hx2 => ?_⟩, ⟨fun j hj => ?_, fun j hj => ?_, rfl, fun j hj => rfl⟩, hP⟩
    · rw [f_X4_append_J40, hS.1, hal, ite_in hlt (by omega), nI_clamp (by omega), item16 h4 h3, lt, sA_I, hS.1, nI_1, lt]
      rfl
    · rw [sI_I, if_pos rfl, e]
    · rw [e]; exact hlt
    · rw [sI_A, sA_A, if_pos rfl, upd_at]
      by_cases e2 : x = n
      · rw [e2, if_pos rfl]
      · have := ct_lt (P := PK nw ln wd k) (show x < n by omega) hx2
        rw [if_neg (by omega)]
        exact hS.2.2 x (by omega) hx2
    · rw [sI_I, if_neg hj, sA_I]
    · rw [sI_A, sA_A, if_neg hj]
  unfold f_X4_append
  rw [hS.1, hal, show (20736 : Int32) = nI 20736 from rfl, ite_ltN (by omega) (by omega), if_pos (by omega), ite_ltN (by omega) (by omega)]
  by_cases e2 : ct (PK nw ln wd k) n < c.2.2.2 k
  · rw [if_pos e2]
    exact j40 c hS hP e2
  · have e3 : c.2.2.2 k = ct (PK nw ln wd k) n := by have := hS.2.1; omega
    have hg : SQ nw ln wd (gro c k) k n := ⟨hS.1, by
      show ct (PK nw ln wd k) n ≤ va_up c.2.2.2 k (2 * c.2.2.2 k) k
      unfold va_up
      rw [if_pos rfl]; omega, fun x hx hx2 => by
      have hlt := ct_lt (P := PK nw ln wd k) hx hx2
      show va_up c.2.1 (20 + k) (va_cpy (c.2.1 (20 + k)) (fun _ => 0) 0 0 (c.2.2.2 k)) (20 + k) (ct (PK nw ln wd k) x) = itm nw ln wd x
      unfold va_up
      rw [if_pos rfl, pk_cpy_in (by omega) (by omega), Nat.zero_add, Nat.sub_zero]
      exact hS.2.2 x hx hx2⟩
    have hgl : (gro c k).2.2.2 k = 2 * c.2.2.2 k := by
      show va_up c.2.2.2 k (2 * c.2.2.2 k) k = _
      unfold va_up; rw [if_pos rfl]
    have hgP : RP (gro c k) := fun j hj => by
      by_cases e5 : j = k
      · rw [e5, hgl]; omega
      · have : (gro c k).2.2.2 j = c.2.2.2 j := by
          show va_up c.2.2.2 k (2 * c.2.2.2 k) j = _
          unfold va_up; rw [if_neg e5]
        rw [this]; exact hP j hj
    obtain ⟨c', a1, a2, a3, a4⟩ := j40 (gro c k) hg hgP (by rw [hgl]; omega)
    rw [if_neg e2, if_pos ⟨by rw [e3], by omega, by omega⟩, lt]
    refine ⟨c', a1, a2, ⟨fun j hj => a3.1 j hj, fun j hj => (a3.2.1 j hj).trans ?_, a3.2.2.1, fun j hj => (a3.2.2.2 j hj).trans ?_⟩, a4⟩
    · show va_up c.2.1 (20 + k) _ j = _
      unfold va_up; rw [if_neg hj]
    · show va_up c.2.2.2 k _ j = _
      unfold va_up; rw [if_neg hj]
/-! different words -/
theorem ct_one {p q : Nat → Bool} {a : Nat} (hpa : p a = false) (hqa : q a = true) (h : ∀ j, j ≠ a → q j = p j) : ∀ B, ct q B = ct p B + if a < B then 1 else 0
  | 0 => rfl
  | B + 1 => by
    rw [ct, ct, ct_one hpa hqa h B]
    by_cases e : B = a
    · subst e
      rw [hpa, hqa, if_neg (Nat.lt_irrefl _), if_pos (by omega : B < B + 1)]
      rfl
    · rw [h B e]
      by_cases e2 : a < B
      · rw [if_pos e2, if_pos (show a < B + 1 by omega)]; omega
      · rw [if_neg e2, if_neg (show ¬ a < B + 1 by omega)]; omega
def dct (f : Nat → Nat) (n : Nat) : Nat := ct (fun j => an (fun r => f r == j) n) 12
theorem dct_s {f : Nat → Nat} {n : Nat} (hf : f n < 12) : dct f (n + 1) = dct f n + if an (fun r => f r == f n) n then 0 else 1 := by
  unfold dct
  cases h : an (fun r => f r == f n) n with
  | true =>
    refine (ct_congr (fun j _ => ?_)).trans (Nat.add_zero _).symm
    rw [an]
    by_cases e : f n = j
    · rw [← e, h]; rfl
    · have : (f n == j) = false := by simp [e]
      rw [this, Bool.or_false]
  | false =>
    have := ct_one (p := fun j => an (fun r => f r == j) n) (q := fun j => an (fun r => f r == j) (n + 1)) (a := f n) h (by rw [an]; simp) (fun j hj => by
      rw [an]
      have : (f n == j) = false := by simp; exact fun q => hj q.symm
      rw [this, Bool.or_false]) 12
    rw [this, if_pos hf]
    rfl
theorem dct_le {f : Nat → Nat} : ∀ {n : Nat}, (∀ i, i < n → f i < 12) → dct f n ≤ n
  | 0, _ => Nat.le_refl 0
  | n + 1, h => by
    have := dct_le (n := n) (fun i hi => h i (by omega))
    rw [dct_s (h n (by omega))]
    split <;> omega
theorem dct_eq {f : Nat → Nat} : ∀ {n : Nat}, (∀ i, i < n → f i < 12) → (dct f n = n ↔ ∀ r, r < n → ∀ q, q < r → f q ≠ f r)
  | 0, _ => ⟨fun _ r hr => by omega, fun _ => rfl⟩
  | n + 1, h => by
    have h1 := dct_le (n := n) (f := f) (fun i hi => h i (by omega))
    have ih := dct_eq (n := n) (f := f) (fun i hi => h i (by omega))
    rw [dct_s (h n (by omega))]
    cases g : an (fun r => f r == f n) n with
    | true =>
      rw [if_pos rfl]
      constructor
      · intro q; omega
      · intro q
        obtain ⟨r, hr, hr2⟩ := an_iff.mp g
        exact absurd (by simpa using hr2) (q n (by omega) r hr)
    | false =>
      rw [if_neg (by decide)]
      constructor
      · intro q r hr p hp
        by_cases e : r = n
        · subst e
          intro e2
          have : an (fun r' => f r' == f r) r = true := an_iff.mpr ⟨p, hp, by simp [e2]⟩
          rw [g] at this; cases this
        · exact ih.mp (by omega) r (by omega) p hp
      · intro q
        have := ih.mpr (fun r hr p hp => q r (by omega) p hp)
        omega
theorem un_dct {nw ln : Nat} {wd : Nat → Nat → Nat} {x : Nat} (hR : ∀ i, i < ln → dg nw ln x i < 12) (hC : ∀ i, i < ln → hd nw wd ln x i < 12) : un nw ln wd x = true ↔ (dct (dg nw ln x) ln + dct (hd nw wd ln x) ln = 2 * ln ∧ ∀ j, ¬ (an (fun r => dg nw ln x r == j) ln = true ∧ an (fun r => hd nw wd ln x r == j) ln = true)) := by
  have l1 := dct_le hR
  have l2 := dct_le hC
  have q1 := dct_eq hR
  have q2 := dct_eq hC
  unfold un
  rw [al_iff]
  constructor
  · intro h
    have h1 : ∀ r, r < ln → (∀ q, q < ln → dg nw ln x r ≠ hd nw wd ln x q) ∧ (∀ q, q < r → dg nw ln x r ≠ dg nw ln x q ∧ hd nw wd ln x r ≠ hd nw wd ln x q) := fun r hr => by
      have := h r hr
      rw [Bool.and_eq_true, al_iff, al_iff] at this
      exact ⟨fun q hq => by simpa using this.1 q hq, fun q hq => by simpa using this.2 q hq⟩
    have a1 := q1.mpr (fun r hr q hq e => ((h1 r hr).2 q hq).1 e.symm)
    have a2 := q2.mpr (fun r hr q hq e => ((h1 r hr).2 q hq).2 e.symm)
    refine ⟨by omega, fun j => ?_⟩
    rintro ⟨b1, b2⟩
    obtain ⟨r, hr, e1⟩ := an_iff.mp b1
    obtain ⟨q, hq, e2⟩ := an_iff.mp b2
    simp at e1 e2
    exact (h1 r hr).1 q hq (by rw [e1, e2])
  · rintro ⟨h1, h2⟩ r hr
    have a1 := q1.mp (by omega)
    have a2 := q2.mp (by omega)
    rw [Bool.and_eq_true, al_iff, al_iff]
    refine ⟨fun q hq => ?_, fun q hq => ?_⟩
    · have : dg nw ln x r ≠ hd nw wd ln x q := fun e => h2 (dg nw ln x r) ⟨an_iff.mpr ⟨r, hr, by simp⟩, an_iff.mpr ⟨q, hq, by simp [e]⟩⟩
      simp [this]
    · have b1 : dg nw ln x r ≠ dg nw ln x q := fun e => a1 r hr q hq e.symm
      have b2 : hd nw wd ln x r ≠ hd nw wd ln x q := fun e => a2 r hr q hq e.symm
      simp [b1, b2]
end
