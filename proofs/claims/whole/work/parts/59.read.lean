section
/-! the text is read -/
def TXI (tl : Nat) (tx : Nat → Nat) (p j a L : Nat) : Prop :=
  p ≤ tl ∧ p = j * (L + 1) + a ∧ j ≤ 11 ∧ (j = 0 → L = 0) ∧ (0 < j → 2 ≤ L ∧ L ≤ 4) ∧ a ≤ (if L = 0 then 4 else L) ∧
  (∀ k i, (k < j ∧ i < L) ∨ (k = j ∧ i < a) → 97 ≤ tx (k * (L + 1) + i) ∧ tx (k * (L + 1) + i) ≤ 122) ∧
  (∀ k, k < j → tx (k * (L + 1) + L) = 44) ∧
  (∀ k q, k < q → (q < j ∨ (q = j ∧ a = L)) → ∃ i, i < L ∧ tx (k * (L + 1) + i) ≠ tx (q * (L + 1) + i))
def TM (tx : Nat → Nat) (j a L : Nat) (m : St) : Prop := m.1 5 = nI j ∧ m.1 6 = nI a ∧ m.1 7 = nI L ∧ ∀ k i, (k < j ∧ i < L) ∨ (k = j ∧ i < a) → m.2.1 5 (4 * k + i) = nI (tx (k * (L + 1) + i))
def tw (tx : Nat → Nat) (L j : Nat) : Bool := an (fun k => al (fun i => tx (k * (L + 1) + i) == tx (j * (L + 1) + i)) L) j
theorem tw_f {tx : Nat → Nat} {L j : Nat} (h : tw tx L j = false) : ∀ k, k < j → ∃ i, i < L ∧ tx (k * (L + 1) + i) ≠ tx (j * (L + 1) + i) := fun k hk => by
  cases g : fs (fun i => !(tx (k * (L + 1) + i) == tx (j * (L + 1) + i))) L < L |> decide with
  | true =>
    have g2 := of_decide_eq_true g
    have g3 := fs_yes _ g2
    exact ⟨_, g2, by simpa using g3⟩
  | false =>
    exfalso
    have g2 := of_decide_eq_false g
    have : tw tx L j = true := an_iff.mpr ⟨k, hk, al_iff.mpr (fun i hi => by
      rcases Nat.lt_or_ge i (fs (fun i => !(tx (k * (L + 1) + i) == tx (j * (L + 1) + i))) L) with q | q
      · have := fs_min _ q
        simpa using this
      · omega)⟩
    rw [h] at this
    cases this
theorem TXI_comma {tl : Nat} {tx : Nat → Nat} {p j a L : Nat} (h : TXI tl tx p j a L) (hp : p < tl) (hx : tx p = 44) (hc : if L = 0 then 2 ≤ a else a = L) (hj : j ≠ 11) : TXI tl tx (p + 1) (j + 1) 0 a := by
  obtain ⟨h1, h2, h3, h4, h5, h6, h7, h8, h9⟩ := h
  by_cases e : L = 0
  · rw [if_pos e] at hc h6
    have hj0 : j = 0 := by
      rcases Nat.eq_zero_or_pos j with q | q
      · exact q
      · have := h5 q; omega
    subst hj0
    subst e
    have hpa : p = a := by omega
    subst hpa
    refine ⟨by omega, by omega, by omega, fun q => by omega, fun _ => ⟨hc, h6⟩, by rw [if_neg (by omega)]; omega, fun k i hk => ?_, fun k hk => ?_, fun k q hkq hq => ?_⟩
    · have hk0 : k = 0 ∧ i < p := by omega
      have := h7 0 i (Or.inr ⟨rfl, hk0.2⟩)
      rw [Nat.zero_mul] at this
      rw [hk0.1, Nat.zero_mul]
      exact this
    · rw [show k = 0 by omega, Nat.zero_mul, Nat.zero_add]; exact hx
    · exfalso; omega
  · rw [if_neg e] at hc
    subst hc
    have hj1 : 0 < j := by
      rcases Nat.eq_zero_or_pos j with q | q
      · exact absurd (h4 q) e
      · exact q
    have e2 : (j + 1) * (a + 1) = j * (a + 1) + (a + 1) := Nat.succ_mul j (a + 1)
    refine ⟨by omega, by omega, by omega, fun q => by omega, fun _ => h5 hj1, by rw [if_neg e]; omega, fun k i hk => ?_, fun k hk => ?_, fun k q hkq hq => ?_⟩
    · exact h7 k i (by omega)
    · by_cases e3 : k < j
      · exact h8 k e3
      · rw [show k = j by omega, ← h2]; exact hx
    · exact h9 k q hkq (by omega)
theorem TXI_letter {tl : Nat} {tx : Nat → Nat} {p j a L : Nat} (h : TXI tl tx p j a L) (hp : p < tl) (hx : 97 ≤ tx p ∧ tx p ≤ 122) (ha : a < (if L = 0 then 4 else L)) (ht : ¬ (a + 1 = L ∧ tw tx L j = true)) : TXI tl tx (p + 1) j (a + 1) L := by
  obtain ⟨h1, h2, h3, h4, h5, h6, h7, h8, h9⟩ := h
  refine ⟨by omega, by omega, h3, h4, h5, ha, fun k i hk => ?_, h8, fun k q hkq hq => ?_⟩
  · by_cases e : k = j ∧ i = a
    · rw [e.1, e.2, ← h2]; exact hx
    · exact h7 k i (by omega)
  · rcases hq with q1 | ⟨q1, q2⟩
    · exact h9 k q hkq (Or.inl q1)
    · rw [q1]
      have : tw tx L j = false := by
        rw [← Bool.not_eq_true]
        exact fun q => ht ⟨q2, q⟩
      exact tw_f this k (by omega)
theorem codeAt_c {tl : Nat} {tx : Nat → Nat} {c m : St} (hT : RT tl tx c m) {i : Nat} (hi : i < tl) : f_X5_codeAt c (nI i) = some (nI (tx i)) := by
  have h := hT.1
  unfold f_X5_codeAt
  rw [if_neg (by rw [i32_lt, nI_toInt (by omega), i0]; omega), hT.2.1, ite_leN (by omega) (by omega), if_neg (by omega), ite_in (show i < 60 by omega) (by decide), nI_clamp (by omega), (hT.2.2.2 i hi).2.2.1]
theorem same_w {tl : Nat} {tx : Nat → Nat} {c m : St} (hT : RT tl tx c m) {s t L : Nat} (hs : s + L ≤ tl) (ht : t + L ≤ tl) : f_X5_sameWord c (nI s) (nI t) (nI L) = some (bi (al (fun i => tx (s + i) == tx (t + i)) L)) := by
  have h := hT.1
  have loop : ∀ (n k : Nat), k ≤ L → L - k < n → al (fun i => tx (s + i) == tx (t + i)) k = true → f_X5_sameWord_L3 c n (nI s) (nI t) (nI L) (nI k) = some (bi (al (fun i => tx (s + i) == tx (t + i)) L)) := by
    intro n
    induction n with
    | zero => intro k _ h; omega
    | succ n ih =>
      intro k hk hnn hI
      rw [f_X5_sameWord_L3, ite_leN (by omega) (by omega)]
      by_cases e : L ≤ k
      · rw [if_pos e, ← show k = L by omega, hI]; rfl
      · have b1 := (hT.2.2.2 (s + k) (by omega)).2.1
        have b2 := (hT.2.2.2 (t + k) (by omega)).2.1
        rw [if_neg e, nI_add, nI_add, bind_s (codeAt_c hT (by omega)), bind_s (codeAt_c hT (by omega)), ite_eqN (by omega) (by omega)]
        by_cases e2 : tx (s + k) = tx (t + k)
        · rw [if_pos e2, lt, nI_1]
          exact ih (k + 1) (by omega) (by omega) (by rw [al, hI, e2]; simp)
        · rw [if_neg e2, al_split (k := k) (by omega) (by simp [e2])]; rfl
  have h9 := loop FU 0 (by omega) (by have := FU_big; omega) rfl
  rw [nI_0] at h9
  rw [f_X5_sameWord]
  exact h9
theorem rep_c {tl : Nat} {tx : Nat → Nat} {c m : St} (hT : RT tl tx c m) {j L : Nat} (hj : j ≤ 11) (h : j * (L + 1) + L ≤ tl) : f_X5_repeats c (nI (j * (L + 1))) (nI L) = some (bi (tw tx L j)) := by
  have ht := hT.1
  have loop : ∀ (n k : Nat), k ≤ j → j - k < n → an (fun k => al (fun i => tx (k * (L + 1) + i) == tx (j * (L + 1) + i)) L) k = false → f_X5_repeats_L2 c n (nI (j * (L + 1))) (nI L) (nI (k * (L + 1))) = some (bi (tw tx L j)) := by
    intro n
    induction n with
    | zero => intro k _ h; omega
    | succ n ih =>
      intro k hk hnn hI
      have hm : k * (L + 1) ≤ j * (L + 1) := Nat.mul_le_mul_right _ hk
      rw [f_X5_repeats_L2, ite_leN (by omega) (by omega)]
      by_cases e : j ≤ k
      · have hkj : k = j := by omega
        rw [hkj] at hI
        rw [hkj, if_pos (Nat.le_refl _)]
        unfold tw
        rw [hI]; rfl
      · have hm2 : (k + 1) * (L + 1) ≤ j * (L + 1) := Nat.mul_le_mul_right _ (by omega)
        rw [Nat.succ_mul] at hm2
        rw [if_neg (by omega), bind_s (same_w hT (by omega) (by omega))]
        cases g : al (fun i => tx (k * (L + 1) + i) == tx (j * (L + 1) + i)) L with
        | false =>
          have q := ih (k + 1) (by omega) (by omega) (by rw [an, hI, g]; rfl)
          rw [Nat.succ_mul] at q
          rw [bi_f, if_pos rfl, nI_1, nI_add, lt]
          exact q
        | true =>
          rw [bi_t, if_neg (by decide)]
          have : tw tx L j = true := an_iff.mpr ⟨k, by omega, g⟩
          rw [this]; rfl
  have h9 := loop FU 0 (by omega) (by have := FU_big; omega) rfl
  rw [Nat.zero_mul, nI_0] at h9
  rw [f_X5_repeats]
  exact h9
theorem bi_cases (b : Bool) : bi b = 0 ∨ bi b = 1 := by
  cases b
  · exact Or.inl rfl
  · exact Or.inr rfl
theorem twice_m {tx : Nat → Nat} {st : St} {j L : Nat} (hj : j ≤ 11) (hL : L ≤ 4) (h5 : st.1 5 = nI j) (h7 : st.1 7 = nI L) (hA : ∀ k i, k ≤ j → i < L → st.2.1 5 (4 * k + i) = nI (tx (k * (L + 1) + i)) ∧ tx (k * (L + 1) + i) ≤ 126) : f_X8_isTwice st = some (bi (tw tx L j)) := by
  have l17 : ∀ (r4 : Int32 → Int32 → Option Int32) (b : Bool) (k : Nat), k < j → ∀ (n i : Nat), i ≤ L → L - i < n → f_X8_isTwice_L17 st r4 n (bi b) (nI k) (bi (al (fun i => tx (k * (L + 1) + i) == tx (j * (L + 1) + i)) i)) (nI i) = r4 (bi (b || al (fun i => tx (k * (L + 1) + i) == tx (j * (L + 1) + i)) L)) (nI (k + 1)) := by
    intro r4 b k hk n
    induction n with
    | zero => intro i _ h; omega
    | succ n ih =>
      intro i hi hnn
      rw [f_X8_isTwice_L17, h7, ite_leN (by omega) (by omega)]
      by_cases e : L ≤ i
      · rw [if_pos e, show i = L by omega]
        cases b with
        | true => rw [bi_t, if_neg (by decide), f_X8_isTwice_J78, f_X8_isTwice_J83, lt, nI_1, Bool.true_or, bi_t]
        | false =>
          rw [bi_f, if_pos rfl, Bool.false_or]
          cases g : al (fun i => tx (k * (L + 1) + i) == tx (j * (L + 1) + i)) L with
          | false => rw [bi_f, if_pos rfl, f_X8_isTwice_J83, lt, nI_1]
          | true => rw [bi_t, if_neg (by decide), f_X8_isTwice_J78, f_X8_isTwice_J83, lt, nI_1]
      · have q := ih (i + 1) (by omega) (by omega)
        rw [al] at q
        rw [if_neg e]
        cases g : al (fun i => tx (k * (L + 1) + i) == tx (j * (L + 1) + i)) i with
        | false =>
          rw [g, Bool.false_and, bi_f] at q
          rw [bi_f, if_pos rfl, f_X8_isTwice_J62, f_X8_isTwice_J63, lt, nI_1]
          exact q
        | true =>
          have a1 := hA k i (by omega) (by omega)
          have a2 := hA j i (by omega) (by omega)
          rw [g, Bool.true_and] at q
          rw [bi_t, if_neg (by decide), h5, n4, pk_mul, pk_mul, nI_add, nI_add, ite_in (show 4 * k + i < 48 by omega) (by decide), ite_in (show 4 * j + i < 48 by omega) (by decide), nI_clamp (by omega), nI_clamp (by omega), a1.1, a2.1, ite_eqN (by omega) (by omega)]
          by_cases e2 : tx (k * (L + 1) + i) = tx (j * (L + 1) + i)
          · rw [show (tx (k * (L + 1) + i) == tx (j * (L + 1) + i)) = true by simp [e2], bi_t] at q
            rw [if_pos e2, f_X8_isTwice_J63, lt, nI_1]
            exact q
          · rw [show (tx (k * (L + 1) + i) == tx (j * (L + 1) + i)) = false by simp [e2], bi_f] at q
            rw [if_neg e2, f_X8_isTwice_J62, f_X8_isTwice_J63, lt, nI_1]
            exact q
  have l4 : ∀ (n k : Nat), k ≤ j → j - k < n → f_X8_isTwice_L4 st n (bi (an (fun k => al (fun i => tx (k * (L + 1) + i) == tx (j * (L + 1) + i)) L) k)) (nI k) = some (bi (tw tx L j)) := by
    intro n
    induction n with
    | zero => intro k _ h; omega
    | succ n ih =>
      intro k hk hnn
      rw [f_X8_isTwice_L4, h5, ite_leN (by omega) (by omega)]
      by_cases e : j ≤ k
      · rw [if_pos e, if_pos (bi_cases _), show k = j by omega]; rfl
      · have q := l17 (f_X8_isTwice_L4 st n) (an (fun k => al (fun i => tx (k * (L + 1) + i) == tx (j * (L + 1) + i)) L) k) k (by omega) FU 0 (by omega) (by have := FU_big; omega)
        rw [show al (fun i => tx (k * (L + 1) + i) == tx (j * (L + 1) + i)) 0 = true from rfl, bi_t, nI_0] at q
        rw [if_neg e, q]
        exact ih (k + 1) (by omega) (by omega)
  have h9 := l4 FU 0 (by omega) (by have := FU_big; omega)
  rw [show an (fun k => al (fun i => tx (k * (L + 1) + i) == tx (j * (L + 1) + i)) L) 0 = false from rfl, bi_f, nI_0] at h9
  rw [f_X8_isTwice]
  exact h9
/-! the class's step -/
def cmm (j a L : Nat) : Prop := (if L = 0 then 2 ≤ a else a = L) ∧ j ≠ 11
def ltr (tx : Nat → Nat) (p j a L : Nat) : Prop := (97 ≤ tx p ∧ tx p ≤ 122) ∧ a < (if L = 0 then 4 else L) ∧ ¬ (a + 1 = L ∧ tw tx L j = true)
theorem j65_c {c : St} {r9 : Int32 → Int32 → Int32 → Int32 → Option Int32} {j p a : Nat} (hj : j ≤ 11) (b : Bool) : (b = true → j ≠ 11 → f_X5_firstFault_J65 c r9 (nI (j + 1)) (nI p) (nI a) (bi b) = r9 (nI a) (nI (p + 1)) (nI (j + 2)) (nI (p + 1))) ∧ (¬ (b = true ∧ j ≠ 11) → f_X5_firstFault_J65 c r9 (nI (j + 1)) (nI p) (nI a) (bi b) = some (nI p)) := by
  constructor
  · intro hb hj2
    rw [hb, f_X5_firstFault_J65, bi_t, if_neg (by decide), show (12 : Int32) = nI 12 from rfl, ite_eqN (by omega) (by omega), if_neg (by omega), lt, lt, f_X5_firstFault_J145, lt, nI_1, nI_1]
  · intro h
    rw [f_X5_firstFault_J65]
    cases b with
    | false => rw [bi_f, if_pos rfl, f_X5_firstFault_J78]
    | true =>
      have : j = 11 := by
        rcases Nat.lt_or_ge j 11 with q | q
        · exact absurd ⟨rfl, by omega⟩ h
        · omega
      rw [bi_t, if_neg (by decide), show (12 : Int32) = nI 12 from rfl, ite_eqN (by omega) (by omega), if_pos (by omega), f_X5_firstFault_J78]
theorem ff_comma {tl : Nat} {tx : Nat → Nat} {c m : St} (hT : RT tl tx c m) {n p j a L : Nat} (h : TXI tl tx p j a L) (hp : p < tl) (hx : tx p = 44) : (cmm j a L → f_X5_firstFault_L9 c (n + 1) (nI L) (nI (j * (L + 1))) (nI (j + 1)) (nI p) = f_X5_firstFault_L9 c n (nI a) (nI (p + 1)) (nI (j + 2)) (nI (p + 1))) ∧ (¬ cmm j a L → f_X5_firstFault_L9 c (n + 1) (nI L) (nI (j * (L + 1))) (nI (j + 1)) (nI p) = some (nI p)) := by
  obtain ⟨h1, h2, h3, h4, h5, h6, h7, h8, h9⟩ := h
  have ht := hT.1
  have hL4 : L ≤ 4 := by
    rcases Nat.eq_zero_or_pos j with q | q
    · rw [h4 q]; omega
    · exact (h5 q).2
  have ha : a ≤ 4 := by split at h6 <;> omega
  have e0 : f_X5_firstFault_L9 c (n + 1) (nI L) (nI (j * (L + 1))) (nI (j + 1)) (nI p) = f_X5_firstFault_J65 c (f_X5_firstFault_L9 c n) (nI (j + 1)) (nI p) (nI a) (bi (decide (if L = 0 then 2 ≤ a else a = L))) := by
    rw [f_X5_firstFault_L9, hT.2.1, ite_leN (by omega) (by omega), if_neg (by omega), pk_sub (by omega), lt, ite_in (show p < 60 by omega) (by decide), nI_clamp (by omega), (hT.2.2.2 p hp).2.2.1, hx, show (44 : Int32) = nI 44 from rfl, if_pos rfl, show p - j * (L + 1) = a by omega]
    by_cases e : L = 0
    · rw [e, if_pos nI_0, show (2 : Int32) = nI 2 from rfl, ite_ltN (by omega) (by omega)]
      by_cases e2 : a < 2
      · rw [if_pos e2, decide_eq_false (by rw [if_pos rfl]; omega)]; rfl
      · rw [if_neg e2, decide_eq_true (by rw [if_pos rfl]; omega)]; rfl
    · rw [if_neg (by rw [← nI_0, nI_eq_iff (by omega) (by omega)]; exact e), ite_eqN (by omega) (by omega)]
      by_cases e2 : a = L
      · rw [if_pos e2, decide_eq_true (by rw [if_neg e]; exact e2)]; rfl
      · rw [if_neg e2, decide_eq_false (by rw [if_neg e]; exact e2)]; rfl
  have q := j65_c (c := c) (r9 := f_X5_firstFault_L9 c n) (p := p) (a := a) h3 (decide (if L = 0 then 2 ≤ a else a = L))
  rw [e0]
  unfold cmm
  exact ⟨fun g => q.1 (decide_eq_true g.1) g.2, fun g => q.2 (fun g2 => g ⟨of_decide_eq_true g2.1, g2.2⟩)⟩
theorem isl_c {x : Nat} (hx : x ≤ 126) : f_X5_isLetter (nI x) = some (bi (decide (97 ≤ x ∧ x ≤ 122))) := by
  unfold f_X5_isLetter f_X5_isLetter_J16
  rw [show (97 : Int32) = nI 97 from rfl, show (122 : Int32) = nI 122 from rfl, ite_ltN (by omega) (by omega), ite_ltN (by omega) (by omega)]
  by_cases e : x < 97
  · rw [if_pos e, decide_eq_false (by omega)]; rfl
  · rw [if_neg e]
    by_cases e2 : 122 < x
    · rw [if_pos e2, decide_eq_false (by omega)]; rfl
    · rw [if_neg e2, decide_eq_true (by omega)]; rfl
theorem ff_letter {tl : Nat} {tx : Nat → Nat} {c m : St} (hT : RT tl tx c m) {n p j a L : Nat} (h : TXI tl tx p j a L) (hp : p < tl) (hx : tx p ≠ 44) : (ltr tx p j a L → f_X5_firstFault_L9 c (n + 1) (nI L) (nI (j * (L + 1))) (nI (j + 1)) (nI p) = f_X5_firstFault_L9 c n (nI L) (nI (j * (L + 1))) (nI (j + 1)) (nI (p + 1))) ∧ (¬ ltr tx p j a L → f_X5_firstFault_L9 c (n + 1) (nI L) (nI (j * (L + 1))) (nI (j + 1)) (nI p) = some (nI p)) := by
  obtain ⟨h1, h2, h3, h4, h5, h6, h7, h8, h9⟩ := h
  have ht := hT.1
  have hL4 : L ≤ 4 := by
    rcases Nat.eq_zero_or_pos j with q | q
    · rw [h4 q]; omega
    · exact (h5 q).2
  have ha : a ≤ 4 := by split at h6 <;> omega
  have hxb := (hT.2.2.2 p hp).2.1
  have e119 : ∀ B : Nat, B = (if L = 0 then 4 else L) → ((97 ≤ tx p ∧ tx p ≤ 122) → (ltr tx p j a L → f_X5_firstFault_J119 c (f_X5_firstFault_L9 c n) (nI L) (nI (j * (L + 1))) (nI (j + 1)) (nI p) (nI a) (nI B) (nI a) = f_X5_firstFault_L9 c n (nI L) (nI (j * (L + 1))) (nI (j + 1)) (nI (p + 1))) ∧ (¬ ltr tx p j a L → f_X5_firstFault_J119 c (f_X5_firstFault_L9 c n) (nI L) (nI (j * (L + 1))) (nI (j + 1)) (nI p) (nI a) (nI B) (nI a) = some (nI p))) := by
    intro B hB hl
    have hB4 : B ≤ 4 := by rw [hB]; split <;> omega
    rw [f_X5_firstFault_J119, ite_ltN (by omega) (by omega)]
    unfold ltr
    rw [← hB]
    by_cases e : a < B
    · rw [if_pos e]
      have eL : (nI a = nI L - 1) = (a + 1 = L) := by
        by_cases e0 : L = 0
        · rw [e0]
          have q := nI_ne_m1 (w := a) (by omega)
          exact propext ⟨fun g => absurd (g.trans (by decide)) q, fun g => by omega⟩
        · rw [n1, pk_sub (by omega), nI_eq_iff (by omega) (by omega)]
          exact propext ⟨fun g => by omega, fun g => by omega⟩
      by_cases e2 : a + 1 = L
      · rw [if_pos (by rw [eL]; exact e2), bind_s (rep_c hT h3 (by omega))]
        cases g : tw tx L j with
        | false =>
          rw [bi_f, if_pos rfl, f_X5_firstFault_J145, lt, nI_1]
          exact ⟨fun _ => rfl, fun q => absurd ⟨hl, e, fun q2 => by cases q2.2⟩ q⟩
        | true =>
          rw [bi_t, if_neg (by decide)]
          exact ⟨fun q => absurd ⟨e2, rfl⟩ q.2.2, fun _ => rfl⟩
      · rw [if_neg (by rw [eL]; exact e2), f_X5_firstFault_J145, lt, nI_1]
        exact ⟨fun _ => rfl, fun q => absurd ⟨hl, e, fun q2 => e2 q2.1⟩ q⟩
    · rw [if_neg e, f_X5_firstFault_J122]
      exact ⟨fun q => absurd q.2.1 e, fun _ => rfl⟩
  rw [f_X5_firstFault_L9, hT.2.1, ite_leN (by omega) (by omega), if_neg (by omega), pk_sub (by omega), lt, ite_in (show p < 60 by omega) (by decide), nI_clamp (by omega), (hT.2.2.2 p hp).2.2.1, show (44 : Int32) = nI 44 from rfl, ite_eqN (by omega) (by omega), if_neg hx, show p - j * (L + 1) = a by omega, ite_in (show p < 60 by omega) (by decide), bind_s (isl_c hxb)]
  by_cases e : 97 ≤ tx p ∧ tx p ≤ 122
  · rw [decide_eq_true e, bi_t, if_neg (by decide)]
    by_cases e0 : L = 0
    · have q := e119 4 (by rw [if_pos e0]) e
      rw [if_pos (by rw [e0]; exact nI_0), show (4 : Int32) = nI 4 from rfl]
      exact q
    · have q := e119 L (by rw [if_neg e0]) e
      rw [if_neg (by rw [← nI_0, nI_eq_iff (by omega) (by omega)]; exact e0)]
      exact q
  · rw [decide_eq_false e, bi_f, if_pos rfl, f_X5_firstFault_J122]
    exact ⟨fun q => absurd q.1 e, fun _ => rfl⟩
end
