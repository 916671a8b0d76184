section
/-! a text that is a list -/
def gw (tx : Nat → Nat) (a k i : Nat) : Nat := tx (k * (a + 1) + i) - 97
def TL (tl : Nat) (tx : Nat → Nat) (j a : Nat) : Prop := 2 ≤ a ∧ a ≤ 4 ∧ j ≤ 11 ∧ tl + 1 = (j + 1) * (a + 1) ∧ (∀ k i, k ≤ j → i < a → 97 ≤ tx (k * (a + 1) + i) ∧ tx (k * (a + 1) + i) ≤ 122) ∧ (∀ k q, k < q → q ≤ j → ∃ i, i < a ∧ tx (k * (a + 1) + i) ≠ tx (q * (a + 1) + i))
theorem TXI_0 {tl : Nat} {tx : Nat → Nat} {p j a L : Nat} (h : TXI tl tx p j a L) (e : L = 0) : j = 0 := by
  rcases Nat.eq_zero_or_pos j with q | q
  · exact q
  · have := h.2.2.2.2.1 q; omega
theorem TL_of {tl : Nat} {tx : Nat → Nat} {j a L : Nat} (h : TXI tl tx tl j a L) (h2 : 2 ≤ a) (h3 : L = 0 ∨ a = L) : TL tl tx j a := by
  have hj0 := TXI_0 h
  obtain ⟨g1, g2, g3, g4, g5, g6, g7, g8, g9⟩ := h
  by_cases e : L = 0
  · rw [if_pos e] at g6
    have := hj0 e
    subst this
    rw [Nat.zero_mul, Nat.zero_add] at g2
    refine ⟨h2, g6, by omega, by omega, fun k i hk hi => ?_, fun k q hkq hq => by omega⟩
    have q := g7 0 i (Or.inr ⟨rfl, hi⟩)
    rw [Nat.zero_mul] at q
    rw [show k = 0 by omega, Nat.zero_mul]
    exact q
  · have e2 : a = L := h3.resolve_left e
    subst e2
    have hj : 0 < j := by
      rcases Nat.eq_zero_or_pos j with q | q
      · exact absurd (g4 q) e
      · exact q
    have e3 : (j + 1) * (a + 1) = j * (a + 1) + (a + 1) := Nat.succ_mul j (a + 1)
    refine ⟨h2, (g5 hj).2, g3, by omega, fun k i hk hi => g7 k i (by omega), fun k q hkq hq => g9 k q hkq (by omega)⟩
theorem TL_in {tl : Nat} {tx : Nat → Nat} {j a : Nat} (h : TL tl tx j a) {k i : Nat} (hk : k ≤ j) (hi : i < a) : k * (a + 1) + i < tl := by
  have h1 := h.2.2.2.1
  have h2 : k * (a + 1) ≤ j * (a + 1) := Nat.mul_le_mul_right _ hk
  rw [Nat.succ_mul] at h1
  omega
theorem gw_lt {tl : Nat} {tx : Nat → Nat} {j a : Nat} (h : TL tl tx j a) {k : Nat} (hk : k ≤ j) : ∀ i, i < a → gw tx a k i < 26 := fun i hi => by
  have := h.2.2.2.2.1 k i hk hi
  unfold gw
  omega
theorem gw_ne {tl : Nat} {tx : Nat → Nat} {j a : Nat} (h : TL tl tx j a) {k q : Nat} (hk : k < q) (hq : q ≤ j) : cd a (gw tx a k) ≠ cd a (gw tx a q) := fun e => by
  obtain ⟨i, hi, hne⟩ := h.2.2.2.2.2 k q hk hq
  rw [cd_nb, cd_nb] at e
  have g1 := gw_lt h (show k ≤ j by omega)
  have g2 := gw_lt h hq
  have e2 := nb_inj (B := 32) (fun i hi => by have := g1 i hi; omega) (fun i hi => by have := g2 i hi; omega) e i hi
  have h1 := h.2.2.2.2.1 k i (by omega) hi
  have h2 := h.2.2.2.2.1 q i hq hi
  unfold gw at e2
  omega
theorem comma_c {tl : Nat} {tx : Nat → Nat} {c m : St} (hT : RT tl tx c m) : f_X5_firstComma c = some (nI (fs (fun i => tx i == 44) tl)) := by
  have ht := hT.1
  have loop : ∀ (n k : Nat), k ≤ tl → tl - k < n → (∀ i, i < k → (tx i == 44) = false) → f_X5_firstComma_L2 c n (nI k) = some (nI (fs (fun i => tx i == 44) tl)) := by
    intro n
    induction n with
    | zero => intro k _ h; omega
    | succ n ih =>
      intro k hk hnn hI
      rw [f_X5_firstComma_L2, hT.2.1, ite_leN (by omega) (by omega)]
      by_cases e : tl ≤ k
      · rw [if_pos e, fs_none (fun i hi => hI i (by omega))]
      · obtain ⟨x1, x2, x3, x4⟩ := hT.2.2.2 k (by omega)
        rw [if_neg e, ite_in (show k < 60 by omega) (by decide), nI_clamp (by omega), x3, show (44 : Int32) = nI 44 from rfl, ite_eqN (by omega) (by omega)]
        by_cases e2 : tx k = 44
        · rw [if_pos e2, fs_eq (k := k) (by omega) (by simp [e2]) hI]
        · rw [if_neg e2, lt, nI_1]
          exact ih (k + 1) (by omega) (by omega) (fun i hi => by
            by_cases e3 : i = k
            · rw [e3]; simp [e2]
            · exact hI i (by omega))
  have h9 := loop FU 0 (by omega) (by have := FU_big; omega) (fun i hi => by omega)
  rw [nI_0] at h9
  rw [f_X5_firstComma]
  exact h9
theorem lw_gen {tl : Nat} {tx : Nat → Nat} {c m : St} (hT : RT tl tx c m) (hf : f_X5_firstFault c = some (nI tl)) {F : Nat} (hF : fs (fun i => tx i == 44) tl = F) : f_X5_lengthOfWords c = some (nI (if 2 ≤ F ∧ (tl + 1) % (F + 1) = 0 then F else 0)) := by
  have ht := hT.1
  have hF60 : F ≤ tl := by rw [← hF]; exact fs_le _ _
  rw [f_X5_lengthOfWords, bind_s hf, hT.2.1, ite_leN (by omega) (by omega), if_pos (Nat.le_refl _), bind_s (comma_c hT), hF, show (2 : Int32) = nI 2 from rfl, ite_ltN (by omega) (by omega)]
  by_cases e : F < 2
  · rw [if_pos e, f_X5_lengthOfWords_J36, if_neg (by omega)]; rfl
  · rw [if_neg e, nI_1, nI_1, if_pos (by rw [← nI_0, nI_eq_iff (by omega) (by omega)]; omega), pk_rem (by omega) (by omega) (by omega)]
    have hm : (tl + 1) % (F + 1) < F + 1 := Nat.mod_lt _ (by omega)
    have hz : (nI ((tl + 1) % (F + 1)) = 0) = ((tl + 1) % (F + 1) = 0) := by rw [← nI_0]; exact nI_eq_iff (by omega) (by omega)
    by_cases e2 : (tl + 1) % (F + 1) = 0
    · rw [if_pos (by rw [hz]; exact e2), if_pos ⟨by omega, e2⟩]
    · rw [if_neg (by rw [hz]; exact e2), f_X5_lengthOfWords_J36, if_neg (fun q => e2 q.2)]; rfl
theorem lenw_c {tl : Nat} {tx : Nat → Nat} {c m : St} (hT : RT tl tx c m) (hf : f_X5_firstFault c = some (nI tl)) {j a L : Nat} (h : TXI tl tx tl j a L) : f_X5_lengthOfWords c = some (nI (if 2 ≤ a ∧ (L = 0 ∨ a = L) then a else 0)) := by
  obtain ⟨g1, g2, g3, g4, g5, g6, g7, g8, g9⟩ := h
  rcases Nat.eq_zero_or_pos j with e | e
  · subst e
    rw [Nat.zero_mul, Nat.zero_add] at g2
    have hF : fs (fun i => tx i == 44) tl = tl := fs_none (fun i hi => by
      have q := g7 0 i (Or.inr ⟨rfl, by omega⟩)
      rw [Nat.zero_mul, Nat.zero_add] at q
      have : tx i ≠ 44 := by omega
      simp [this])
    rw [lw_gen hT hf hF, Nat.mod_self, ← g2]
    congr 2
    by_cases e2 : 2 ≤ tl
    · rw [if_pos ⟨e2, rfl⟩, if_pos ⟨e2, Or.inl (g4 rfl)⟩]
    · rw [if_neg (fun q => e2 q.1), if_neg (fun q => e2 q.1)]
  · obtain ⟨l1, l2⟩ := g5 e
    rw [if_neg (show ¬ (L = 0) by omega)] at g6
    have hj1 : 1 * (L + 1) ≤ j * (L + 1) := Nat.mul_le_mul_right _ e
    have hF : fs (fun i => tx i == 44) tl = L := fs_eq (by omega) (by
      have q := g8 0 e
      rw [Nat.zero_mul, Nat.zero_add] at q
      simp [q]) (fun i hi => by
      have q := g7 0 i (Or.inl ⟨e, hi⟩)
      rw [Nat.zero_mul, Nat.zero_add] at q
      have : tx i ≠ 44 := by omega
      simp [this])
    have hm : (tl + 1) % (L + 1) = (a + 1) % (L + 1) := by
      rw [show tl + 1 = a + 1 + j * (L + 1) by omega, Nat.add_mul_mod_self_right]
    rw [lw_gen hT hf hF, hm]
    congr 2
    by_cases e2 : a = L
    · rw [if_pos ⟨l1, by rw [e2]; exact Nat.mod_self _⟩, if_pos ⟨by omega, Or.inr e2⟩, e2]
    · rw [if_neg (fun q => by
        have q2 := q.2
        rw [Nat.mod_eq_of_lt (show a + 1 < L + 1 by omega)] at q2
        omega), if_neg (fun q => by omega)]
theorem numw_c {tl : Nat} {tx : Nat → Nat} {c m : St} (hT : RT tl tx c m) {j a : Nat} (h : TL tl tx j a) : f_X5_numberOfWords c (nI a) = some (nI (j + 1)) := by
  have ht := hT.1
  have h1 := h.2.1
  rw [f_X5_numberOfWords, show (2 : Int32) = nI 2 from rfl, ite_leN (by omega) (by omega), if_pos h.1, nI_1, hT.2.1, nI_1, if_pos (by rw [← nI_0, nI_eq_iff (by omega) (by omega)]; omega), pk_div (by omega) (by omega) (by omega), h.2.2.2.1, Nat.mul_div_cancel _ (by omega)]
theorem code_c {tl : Nat} {tx : Nat → Nat} {c m : St} (hT : RT tl tx c m) {j a : Nat} (h : TL tl tx j a) {k : Nat} (hk : k ≤ j) : f_X5_codeOf c (nI k) (nI a) = some (nI (cd a (gw tx a k))) := by
  have ht := hT.1
  have ha := h.2.1
  have hg := gw_lt h hk
  have loop : ∀ (n i : Nat), i ≤ a → a - i < n → f_X5_codeOf_L12 c n (nI a) (nI (k * (a + 1))) (nI (cd i (gw tx a k))) (nI i) = some (nI (cd a (gw tx a k))) := by
    intro n
    induction n with
    | zero => intro i _ h; omega
    | succ n ih =>
      intro i hi hnn
      rw [f_X5_codeOf_L12, ite_leN (by omega) (by omega)]
      by_cases e : a ≤ i
      · rw [if_pos e, show i = a by omega]
      · have hl := h.2.2.2.2.1 k i hk (by omega)
        have hgi := hg i (by omega)
        have e1 : nI (tx (k * (a + 1) + i)) - 97 = nI (gw tx a k i) := by
          rw [n97, pk_sub hl.1]; rfl
        have e2 : nI (gw tx a k i) &&& 31 = nI (gw tx a k i) := by
          rw [and_nI (by omega) 5 (by decide), Nat.mod_eq_of_lt (by omega)]
        rw [if_neg e, nI_add, bind_s (codeAt_c hT (TL_in h hk (by omega))), e1, e2, shl5 (cd_small (by omega) (fun i hi => hg i (by omega))) (by omega), lt, lt, nI_1]
        exact ih (i + 1) (by omega) (by omega)
  have h9 := loop FU 0 (by omega) (by have := FU_big; omega)
  rw [show cd 0 (gw tx a k) = 0 from rfl, nI_0] at h9
  rw [f_X5_codeOf, nI_1, pk_mul, lt]
  exact h9
def hs (nw : Nat) (wd : Nat → Nat → Nat) (a : Nat) (g : Nat → Nat) : Bool := an (fun v => al (fun i => wd v i == g i) a) nw
theorem find_w {nw ln : Nat} {wd : Nat → Nat → Nat} {c : St} (hW : WL nw ln wd) (hC : CL nw ln wd c) {a : Nat} (h : nw = 0 ∨ a = ln) {g : Nat → Nat} (hg : ∀ i, i < a → g i < 26) : ∃ b : Int32, f_X6_find c (nI (cd a g)) = some b ∧ (hs nw wd a g = true → ¬ b = -1) ∧ (hs nw wd a g = false → b = -1) := by
  have hn := hW.1
  by_cases h0 : nw = 0
  · subst h0
    refine ⟨-1, ?_, fun q => (by cases q), fun _ => rfl⟩
    obtain ⟨n, hn2⟩ := fu_s 1 (by decide)
    rw [f_X6_find, hn2, f_X6_find_L2, hC.1, nI_0, if_pos (by decide)]
  · have e := h.resolve_left h0
    subst e
    refine ⟨_, find_c hW hC hg, fun q => ?_, fun q => ?_⟩
    · rw [orN_m1 (by omega), fs_lt_iff]
      exact fun w => w (an_iff.mp q)
    · rw [orN_m1 (by omega), fs_lt_iff]
      intro w
      have := an_iff.mpr w
      unfold hs at q
      rw [q] at this
      cases this
theorem chk_c {nw ln : Nat} {wd : Nat → Nat → Nat} {tl : Nat} {tx : Nat → Nat} {c m : St} (hW : WL nw ln wd) (hC : CL nw ln wd c) (hT : RT tl tx c m) {j a : Nat} (h : TL tl tx j a) (hn : nw = 0 ∨ a = ln) : (al (fun k => !hs nw wd a (gw tx a k)) (j + 1) = false → f_X7_words_L37 FU c (nI a) (nI (j + 1)) 0 = some (-103, c)) ∧ (al (fun k => !hs nw wd a (gw tx a k)) (j + 1) = true → f_X7_words_L37 FU c (nI a) (nI (j + 1)) 0 = if nw + (j + 1) ≤ 12 then f_X7_words_L90 FU c (nI a) (nI (j + 1)) 0 else some (-104, c)) := by
  have hnw := hW.1
  have hj := h.2.2.1
  have loop : ∀ (n k : Nat), k ≤ j + 1 → j + 1 - k < n → al (fun k => !hs nw wd a (gw tx a k)) k = true → (al (fun k => !hs nw wd a (gw tx a k)) (j + 1) = false → f_X7_words_L37 n c (nI a) (nI (j + 1)) (nI k) = some (-103, c)) ∧ (al (fun k => !hs nw wd a (gw tx a k)) (j + 1) = true → f_X7_words_L37 n c (nI a) (nI (j + 1)) (nI k) = if nw + (j + 1) ≤ 12 then f_X7_words_L90 FU c (nI a) (nI (j + 1)) 0 else some (-104, c)) := by
    intro n
    induction n with
    | zero => intro k _ h; omega
    | succ n ih =>
      intro k hk hnn hI
      rw [f_X7_words_L37, ite_leN (by omega) (by omega)]
      by_cases e : j + 1 ≤ k
      · have : k = j + 1 := by omega
        subst this
        rw [if_pos e, bind_s (siz_c hC), nI_add, show (12 : Int32) = nI 12 from rfl, ite_leN (by omega) (by omega)]
        exact ⟨fun q => (by rw [hI] at q; cases q), fun _ => rfl⟩
      · obtain ⟨b, b1, b2, b3⟩ := find_w hW hC hn (gw_lt h (show k ≤ j by omega))
        rw [if_neg e, bind_s (code_c hT h (show k ≤ j by omega)), bind_s b1]
        cases g : hs nw wd a (gw tx a k) with
        | false =>
          rw [if_pos (b3 g), lt, nI_1]
          exact ih (k + 1) (by omega) (by omega) (by rw [al, hI, g]; rfl)
        | true =>
          rw [if_neg (b2 g)]
          refine ⟨fun _ => rfl, fun q => ?_⟩
          have := al_iff.mp q k (by omega)
          rw [g] at this
          cases this
  have h9 := loop FU 0 (by omega) (by have := FU_big; omega) rfl
  rw [nI_0] at h9
  exact h9
/-! the reference looks whether a word is there -/
def NL (tx : Nat → Nat) (j a : Nat) (m : St) : Prop := ∀ k i, k ≤ j → i < a → m.2.1 5 (4 * k + i) = nI (97 + gw tx a k i)
theorem NL_of {tl : Nat} {tx : Nat → Nat} {j a L : Nat} {m : St} (h : TXI tl tx tl j a L) (hM : TM tx j a L m) (h3 : L = 0 ∨ a = L) (hL : TL tl tx j a) : NL tx j a m := fun k i hk hi => by
  have q := hL.2.2.2.2.1 k i hk hi
  unfold gw
  rw [show 97 + (tx (k * (a + 1) + i) - 97) = tx (k * (a + 1) + i) by omega]
  by_cases e : L = 0
  · have := TXI_0 h e
    have q2 := hM.2.2.2 0 i (Or.inr ⟨this.symm, hi⟩)
    rw [Nat.zero_mul] at q2
    rw [show k = 0 by omega, Nat.zero_mul]
    exact q2
  · have e2 := h3.resolve_left e
    subst e2
    exact hM.2.2.2 k i (by omega)
theorem there_m {nw ln : Nat} {wd : Nat → Nat → Nat} {tl : Nat} {tx : Nat → Nat} {m : St} (hW : WL nw ln wd) (hM : ML nw ln wd m) {j : Nat} (h : TL tl tx j ln) (hN : NL tx j ln m) {k : Nat} (hk : k ≤ j) : f_X8_isThere m (nI k) = some (bi (hs nw wd ln (gw tx ln k))) := by
  have hn := hW.1
  have hl := hW.2.1
  have hj := h.2.2.1
  have hg := gw_lt h hk
  have l18 : ∀ (r4 : Int32 → Int32 → Int32 → Option Int32) (b : Bool) (w : Nat), w < nw → ∀ (n i : Nat), i ≤ ln → ln - i < n → f_X8_isThere_L18 m r4 n (nI k) (bi b) (nI w) (bi (al (fun i => wd w i == gw tx ln k i) i)) (nI i) = r4 (nI k) (bi (b || al (fun i => wd w i == gw tx ln k i) ln)) (nI (w + 1)) := by
    intro r4 b w hw n
    induction n with
    | zero => intro i _ h; omega
    | succ n ih =>
      intro i hi hnn
      rw [f_X8_isThere_L18, hM.2.1, ite_leN (by omega) (by omega)]
      by_cases e : ln ≤ i
      · rw [if_pos e, show i = ln by omega]
        cases b with
        | true => rw [bi_t, if_neg (by decide), f_X8_isThere_J79, f_X8_isThere_J84, lt, nI_1, Bool.true_or, bi_t]
        | false =>
          rw [bi_f, if_pos rfl, Bool.false_or]
          cases g : al (fun i => wd w i == gw tx ln k i) ln with
          | false => rw [bi_f, if_pos rfl, f_X8_isThere_J84, lt, nI_1]
          | true => rw [bi_t, if_neg (by decide), f_X8_isThere_J79, f_X8_isThere_J84, lt, nI_1]
      · have q := ih (i + 1) (by omega) (by omega)
        rw [al] at q
        rw [if_neg e]
        cases g : al (fun i => wd w i == gw tx ln k i) i with
        | false =>
          rw [g, Bool.false_and, bi_f] at q
          rw [bi_f, if_pos rfl, f_X8_isThere_J61, f_X8_isThere_J62, lt, nI_1]
          exact q
        | true =>
          have b1 := hW.2.2.2.2.1 w hw i (by omega)
          have b2 := hg i (by omega)
          rw [g, Bool.true_and] at q
          rw [bi_t, if_neg (by decide), n4, pk_mul, pk_mul, nI_add, nI_add, ite_in (show 4 * w + i < 48 by omega) (by decide), ite_in (show 4 * k + i < 48 by omega) (by decide), nI_clamp (by omega), nI_clamp (by omega), hM.2.2 w hw i (by omega), hN k i hk (by omega), ite_eqN (by omega) (by omega)]
          by_cases e2 : wd w i = gw tx ln k i
          · rw [show (wd w i == gw tx ln k i) = true by simp [e2], bi_t] at q
            rw [if_pos (by omega), f_X8_isThere_J62, lt, nI_1]
            exact q
          · rw [show (wd w i == gw tx ln k i) = false by simp [e2], bi_f] at q
            rw [if_neg (by omega), f_X8_isThere_J61, f_X8_isThere_J62, lt, nI_1]
            exact q
  have l4 : ∀ (n w : Nat), w ≤ nw → nw - w < n → f_X8_isThere_L4 m n (nI k) (bi (an (fun v => al (fun i => wd v i == gw tx ln k i) ln) w)) (nI w) = some (bi (hs nw wd ln (gw tx ln k))) := by
    intro n
    induction n with
    | zero => intro w _ h; omega
    | succ n ih =>
      intro w hw hnn
      rw [f_X8_isThere_L4, hM.1, ite_leN (by omega) (by omega)]
      by_cases e : nw ≤ w
      · rw [if_pos e, if_pos (bi_cases _), show w = nw by omega]; rfl
      · have q := l18 (f_X8_isThere_L4 m n) (an (fun v => al (fun i => wd v i == gw tx ln k i) ln) w) w (by omega) FU 0 (by omega) (by have := FU_big; omega)
        rw [show al (fun i => wd w i == gw tx ln k i) 0 = true from rfl, bi_t, nI_0] at q
        rw [if_neg e, q]
        exact ih (w + 1) (by omega) (by omega)
  have h9 := l4 FU 0 (by omega) (by have := FU_big; omega)
  rw [show an (fun v => al (fun i => wd v i == gw tx ln k i) ln) 0 = false from rfl, bi_f, nI_0] at h9
  rw [f_X8_isThere]
  exact h9
theorem new_y {nw ln : Nat} {wd : Nat → Nat → Nat} {tl : Nat} {tx : Nat → Nat} {m : St} (hW : WL nw ln wd) (hM : ML nw ln wd m) {j a : Nat} (h : TL tl tx j a) (hN : NL tx j a m) (h6 : m.1 6 = nI a) (hn : nw = 0 ∨ a = ln) : f_X8_isNew m (nI (j + 1)) = some (bi (al (fun k => !hs nw wd a (gw tx a k)) (j + 1))) := by
  have hnw := hW.1
  have hj := h.2.2.1
  have hz : (nI nw = 0) = (nw = 0) := by rw [← nI_0]; exact nI_eq_iff (by omega) (by omega)
  have loop : ∀ (n k : Nat), k ≤ j + 1 → j + 1 - k < n → f_X8_isNew_L26 m n (nI (j + 1)) (bi (al (fun k => !hs nw wd a (gw tx a k)) k)) (nI k) = some (bi (al (fun k => !hs nw wd a (gw tx a k)) (j + 1))) := by
    intro n
    induction n with
    | zero => intro k _ h; omega
    | succ n ih =>
      intro k hk hnn
      rw [f_X8_isNew_L26, ite_leN (by omega) (by omega)]
      by_cases e : j + 1 ≤ k
      · rw [if_pos e, if_pos (bi_cases _), show k = j + 1 by omega]
      · have q := ih (k + 1) (by omega) (by omega)
        rw [al] at q
        rw [if_neg e]
        cases g : al (fun k => !hs nw wd a (gw tx a k)) k with
        | false =>
          rw [g, Bool.false_and, bi_f] at q
          rw [bi_f, if_pos rfl, f_X8_isNew_J54, f_X8_isNew_J55, lt, nI_1]
          exact q
        | true =>
          rw [g, Bool.true_and] at q
          rw [bi_t, if_neg (by decide), hM.1]
          by_cases e0 : nw = 0
          · have g2 : hs nw wd a (gw tx a k) = false := by rw [e0]; rfl
            rw [g2, Bool.not_false, bi_t] at q
            rw [if_pos (by rw [hz]; exact e0), f_X8_isNew_J50, f_X8_isNew_J55, lt, nI_1]
            exact q
          · have e1 := hn.resolve_left e0
            subst e1
            rw [if_neg (by rw [hz]; exact e0), bind_s (there_m hW hM h hN (show k ≤ j by omega))]
            cases g2 : hs nw wd a (gw tx a k) with
            | false =>
              rw [g2, Bool.not_false, bi_t] at q
              rw [bi_f, if_pos rfl, f_X8_isNew_J50, f_X8_isNew_J55, lt, nI_1]
              exact q
            | true =>
              rw [g2, Bool.not_true, bi_f] at q
              rw [bi_t, if_neg (by decide), f_X8_isNew_J54, f_X8_isNew_J55, lt, nI_1]
              exact q
  have h9 := loop FU 0 (by omega) (by have := FU_big; omega)
  rw [show al (fun k => !hs nw wd a (gw tx a k)) 0 = true from rfl, bi_t, nI_0] at h9
  have hl := hW.2.1
  have ha := h.2.1
  rw [f_X8_isNew, hM.1, h6, hM.2.1]
  by_cases e0 : nw = 0
  · rw [if_pos (by rw [hz]; exact e0), f_X8_isNew_J18, f_X8_isNew_J23]
    exact h9
  · rw [if_neg (by rw [hz]; exact e0), if_pos (by rw [hn.resolve_left e0]), f_X8_isNew_J18, f_X8_isNew_J23]
    exact h9
theorem new_n {nw ln : Nat} {wd : Nat → Nat → Nat} {m : St} (hW : WL nw ln wd) (hM : ML nw ln wd m) {j a : Nat} (hj : j ≤ 11) (ha : a ≤ 4) (h6 : m.1 6 = nI a) (h0 : nw ≠ 0) (hn : a ≠ ln) : f_X8_isNew m (nI (j + 1)) = some 0 := by
  have hnw := hW.1
  have hl := hW.2.1
  have loop : ∀ (n k : Nat), k ≤ j + 1 → j + 1 - k < n → f_X8_isNew_L26 m n (nI (j + 1)) 0 (nI k) = some 0 := by
    intro n
    induction n with
    | zero => intro k _ h; omega
    | succ n ih =>
      intro k hk hnn
      rw [f_X8_isNew_L26, ite_leN (by omega) (by omega)]
      by_cases e : j + 1 ≤ k
      · rw [if_pos e, if_pos (Or.inl rfl)]
      · rw [if_neg e, if_pos rfl, f_X8_isNew_J54, f_X8_isNew_J55, lt, nI_1]
        exact ih (k + 1) (by omega) (by omega)
  have h9 := loop FU 0 (by omega) (by have := FU_big; omega)
  rw [nI_0] at h9
  rw [f_X8_isNew, hM.1, h6, hM.2.1, if_neg (by rw [← nI_0, nI_eq_iff (by omega) (by omega)]; exact h0), ite_eqN (by omega) (by omega), if_neg hn, f_X8_isNew_J23]
  exact h9
end
