section
/-! a word comes into the list -/
theorem cd_less {a i : Nat} {f g : Nat → Nat} (hi : i < a) (hg : ∀ q, q < a → g q < 32) (he : ∀ q, q < i → g q = f q) (hl : g i < f i) : cd a g < cd a f := by
  have e1 : nb 32 a g = (nb 32 i f * 32 + g i) * 32 ^ (a - (i + 1)) + nb 32 (a - (i + 1)) (fun q => g (i + 1 + q)) := by
    have q := nb_split (B := 32) (d := i + 1) (f := g) (a - (i + 1))
    rw [show i + 1 + (a - (i + 1)) = a by omega, nb, nb_congr he] at q
    exact q
  have e2 : nb 32 a f = (nb 32 i f * 32 + f i) * 32 ^ (a - (i + 1)) + nb 32 (a - (i + 1)) (fun q => f (i + 1 + q)) := by
    have q := nb_split (B := 32) (d := i + 1) (f := f) (a - (i + 1))
    rw [show i + 1 + (a - (i + 1)) = a by omega, nb] at q
    exact q
  rw [cd_nb, cd_nb, e1, e2]
  have h1 := nb_lt (B := 32) (n := a - (i + 1)) (f := fun q => g (i + 1 + q)) (fun q hq => hg _ (by omega))
  have h2 : (nb 32 i f * 32 + g i + 1) * 32 ^ (a - (i + 1)) ≤ (nb 32 i f * 32 + f i) * 32 ^ (a - (i + 1)) := Nat.mul_le_mul_right _ (by omega)
  rw [Nat.succ_mul] at h2
  omega
theorem ahead_m {st : St} {a k w : Nat} {f g : Nat → Nat} (ha : a ≤ 4) (h0 : st.1 0 = nI a) (hk : k < 12) (hw : w < 12) (hg : ∀ i, i < a → g i < 26 ∧ st.2.1 5 (4 * k + i) = nI (97 + g i)) (hf : ∀ i, i < a → f i < 26 ∧ st.2.1 1 (4 * w + i) = nI (97 + f i)) : f_X8_isAhead st (nI k) (nI w) = some (bi (decide (cd a g < cd a f))) := by
  have loop : ∀ (n i : Nat), i ≤ a → a - i < n → (∀ q, q < i → g q = f q) → f_X8_isAhead_L2 st n (nI k) (nI w) (nI i) = some (bi (decide (cd a g < cd a f))) := by
    intro n
    induction n with
    | zero => intro i _ h; omega
    | succ n ih =>
      intro i hi hnn hI
      rw [f_X8_isAhead_L2, h0, ite_leN (by omega) (by omega)]
      by_cases e : a ≤ i
      · have : cd a g = cd a f := by
          rw [cd_nb, cd_nb]
          exact nb_congr (fun q hq => hI q (by omega))
        rw [if_pos e, this, decide_eq_false (Nat.lt_irrefl _)]; rfl
      · obtain ⟨g1, g2⟩ := hg i (by omega)
        obtain ⟨f1, f2⟩ := hf i (by omega)
        have ht : (nI (97 + g i) - nI (97 + f i)).toInt = ((97 + g i : Nat) : Int) - ((97 + f i : Nat) : Int) := pk_sub_toInt (by omega) (by omega)
        rw [if_neg e, n4, pk_mul, pk_mul, nI_add, nI_add, ite_in (show 4 * k + i < 48 by omega) (by decide), ite_in (show 4 * w + i < 48 by omega) (by decide), nI_clamp (by omega), nI_clamp (by omega), g2, f2, lt]
        by_cases e2 : g i = f i
        · rw [if_pos (by rw [i32_eq, ht, i0]; omega), lt, nI_1]
          exact ih (i + 1) (by omega) (by omega) (fun q hq => by
            by_cases e3 : q = i
            · rw [e3]; exact e2
            · exact hI q (by omega))
        · rw [if_neg (by rw [i32_eq, ht, i0]; omega)]
          by_cases e4 : g i < f i
          · rw [if_neg (by rw [i32_le, ht, i0]; omega), decide_eq_true (cd_less (by omega) (fun q hq => by have := (hg q hq).1; omega) hI e4)]; rfl
          · have e5 := cd_less (a := a) (i := i) (f := g) (g := f) (by omega) (fun q hq => by have := (hf q hq).1; omega) (fun q hq => (hI q hq).symm) (by omega)
            rw [if_pos (by rw [i32_le, ht, i0]; omega), decide_eq_false (by omega)]; rfl
  have h9 := loop FU 0 (by omega) (by have := FU_big; omega) (fun q hq => by omega)
  rw [nI_0] at h9
  rw [f_X8_isAhead]
  exact h9
def ins {α : Type} (f : Nat → α) (g : α) (p w : Nat) : α := if w < p then f w else if w = p then g else f (w - 1)
theorem ins_lt {α : Type} {f : Nat → α} {g : α} {p w : Nat} (h : w < p) : ins f g p w = f w := if_pos h
theorem ins_eq {α : Type} {f : Nat → α} {g : α} {p : Nat} : ins f g p p = g := by unfold ins; rw [if_neg (Nat.lt_irrefl _), if_pos rfl]
theorem ins_gt {α : Type} {f : Nat → α} {g : α} {p w : Nat} (h : p < w) : ins f g p w = f (w - 1) := by unfold ins; rw [if_neg (by omega), if_neg (by omega)]
theorem ins_all {α : Type} {P : α → Prop} {f : Nat → α} {g : α} {p N : Nat} (hp : p ≤ N) (hf : ∀ w, w < N → P (f w)) (hg : P g) : ∀ w, w < N + 1 → P (ins f g p w) := fun w hw => by
  rcases Nat.lt_trichotomy w p with h | h | h
  · rw [ins_lt h]; exact hf w (by omega)
  · rw [h, ins_eq]; exact hg
  · rw [ins_gt h]; exact hf (w - 1) (by omega)
theorem pos_ex {n a : Nat} {f : Nat → Nat → Nat} {g : Nat → Nat} (hs : ∀ v w, v < w → w < n → cd a (f v) < cd a (f w)) (hne : ∀ w, w < n → cd a (f w) ≠ cd a g) : ∃ p, p ≤ n ∧ (∀ w, w < p → cd a (f w) < cd a g) ∧ (∀ w, p ≤ w → w < n → cd a g < cd a (f w)) := by
  refine ⟨fs (fun w => decide (cd a g < cd a (f w))) n, fs_le _ _, fun w hw => ?_, fun w hw hw2 => ?_⟩
  · have h1 := fs_le (fun w => decide (cd a g < cd a (f w))) n
    have h2 := of_decide_eq_false (fs_min _ hw)
    have h3 := hne w (by omega)
    omega
  · have h2 := of_decide_eq_true (fs_yes (fun w => decide (cd a g < cd a (f w))) (show fs _ n < n by omega))
    rcases Nat.eq_or_lt_of_le hw with e | e
    · rw [← e]; exact h2
    · have := hs _ _ e hw2
      omega
theorem ins_srt {n a p : Nat} {f : Nat → Nat → Nat} {g : Nat → Nat} (hs : ∀ v w, v < w → w < n → cd a (f v) < cd a (f w)) (hp : p ≤ n) (h1 : ∀ w, w < p → cd a (f w) < cd a g) (h2 : ∀ w, p ≤ w → w < n → cd a g < cd a (f w)) : ∀ v w, v < w → w < n + 1 → cd a (ins f g p v) < cd a (ins f g p w) := fun v w hvw hw => by
  rcases Nat.lt_trichotomy w p with e | e | e
  · rw [ins_lt e, ins_lt (show v < p by omega)]; exact hs v w hvw (by omega)
  · subst e
    rw [ins_eq, ins_lt hvw]; exact h1 v hvw
  · rw [ins_gt e]
    rcases Nat.lt_trichotomy v p with e2 | e2 | e2
    · rw [ins_lt e2]
      rcases Nat.lt_or_ge v (w - 1) with e3 | e3
      · exact hs v (w - 1) e3 (by omega)
      · omega
    · rw [e2, ins_eq]; exact h2 (w - 1) (by omega) (by omega)
    · rw [ins_gt e2]; exact hs (v - 1) (w - 1) (by omega) (by omega)
theorem nI_dec {t : Nat} (h : 0 < t) : nI t + (-1) = nI (t - 1) := by
  have e : nI t = nI (t - 1) + 1 := by rw [nI_1, show t - 1 + 1 = t by omega]
  rw [e, Int32.add_assoc, show (1 : Int32) + -1 = 0 by decide, Int32.add_zero]
theorem le0_nI {t : Nat} (h : t < 2 ^ 31) : (nI t ≤ 0) = (t = 0) := by
  rw [← nI_0, nI_le_iff h (by decide)]
  exact propext ⟨fun q => by omega, fun q => by omega⟩
theorem insert_c {N a p G : Nat} {F : Nat → Nat} {c : St} (hN : N < 12) (h5 : c.1 5 = nI N) (hF : ∀ w, w < N → c.2.1 12 w = nI (F w) ∧ F w < 2 ^ 20) (hG : G < 2 ^ 20) (hp : p ≤ N) (h1 : ∀ w, w < p → F w < G) (h2 : ∀ w, p ≤ w → w < N → G < F w) : ∃ c', f_X6_insert c (nI G) (nI a) = some c' ∧ c'.1 5 = nI (N + 1) ∧ c'.1 6 = nI a ∧ (∀ j, j ≠ 5 → j ≠ 6 → c'.1 j = c.1 j) ∧ c'.2.2 = c.2.2 ∧ (∀ j, j ≠ 12 → j ≠ 13 → c'.2.1 j = c.2.1 j) ∧ ∀ w, w < N + 1 → c'.2.1 12 w = ins (c.2.1 12) (nI G) p w ∧ c'.2.1 13 w = ins (c.2.1 13) 1 p w := by
  have loop : ∀ (n t : Nat) (st : St), p ≤ t → t ≤ N → t < n → st.1 = c.1 → st.2.2 = c.2.2 → (∀ j, j ≠ 12 → j ≠ 13 → st.2.1 j = c.2.1 j) → (∀ w, w < t → st.2.1 12 w = c.2.1 12 w ∧ st.2.1 13 w = c.2.1 13 w) → (∀ w, t < w → w ≤ N → st.2.1 12 w = c.2.1 12 (w - 1) ∧ st.2.1 13 w = c.2.1 13 (w - 1)) → ∃ c', f_X6_insert_L15 n st (nI G) (nI a) (nI t) = some c' ∧ c'.1 5 = nI (N + 1) ∧ c'.1 6 = nI a ∧ (∀ j, j ≠ 5 → j ≠ 6 → c'.1 j = c.1 j) ∧ c'.2.2 = c.2.2 ∧ (∀ j, j ≠ 12 → j ≠ 13 → c'.2.1 j = c.2.1 j) ∧ ∀ w, w < N + 1 → c'.2.1 12 w = ins (c.2.1 12) (nI G) p w ∧ c'.2.1 13 w = ins (c.2.1 13) 1 p w := by
    intro n
    induction n with
    | zero => intro t st _ _ h; omega
    | succ n ih =>
      intro t st hpt htN hnn k1 k2 k3 k4 k5
      have fin : t = p → ∃ c', f_X6_insert_J65 st (nI G) (nI a) (nI t) = some c' ∧ c'.1 5 = nI (N + 1) ∧ c'.1 6 = nI a ∧ (∀ j, j ≠ 5 → j ≠ 6 → c'.1 j = c.1 j) ∧ c'.2.2 = c.2.2 ∧ (∀ j, j ≠ 12 → j ≠ 13 → c'.2.1 j = c.2.1 j) ∧ ∀ w, w < N + 1 → c'.2.1 12 w = ins (c.2.1 12) (nI G) p w ∧ c'.2.1 13 w = ins (c.2.1 13) 1 p w := by
        intro e
        have s5 : st.1 5 = nI N := by rw [k1]; exact h5
        rw [f_X6_insert_J65, ite_in (show t < 16 by omega) (by decide), nI_clamp (by omega), lt, ite_in (show t < 16 by omega) (by decide), lt, sA_I, sA_I, s5, nI_1, lt, lt]
        refine ⟨_, rfl, ?_, ?_, fun j j5 j6 => ?_, k2, fun j j1 j2 => ?_, fun w hw => ?_⟩
        · rw [sI_I, if_neg (by decide), sI_I, if_pos rfl]
        · rw [sI_I, if_pos rfl]
        · rw [sI_I, if_neg j6, sI_I, if_neg j5, sA_I, sA_I, k1]
        · rw [sI_A, sI_A, sA_A, if_neg j2, sA_A, if_neg j1]; exact k3 j j1 j2
        · have e12 : ∀ x, (sA st 12 t x).2.1 13 = st.2.1 13 := fun x => rfl
          rw [sI_A, sI_A, sA_A, if_neg (by decide), sA_A, if_pos rfl, upd_at, sA_A, if_pos rfl, upd_at, e12]
          rcases Nat.lt_trichotomy w p with q | q | q
          · rw [if_neg (by omega), if_neg (by omega), ins_lt q, ins_lt q]
            exact k4 w (by omega)
          · rw [if_pos (by omega), if_pos (by omega), q, ins_eq, ins_eq]
            exact ⟨rfl, rfl⟩
          · rw [if_neg (by omega), if_neg (by omega), ins_gt q, ins_gt q]
            exact k5 w (by omega) (by omega)
      rw [f_X6_insert_L15]
      by_cases e : t = 0
      · rw [if_pos (by rw [le0_nI (by omega)]; exact e)]
        exact fin (by omega)
      · obtain ⟨f1, f2⟩ := hF (t - 1) (by omega)
        have s1 := k4 (t - 1) (by omega)
        rw [if_neg (by rw [le0_nI (by omega)]; exact e), n1, pk_sub (by omega), ite_in (show t - 1 < 16 by omega) (by decide), nI_clamp (by omega), s1.1, f1, ite_leN (by omega) (by omega)]
        by_cases e2 : t = p
        · have := h1 (t - 1) (by omega)
          rw [if_pos (by omega)]
          exact fin e2
        · have := h2 (t - 1) (by omega) (by omega)
          have e12 : ∀ x, (sA st 12 t x).2.1 13 = st.2.1 13 := fun x => rfl
          rw [if_neg (by omega), ite_in (show t - 1 < 16 by omega) (by decide), ite_in (show t < 16 by omega) (by decide), nI_clamp (by omega), lt, ite_in (show t - 1 < 16 by omega) (by decide), ite_in (show t < 16 by omega) (by decide), e12, s1.2, lt, ← n1, nI_dec (by omega), lt]
          refine ih (t - 1) _ (by omega) (by omega) (by omega) k1 k2 (fun j j1 j2 => ?_) (fun w hw => ?_) (fun w hw hw2 => ?_)
          · rw [sA_A, if_neg j2, sA_A, if_neg j1]; exact k3 j j1 j2
          · rw [sA_A, if_neg (by decide), sA_A, if_pos rfl, upd_at, if_neg (by omega), sA_A, if_pos rfl, upd_at, if_neg (by omega), e12]
            exact k4 w (by omega)
          · rw [sA_A, if_neg (by decide), sA_A, if_pos rfl, upd_at, sA_A, if_pos rfl, upd_at, e12]
            by_cases e3 : w = t
            · rw [if_pos e3, if_pos e3, e3]
              exact ⟨f1.symm, rfl⟩
            · rw [if_neg e3, if_neg e3]
              exact k5 w (by omega) hw2
  rw [f_X6_insert, h5, show (12 : Int32) = nI 12 from rfl, ite_ltN (by omega) (by omega), if_pos hN, lt]
  exact loop FU N c hp (Nat.le_refl _) (by have := FU_big; omega) rfl rfl (fun _ _ _ => rfl) (fun _ _ => ⟨rfl, rfl⟩) (fun w h1 h2 => by omega)
theorem comes_m {N a p k : Nat} {f : Nat → Nat → Nat} {g : Nat → Nat} {m : St} (hN : N < 12) (ha : a ≤ 4) (hk : k < 12) (h1 : m.1 1 = nI N) (h0 : m.1 0 = nI a) (hf : ∀ w, w < N → ∀ i, i < a → f w i < 26 ∧ m.2.1 1 (4 * w + i) = nI (97 + f w i)) (hg : ∀ i, i < a → g i < 26 ∧ m.2.1 5 (4 * k + i) = nI (97 + g i)) (hp : p ≤ N) (hl : ∀ w, w < p → cd a (f w) < cd a g) (hr : ∀ w, p ≤ w → w < N → cd a g < cd a (f w)) : ∃ m', f_X8_comes m (nI k) = some m' ∧ m'.1 1 = nI (N + 1) ∧ (∀ j, j ≠ 1 → m'.1 j = m.1 j) ∧ m'.2.2 = m.2.2 ∧ (∀ j, j ≠ 1 → j ≠ 2 → m'.2.1 j = m.2.1 j) ∧ ∀ w, w < N + 1 → m'.2.1 2 w = ins (m.2.1 2) 1 p w ∧ ∀ i, i < 4 → m'.2.1 1 (4 * w + i) = ins (fun w => m.2.1 1 (4 * w + i)) (m.2.1 5 (4 * k + i)) p w := by
  /- the letters are written -/
  have l43 : ∀ (s0 : St) (t : Nat), t < 12 → s0.1 = m.1 → s0.2.2 = m.2.2 → (∀ j, j ≠ 1 → j ≠ 2 → s0.2.1 j = m.2.1 j) → ∀ (n i : Nat) (st : St), i ≤ 4 → 4 - i < n → st.1 = m.1 → st.2.2 = m.2.2 → (∀ j, j ≠ 1 → st.2.1 j = s0.2.1 j) → (∀ w q, q < 4 → st.2.1 1 (4 * w + q) = if w = t ∧ q < i then m.2.1 5 (4 * k + q) else s0.2.1 1 (4 * w + q)) → ∃ m', f_X8_comes_L43 n st (nI k) (nI t) (nI i) = some m' ∧ m'.1 1 = nI (N + 1) ∧ (∀ j, j ≠ 1 → m'.1 j = m.1 j) ∧ m'.2.2 = m.2.2 ∧ (∀ j, j ≠ 1 → m'.2.1 j = s0.2.1 j) ∧ ∀ w q, q < 4 → m'.2.1 1 (4 * w + q) = if w = t then m.2.1 5 (4 * k + q) else s0.2.1 1 (4 * w + q) := by
    intro s0 t ht z1 z2 z3 n
    induction n with
    | zero => intro i st _ h; omega
    | succ n ih =>
      intro i st hi hnn k1 k2 k3 k4
      rw [f_X8_comes_L43, n4, ite_leN (by omega) (by omega)]
      by_cases e : 4 ≤ i
      · rw [if_pos e, k1, h1, nI_1, lt]
        refine ⟨_, rfl, ?_, fun j hj => ?_, k2, k3, fun w q hq => ?_⟩
        · rw [sI_I, if_pos rfl]
        · rw [sI_I, if_neg hj, k1]
        · rw [sI_A, k4 w q hq]
          by_cases e2 : w = t
          · rw [if_pos ⟨e2, by omega⟩, if_pos e2]
          · rw [if_neg (fun x => e2 x.1), if_neg e2]
      · have s5 : st.2.1 5 (4 * k + i) = m.2.1 5 (4 * k + i) := by rw [k3 5 (by decide), z3 5 (by decide) (by decide)]
        rw [if_neg e, pk_mul, pk_mul, nI_add, nI_add, ite_in (show 4 * k + i < 48 by omega) (by decide), ite_in (show 4 * t + i < 48 by omega) (by decide), nI_clamp (by omega), nI_clamp (by omega), s5, lt, nI_1, lt]
        refine ih (i + 1) _ (by omega) (by omega) k1 k2 (fun j hj => ?_) (fun w q hq => ?_)
        · rw [sA_A, if_neg hj]; exact k3 j hj
        · rw [sA_A, if_pos rfl, upd_at]
          by_cases e2 : w = t ∧ q = i
          · rw [if_pos (by omega), if_pos (by omega), e2.2]
          · rw [if_neg (by omega), k4 w q hq]
            by_cases e3 : w = t ∧ q < i
            · rw [if_pos e3, if_pos (by omega)]
            · rw [if_neg e3, if_neg (by omega)]
  have loop : ∀ (n t : Nat) (st : St), p ≤ t → t ≤ N → t < n → st.1 = m.1 → st.2.2 = m.2.2 → (∀ j, j ≠ 1 → j ≠ 2 → st.2.1 j = m.2.1 j) → (∀ w, w < t → st.2.1 2 w = m.2.1 2 w ∧ ∀ i, i < 4 → st.2.1 1 (4 * w + i) = m.2.1 1 (4 * w + i)) → (∀ w, t < w → w ≤ N → st.2.1 2 w = m.2.1 2 (w - 1) ∧ ∀ i, i < 4 → st.2.1 1 (4 * w + i) = m.2.1 1 (4 * (w - 1) + i)) → ∃ m', f_X8_comes_L5 n st (nI k) (nI t) = some m' ∧ m'.1 1 = nI (N + 1) ∧ (∀ j, j ≠ 1 → m'.1 j = m.1 j) ∧ m'.2.2 = m.2.2 ∧ (∀ j, j ≠ 1 → j ≠ 2 → m'.2.1 j = m.2.1 j) ∧ ∀ w, w < N + 1 → m'.2.1 2 w = ins (m.2.1 2) 1 p w ∧ ∀ i, i < 4 → m'.2.1 1 (4 * w + i) = ins (fun w => m.2.1 1 (4 * w + i)) (m.2.1 5 (4 * k + i)) p w := by
    intro n
    induction n with
    | zero => intro t st _ _ h; omega
    | succ n ih =>
      intro t st hpt htN hnn k1 k2 k3 k4 k5
      have fin : t = p → ∃ m', f_X8_comes_J34 st (nI k) (nI t) = some m' ∧ m'.1 1 = nI (N + 1) ∧ (∀ j, j ≠ 1 → m'.1 j = m.1 j) ∧ m'.2.2 = m.2.2 ∧ (∀ j, j ≠ 1 → j ≠ 2 → m'.2.1 j = m.2.1 j) ∧ ∀ w, w < N + 1 → m'.2.1 2 w = ins (m.2.1 2) 1 p w ∧ ∀ i, i < 4 → m'.2.1 1 (4 * w + i) = ins (fun w => m.2.1 1 (4 * w + i)) (m.2.1 5 (4 * k + i)) p w := by
        intro e
        obtain ⟨m', b1, b2, b3, b4, b5, b6⟩ := l43 (sA st 2 t 1) t (by omega) k1 k2 (fun j j1 j2 => by rw [sA_A, if_neg j2]; exact k3 j j1 j2) FU 0 (sA st 2 t 1) (by omega) (by have := FU_big; omega) k1 k2 (fun _ _ => rfl) (fun w q hq => by rw [if_neg (by omega)])
        rw [nI_0] at b1
        rw [f_X8_comes_J34, ite_in (show t < 12 by omega) (by decide), nI_clamp (by omega), lt]
        refine ⟨m', b1, b2, b3, b4, fun j j1 j2 => ?_, fun w hw => ⟨?_, fun i hi => ?_⟩⟩
        · rw [b5 j j1, sA_A, if_neg j2]; exact k3 j j1 j2
        · rw [b5 2 (by decide), sA_A, if_pos rfl, upd_at]
          rcases Nat.lt_trichotomy w p with q | q | q
          · rw [if_neg (by omega), ins_lt q]; exact (k4 w (by omega)).1
          · rw [if_pos (by omega), q, ins_eq]
          · rw [if_neg (by omega), ins_gt q]; exact (k5 w (by omega) (by omega)).1
        · have e1 : (sA st 2 t 1).2.1 1 = st.2.1 1 := rfl
          rw [b6 w i hi, e1]
          rcases Nat.lt_trichotomy w p with q | q | q
          · rw [if_neg (by omega), ins_lt q]; exact (k4 w (by omega)).2 i hi
          · rw [if_pos (by omega), q, ins_eq]
          · rw [if_neg (by omega), ins_gt q]; exact (k5 w (by omega) (by omega)).2 i hi
      rw [f_X8_comes_L5]
      by_cases e : t = 0
      · rw [if_pos (by rw [le0_nI (by omega)]; exact e)]
        exact fin (by omega)
      · have s1 := k4 (t - 1) (by omega)
        have hA := ahead_m (st := st) (f := f (t - 1)) (g := g) ha (by rw [k1]; exact h0) hk (show t - 1 < 12 by omega) (fun i hi => ⟨(hg i hi).1, by rw [k3 5 (by decide) (by decide)]; exact (hg i hi).2⟩) (fun i hi => ⟨(hf (t - 1) (by omega) i hi).1, by rw [s1.2 i (by omega)]; exact (hf (t - 1) (by omega) i hi).2⟩)
        rw [if_neg (by rw [le0_nI (by omega)]; exact e), n1, pk_sub (by omega), bind_s hA]
        by_cases e2 : t = p
        · have := hl (t - 1) (by omega)
          rw [decide_eq_false (by omega), bi_f, if_pos rfl]
          exact fin e2
        · have := hr (t - 1) (by omega) (by omega)
          obtain ⟨m2, a1, a2, a3, a4, a5, a6⟩ := move_m (m := st) (a := t - 1) (b := t) (by omega) (by omega) (by omega)
          rw [decide_eq_true this, bi_t, if_neg (by decide), bind_s a1, ← n1, nI_dec (by omega), lt]
          refine ih (t - 1) m2 (by omega) (by omega) (by omega) (a2.trans k1) (a3.trans k2) (fun j j1 j2 => (a4 j j1 j2).trans (k3 j j1 j2)) (fun w hw => ⟨?_, fun i hi => ?_⟩) (fun w hw hw2 => ⟨?_, fun i hi => ?_⟩)
          · rw [a5, if_neg (by omega)]; exact (k4 w (by omega)).1
          · rw [a6 w i hi, if_neg (by omega)]; exact (k4 w (by omega)).2 i hi
          · rw [a5]
            by_cases e3 : w = t
            · rw [if_pos e3, e3]; exact s1.1
            · rw [if_neg e3]; exact (k5 w (by omega) hw2).1
          · rw [a6 w i hi]
            by_cases e3 : w = t
            · rw [if_pos e3, e3]; exact s1.2 i hi
            · rw [if_neg e3]; exact (k5 w (by omega) hw2).2 i hi
  rw [f_X8_comes, h1, lt]
  exact loop FU N m hp (Nat.le_refl _) (by have := FU_big; omega) rfl rfl (fun _ _ _ => rfl) (fun _ _ => ⟨rfl, fun _ _ => rfl⟩) (fun w h1 h2 => by omega)
end
