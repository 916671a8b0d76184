/-! numbers and states: plain facts -/
theorem inb_nI {k n : Nat} (h : k < 2 ^ 31) : inb (nI k) n = decide (k < n) := by
  unfold inb
  rw [nI_toInt h]
  by_cases c : k < n
  · rw [decide_eq_true c]; exact decide_eq_true ⟨by omega, by omega⟩
  · rw [decide_eq_false c]; exact decide_eq_false (by omega)
theorem inb_t {k n : Nat} (h : k < n) (hn : n < 2 ^ 31) : inb (nI k) n = true := by
  rw [inb_nI (by omega)]; exact decide_eq_true h
theorem ite_in {α : Type} {k n : Nat} {a b : α} (h : k < n) (hn : n < 2 ^ 31) : (if inb (nI k) n = true then a else b) = a := if_pos (inb_t h hn)
theorem sI_I (st : St) (k : Nat) (v : Int32) (j : Nat) : (sI st k v).1 j = if j = k then v else st.1 j := rfl
theorem sI_A (st : St) (k : Nat) (v : Int32) : (sI st k v).2 = st.2 := rfl
theorem sA_I (st : St) (c i : Nat) (v : Int32) : (sA st c i v).1 = st.1 := rfl
theorem sA_A (st : St) (c i : Nat) (v : Int32) (j : Nat) : (sA st c i v).2.1 j = if j = c then upd (st.2.1 c) i v else st.2.1 j := rfl
theorem sA_J (st : St) (c i : Nat) (v : Int32) : (sA st c i v).2.2 = st.2.2 := rfl
theorem sJ_I (st : St) (i : Nat) (v : Int64) : (sJ st i v).1 = st.1 := rfl
theorem sJ_A (st : St) (i : Nat) (v : Int64) : (sJ st i v).2.1 = st.2.1 := rfl
theorem sJ_L (st : St) (i : Nat) (v : Int64) : (sJ st i v).2.2.2 = st.2.2.2 := rfl
theorem sJ_J (st : St) (i : Nat) (v : Int64) (j : Nat) : (sJ st i v).2.2.1 j = if j = i then v else st.2.2.1 j := rfl
theorem upd_at (f : Nat → Int32) (k : Nat) (x : Int32) (j : Nat) : upd f k x j = if j = k then x else f j := rfl
theorem fu_s (k : Nat) (h : k ≤ 1000000) : ∃ n, FU = n + k := ⟨FU - k, by have := FU_big; omega⟩
theorem bind_s {α β : Type} {o : Option α} {a : α} {f : α → Option β} (h : o = some a) : o.bind f = f a := by rw [h]; rfl
theorem nI_le_iff {a b : Nat} (ha : a < 2 ^ 31) (hb : b < 2 ^ 31) : (nI a ≤ nI b) = (a ≤ b) := propext (nI_leI ha hb)
theorem nI_lt_iff {a b : Nat} (ha : a < 2 ^ 31) (hb : b < 2 ^ 31) : (nI a < nI b) = (a < b) := propext (nI_ltI ha hb)
theorem nI_eq_iff {a b : Nat} (ha : a < 2 ^ 31) (hb : b < 2 ^ 31) : (nI a = nI b) = (a = b) := propext (nI_eq ha hb)
theorem i32_le (a b : Int32) : (a ≤ b) = (a.toInt ≤ b.toInt) := propext Int32.le_iff_toInt_le
theorem i32_lt (a b : Int32) : (a < b) = (a.toInt < b.toInt) := propext Int32.lt_iff_toInt_lt
theorem i32_eq (a b : Int32) : (a = b) = (a.toInt = b.toInt) := propext Int32.toInt_inj.symm
/-- an index below n, or not -/
theorem idx_cases (x : Int32) {n : Nat} (hn : n < 2 ^ 31) : (∃ k, k < n ∧ x = nI k) ∨ (x.toInt < 0 ∨ (n : Int) ≤ x.toInt) := by
  rcases pk_ix x hn with h | h | h
  · exact Or.inr (Or.inl (by rw [i32_lt] at h; exact h))
  · exact Or.inr (Or.inr (by rw [i32_le, nI_toInt hn] at h; exact h))
  · exact Or.inl h
theorem within_t {a lo hi : Int32} (h : ¬ a < lo) (h2 : ¬ hi < a) : f_X8_within a lo hi = some 1 := by
  unfold f_X8_within
  rw [if_neg h, if_neg h2]
theorem within_f {a lo hi : Int32} (h : a < lo ∨ hi < a) : f_X8_within a lo hi = some 0 := by
  unfold f_X8_within f_X8_within_J14
  by_cases h1 : a < lo
  · rw [if_pos h1]
  · rw [if_neg h1, if_pos (h.resolve_left h1)]
/-- a number below n, by within -/
theorem within_n (x : Int32) {n : Nat} (hn : n < 2 ^ 30) : (∃ k, k < n ∧ x = nI k ∧ f_X8_within x 0 (nI n - 1) = some 1) ∨ ((x.toInt < 0 ∨ (n : Int) ≤ x.toInt) ∧ f_X8_within x 0 (nI n - 1) = some 0) := by
  have e1 : (nI n - 1).toInt = (n : Int) - 1 := pk_sub_toInt (a := n) (b := 1) hn (by decide)
  have e0 : (0 : Int32).toInt = 0 := rfl
  rcases idx_cases x (show n < 2 ^ 31 by omega) with ⟨k, hk, hx⟩ | h
  · refine Or.inl ⟨k, hk, hx, within_t ?_ ?_⟩
    · rw [i32_lt, hx, nI_toInt (by omega), e0]; omega
    · rw [i32_lt, hx, nI_toInt (by omega), e1]; omega
  · refine Or.inr ⟨h, within_f ?_⟩
    rw [i32_lt, i32_lt, e0, e1]
    omega
theorem shamt : ∀ k, k < 32 → (((nI k) &&& 31).toBitVec.smod 32).toNat = k := by decide
theorem shr_nI {n k : Nat} (h : n < 2 ^ 31) (hk : k < 32) : nI n >>> (nI k &&& 31) = nI (n / 2 ^ k) := pk_shrN h _ k (shamt k hk)
theorem shl_nI {n k : Nat} (hk : k < 32) (h : n * 2 ^ k < 2 ^ 32) : nI n <<< (nI k &&& 31) = nI (n * 2 ^ k) := pk_shlN _ k (shamt k hk) h
theorem and_nI {n : Nat} (h : n < 2 ^ 32) (k : Nat) {m : Int32} (hm : m.toBitVec.toNat = 2 ^ k - 1) : nI n &&& m = nI (n % 2 ^ k) := pk_andN h k hm
theorem and15 {n : Nat} (h : n < 16) : nI n &&& 15 = nI n := by
  rw [and_nI (by omega) 4 (by decide), Nat.mod_eq_of_lt (by omega)]
theorem or_nI (a b : Nat) : nI a ||| nI b = nI (a ||| b) := by
  apply Int32.toBitVec_inj.mp
  show (BitVec.ofNat 32 a ||| BitVec.ofNat 32 b) = BitVec.ofNat 32 (a ||| b)
  rw [BitVec.ofNat_or]
