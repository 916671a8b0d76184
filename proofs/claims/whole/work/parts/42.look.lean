section
/-! the board of the class -/
theorem and_nn (a b : Nat) : nI a &&& nI b = nI (a &&& b) := by
  apply Int32.toBitVec_inj.mp
  show (BitVec.ofNat 32 a &&& BitVec.ofNat 32 b) = BitVec.ofNat 32 (a &&& b)
  rw [BitVec.ofNat_and]
theorem and_dig {k a b d e : Nat} (hd : d < 2 ^ k) (he : e < 2 ^ k) : (2 ^ k * a + d) &&& (2 ^ k * b + e) = 2 ^ k * (a &&& b) + (d &&& e) := by
  have hde : d &&& e < 2 ^ k := Nat.lt_of_le_of_lt Nat.and_le_left hd
  apply Nat.eq_of_testBit_eq
  intro i
  rw [Nat.testBit_and, Nat.testBit_two_pow_mul_add _ hd, Nat.testBit_two_pow_mul_add _ he, Nat.testBit_two_pow_mul_add _ hde]
  by_cases h : i < k
  · rw [if_pos h, if_pos h, if_pos h, Nat.testBit_and]
  · rw [if_neg h, if_neg h, if_neg h, Nat.testBit_and]
theorem pkd_and {f g : Nat → Nat} : ∀ {n : Nat}, (∀ i, i < n → f i < 16) → (∀ i, i < n → g i < 16) → pkd n f &&& pkd n g = pkd n (fun i => f i &&& g i)
  | 0, _, _ => by simp [pkd]
  | n + 1, hf, hg => by
    rw [pkd, pkd, pkd, ← pkd_and (n := n) (fun i hi => hf i (by omega)) (fun i hi => hg i (by omega))]
    have := and_dig (k := 4) (a := pkd n f) (b := pkd n g) (hf n (by omega)) (hg n (by omega))
    rw [show (2 : Nat) ^ 4 = 16 by decide] at this
    rw [Nat.mul_comm (pkd n f), Nat.mul_comm (pkd n g), this, Nat.mul_comm]
theorem shl4 {a l : Nat} (ha : a < 2 ^ 12) (hl : l < 16) : (nI a <<< (4 &&& 31)) ||| nI l = nI (a * 16 + l) := by
  rw [n4, shl_nI (by omega) (by omega), or_nI]
  congr 1
  have h := Nat.two_pow_add_eq_or_of_lt (i := 4) (b := l) (by omega) a
  rw [Nat.mul_comm a]
  exact h.symm
theorem fill_c {st : St} {q n : Nat} {v : Int32} (hn : n ≤ 512) : ∃ g : Nat → Int32, f_J7_fill_53178 st q n v = some (sR st q g) ∧ ∀ i, i < n → g i = v := by
  have loop : ∀ (fu k : Nat) (g : Nat → Int32), k ≤ n → n - k < fu → (∀ i, i < k → g i = v) → ∃ g2 : Nat → Int32, f_J7_fill_53178_L5 q n fu (sR st q g) v (nI k) (nI n) = some (sR st q g2) ∧ ∀ i, i < n → g2 i = v := by
    intro fu
    induction fu with
    | zero => intro k g _ h; omega
    | succ fu ih =>
      intro k g hk hf hg
      rw [f_J7_fill_53178_L5, ite_leN (by omega) (by omega)]
      by_cases e : n ≤ k
      · rw [if_pos e]
        exact ⟨g, rfl, fun i hi => hg i (by omega)⟩
      · rw [if_neg e, ite_in (show k < n by omega) (by omega), nI_clamp (by omega), lt, lt, sA_sR, sR_sR, nI_1]
        have eq : (sR st q g).2.1 q = g := by rw [sR_A, if_pos rfl]
        rw [eq]
        refine ih (k + 1) _ (by omega) (by omega) (fun i hi => ?_)
        rw [upd_at]
        by_cases e2 : i = k
        · rw [if_pos e2]
        · rw [if_neg e2]; exact hg i (by omega)
  have h9 := loop FU 0 (st.2.1 q) (by omega) (by have := FU_big; omega) (fun i hi => by omega)
  rw [sR_id, nI_0] at h9
  rw [f_J7_fill_53178, lt]
  exact h9
/-- the board after a look -/
def lkb (c : St) (g : Nat → Int32) (v : Int32) : St := sI (sR c 18 g) 12 v
theorem lkb_A (c : St) (g : Nat → Int32) (v : Int32) (i : Nat) (w : Int32) : sA (lkb c g v) 18 i w = lkb c (upd g i w) v := by
  have e : (lkb c g v).2.1 18 = g := by show (sR c 18 g).2.1 18 = g; rw [sR_A, if_pos rfl]
  show ((lkb c g v).1, va_up (lkb c g v).2.1 18 (upd ((lkb c g v).2.1 18) i w), (lkb c g v).2.2) = _
  rw [e]
  show ((sI (sR c 18 g) 12 v).1, va_up (sR c 18 g).2.1 18 (upd g i w), (sR c 18 g).2.2) = ((sI (sR c 18 (upd g i w)) 12 v).1, (sR c 18 (upd g i w)).2.1, _)
  have : va_up (sR c 18 g).2.1 18 (upd g i w) = (sR c 18 (upd g i w)).2.1 := by
    funext j
    unfold sR va_up
    by_cases e : j = 18 <;> simp [e]
  rw [this]
  rfl
theorem lkb_I (c : St) (g : Nat → Int32) (v w : Int32) : sI (lkb c g v) 12 w = lkb c g w := by
  unfold lkb sI
  have : va_up (va_up (sR c 18 g).1 12 v) 12 w = va_up (sR c 18 g).1 12 w := by
    funext j
    unfold va_up
    by_cases e : j = 12 <;> simp [e]
  rw [this]
theorem lkb_18 (c : St) (g : Nat → Int32) (v : Int32) : (lkb c g v).2.1 18 = g := by show (sR c 18 g).2.1 18 = g; rw [sR_A, if_pos rfl]
theorem lkb_12 (c : St) (g : Nat → Int32) (v : Int32) : (lkb c g v).1 12 = v := by unfold lkb; rw [sI_I, if_pos rfl]
theorem SQ_lkb {nw ln : Nat} {wd : Nat → Nat → Nat} {c : St} {g : Nat → Int32} {v : Int32} (h : SQ nw ln wd c 0 (NN nw ln)) : SQ nw ln wd (lkb c g v) 0 (NN nw ln) := h
theorem add_c {nw ln : Nat} {wd : Nat → Nat → Nat} {c : St} (hW : WL nw ln wd) (h0 : 0 < nw) {F : Nat → Bool} {v : Int32} {x : Nat} (hFx : F x = true) {g : Nat → Int32} (hg : ∀ r, r < ln → g r = mk F (fun x => dg nw ln x r) x) : ∃ g2 : Nat → Int32, f_X0_addRows (lkb c g v) (nI (pkd ln (dg nw ln x))) (nI ln) = some (lkb c g2 v) ∧ ∀ r, r < ln → g2 r = mk F (fun x => dg nw ln x r) (x + 1) := by
  have hl := hW.2.1
  have loop : ∀ (n k : Nat) (g : Nat → Int32), k ≤ ln → ln - k < n → (∀ r, r < ln → g r = mk F (fun x => dg nw ln x r) (if r < k then x + 1 else x)) → ∃ g2 : Nat → Int32, f_X0_addRows_L2 n (lkb c g v) (nI (pkd ln (dg nw ln x))) (nI ln) (nI k) = some (lkb c g2 v) ∧ ∀ r, r < ln → g2 r = mk F (fun x => dg nw ln x r) (x + 1) := by
    intro n
    induction n with
    | zero => intro k g _ h; omega
    | succ n ih =>
      intro k g hk hnn hg
      rw [f_X0_addRows_L2, ite_leN (by omega) (by omega)]
      by_cases e : ln ≤ k
      · rw [if_pos e]
        exact ⟨g, rfl, fun r hr => by have := hg r hr; rw [if_pos (by omega)] at this; exact this⟩
      · rw [if_neg e, n4, ite_leN (by omega) (by omega), if_neg (by omega), ite_in (show k < 4 by omega) (by decide), pw_c hl (dg16 hW h0 x) (by omega)]
        simp only [Option.bind_some]
        have hk18 := hg k (by omega)
        rw [if_neg (by omega)] at hk18
        rw [ite_in (show k < 4 by omega) (by decide), nI_clamp (by omega), lkb_18, lkb_A, lt, lt, nI_1]
        refine ih (k + 1) _ (by omega) (by omega) (fun r hr => ?_)
        rw [upd_at]
        by_cases e2 : r = k
        · rw [if_pos e2, if_pos (show r < k + 1 by omega), mk, if_pos hFx, e2, hk18]
        · rw [if_neg e2, hg r hr]
          by_cases e3 : r < k
          · rw [if_pos e3, if_pos (by omega)]
          · rw [if_neg e3, if_neg (by omega)]
  have h9 := loop FU 0 g (by omega) (by have := FU_big; omega) (fun r hr => by rw [if_neg (by omega)]; exact hg r hr)
  rw [nI_0] at h9
  rw [f_X0_addRows]
  exact h9
/-- the mask and what is wanted, row by row -/
def mki (bd : Nat → Int32) (r : Nat) : Nat := if bd r = -1 then 0 else 15
def wan (bd : Nat → Int32) (r : Nat) : Nat := if bd r = -1 then 0 else (bd r).toNatClampNeg
theorem wan_s {nw ln : Nat} {bd : Nat → Int32} (hn : nw ≤ 12) (hB : ∀ r, r < 4 → bd r = -1 ∨ (r < ln ∧ ∃ w, w < nw ∧ bd r = nI w)) {r : Nat} (hr : r < 4) : wan bd r < 16 ∧ (¬ (bd r = -1) → bd r = nI (wan bd r)) := by
  unfold wan
  by_cases e : bd r = -1
  · rw [if_pos e]; exact ⟨by decide, fun h => absurd e h⟩
  · rw [if_neg e]
    obtain ⟨-, w, hw, h⟩ := (hB r hr).resolve_left e
    rw [h, nI_clamp (by omega)]
    exact ⟨by omega, fun _ => rfl⟩
theorem ft_and {nw ln : Nat} {wd : Nat → Nat → Nat} {bd : Nat → Int32} (hW : WL nw ln wd) (h0 : 0 < nw) (hB : ∀ r, r < 4 → bd r = -1 ∨ (r < ln ∧ ∃ w, w < nw ∧ bd r = nI w)) {x : Nat} (hP : P0 nw ln wd x = true) : (pkd ln (dg nw ln x) &&& pkd ln (mki bd) = pkd ln (wan bd)) ↔ FT nw ln wd bd x = true := by
  have hl := hW.2.1
  have hn := hW.1
  have h1 : ∀ i, i < ln → mki bd i < 16 := fun i _ => by unfold mki; split <;> decide
  have h2 : ∀ i, i < ln → wan bd i < 16 := fun i hi => (wan_s hn hB (by omega)).1
  have hd1 := dg16 hW h0 x
  have h3 : ∀ i, i < ln → dg nw ln x i &&& mki bd i < 16 := fun i hi => Nat.lt_of_le_of_lt Nat.and_le_left (hd1 i hi)
  have key : ∀ i, i < ln → ((dg nw ln x i &&& mki bd i = wan bd i) ↔ (decide (bd i = -1) || decide (bd i = nI (dg nw ln x i))) = true) := fun i hi => by
    have hb : dg nw ln x i < nw := dg_lt h0
    by_cases e : bd i = -1
    · unfold mki wan; rw [if_pos e, if_pos e, decide_eq_true e]; simp
    · have hw := wan_s hn hB (show i < 4 by omega)
      have h15 : dg nw ln x i &&& 15 = dg nw ln x i := by
        rw [show (15 : Nat) = 2 ^ 4 - 1 by decide, Nat.and_two_pow_sub_one_eq_mod, Nat.mod_eq_of_lt (hd1 i hi)]
      rw [decide_eq_false e, Bool.false_or, decide_eq_true_eq]
      have e5 : mki bd i = 15 := by unfold mki; rw [if_neg e]
      rw [e5, h15, hw.2 e, nI_eq_iff (by omega) (by omega)]
      exact ⟨fun h => h.symm, fun h => h.symm⟩
  rw [pkd_and hd1 h1, FT, hP, Bool.true_and, al_iff]
  constructor
  · intro h i hi
    rw [pkd_nb, pkd_nb] at h
    exact (key i hi).mp (nb_inj h3 h2 h i hi)
  · intro h
    rw [pkd_nb, pkd_nb]
    exact nb_congr (fun i hi => (key i hi).mpr (h i hi))
theorem look_c {nw ln : Nat} {wd : Nat → Nat → Nat} {bd : Nat → Int32} {c : St} (hW : WL nw ln wd) (hS : SQ nw ln wd c 0 (NN nw ln)) (hP : RP c) (hbd : ∀ r, r < 4 → c.2.1 17 r = bd r) (hB : ∀ r, r < 4 → bd r = -1 ∨ (r < ln ∧ ∃ w, w < nw ∧ bd r = nI w)) : ∃ g : Nat → Int32, f_X0_look c 0 (nI ln) = some (lkb c g (nI (ct (FT nw ln wd bd) (NN nw ln)))) ∧ ∀ r, r < ln → g r = mk (FT nw ln wd bd) (fun x => dg nw ln x r) (NN nw ln) := by
  have hl := hW.2.1
  have hn := hW.1
  have hN := NN_le hW
  have hc := ct_le (PK nw ln wd 0) (NN nw ln)
  have hm16 : ∀ i, mki bd i < 16 := fun i => by unfold mki; split <;> decide
  have hw16 : ∀ i, i < 4 → wan bd i < 16 := fun i hi => (wan_s hn hB hi).1
  have l99 : ∀ (d x n : Nat) (g : Nat → Int32), x + d = NN nw ln → ct (PK nw ln wd 0) (NN nw ln) - ct (PK nw ln wd 0) x < n → (∀ r, r < ln → g r = mk (FT nw ln wd bd) (fun x => dg nw ln x r) x) → ∃ g2 : Nat → Int32, f_X0_look_L99 n (lkb c g (nI (ct (FT nw ln wd bd) x))) 0 (nI ln) (nI (pkd ln (mki bd))) (nI (pkd ln (wan bd))) (nI (ct (PK nw ln wd 0) x)) = some (lkb c g2 (nI (ct (FT nw ln wd bd) (NN nw ln)))) ∧ ∀ r, r < ln → g2 r = mk (FT nw ln wd bd) (fun x => dg nw ln x r) (NN nw ln) := by
    intro d
    induction d with
    | zero =>
      intro x n g hx hnn hg
      obtain ⟨n', rfl⟩ : ∃ n', n = n' + 1 := ⟨n - 1, by omega⟩
      have e : x = NN nw ln := by omega
      subst e
      have hs : (lkb c g (nI (ct (FT nw ln wd bd) (NN nw ln)))).1 (13 + 0) = nI (ct (PK nw ln wd 0) (NN nw ln)) := hS.1
      rw [f_X0_look_L99]
      simp only [f_X4_size, Option.bind_some, hs]
      rw [ite_leN (by omega) (by omega), if_pos (Nat.le_refl _)]
      exact ⟨g, rfl, hg⟩
    | succ d ih =>
      intro x n g hx hnn hg
      have hx2 : x < NN nw ln := by omega
      have h0 := nz_of hx2
      cases hp : PK nw ln wd 0 x with
      | false =>
        have hF : FT nw ln wd bd x = false := by unfold FT; rw [PK0] at hp; rw [hp]; rfl
        have ih1 := ih (x + 1) n g (by omega) (by rw [ct, hp]; simpa using hnn) (fun r hr => by rw [mk, hF]; exact hg r hr)
        rw [ct, ct, hp, hF] at ih1
        exact ih1
      | true =>
        have h1 := ct_lt hx2 hp
        have hct : ct (PK nw ln wd 0) (x + 1) = ct (PK nw ln wd 0) x + 1 := by rw [ct, hp]; rfl
        obtain ⟨n', rfl⟩ : ∃ n', n = n' + 1 := ⟨n - 1, by omega⟩
        have hs : (lkb c g (nI (ct (FT nw ln wd bd) x))).1 (13 + 0) = nI (ct (PK nw ln wd 0) (NN nw ln)) := hS.1
        have hP2 : RP (lkb c g (nI (ct (FT nw ln wd bd) x))) := hP
        have b1 := pkd_lt hl (dg16 hW h0 x)
        have b2 := pkd_lt hl (fun i (_ : i < ln) => hw16 i (by omega))
        rw [f_X0_look_L99]
        simp only [f_X4_size, Option.bind_some, hs]
        rw [ite_leN (by omega) (by omega), if_neg (by omega), rows_c hW (by decide) (SQ_lkb hS) hP2 hx2 hp]
        simp only [Option.bind_some]
        have b3 : pkd ln (dg nw ln x) &&& pkd ln (mki bd) ≤ pkd ln (dg nw ln x) := Nat.and_le_left
        rw [and_nn, ite_eqN (by omega) (by omega)]
        have hft := ft_and hW h0 hB (x := x) (by rw [PK0] at hp; exact hp)
        by_cases e : pkd ln (dg nw ln x) &&& pkd ln (mki bd) = pkd ln (wan bd)
        · have hF := hft.mp e
          rw [if_pos e, lt, lkb_12, nI_1, lkb_I]
          obtain ⟨g2, a1, a2⟩ := add_c (c := c) (v := nI (ct (FT nw ln wd bd) x + 1)) hW h0 hF hg
          rw [a1]
          have ih1 := ih (x + 1) n' g2 (by omega) (by omega) a2
          rw [hct, ct, hF] at ih1
          simp only [Option.bind_some, f_X0_look_J142, lt, nI_1]
          exact ih1
        · have hF : FT nw ln wd bd x = false := by
            rw [← Bool.not_eq_true]; exact fun q => e (hft.mpr q)
          have ih1 := ih (x + 1) n' g (by omega) (by omega) (fun r hr => by rw [mk, hF]; exact hg r hr)
          rw [hct, ct, hF] at ih1
          rw [if_neg e]
          simp only [f_X0_look_J142, lt, nI_1]
          exact ih1
  have l8 : ∀ (n k : Nat), k ≤ ln → ln - k < n → f_X0_look_L8 n c 0 (nI ln) (nI (pkd k (mki bd))) (nI (pkd k (wan bd))) (nI k) = f_X0_look_J83 c 0 (nI ln) (nI (pkd ln (mki bd))) (nI (pkd ln (wan bd))) := by
    intro n
    induction n with
    | zero => intro k _ h; omega
    | succ n ih =>
      intro k hk hnn
      rw [f_X0_look_L8, ite_leN (by omega) (by omega)]
      by_cases e : ln ≤ k
      · rw [if_pos e, show k = ln by omega]
      · have ih1 := ih (k + 1) (by omega) (by omega)
        have q1 : pkd k (mki bd) < 2 ^ 12 := by
          have h1 := nb_lt (B := 16) (n := k) (f := mki bd) (fun i _ => hm16 i)
          have h2 : 16 ^ k ≤ 16 ^ 3 := Nat.pow_le_pow_right (by decide) (by omega)
          rw [pkd_nb]
          have h3 : (16 : Nat) ^ 3 = 4096 := by decide
          omega
        have q2 : pkd k (wan bd) < 2 ^ 12 := by
          have h1 := nb_lt (B := 16) (n := k) (f := wan bd) (fun i _ => hw16 i (by omega))
          have h2 : 16 ^ k ≤ 16 ^ 3 := Nat.pow_le_pow_right (by decide) (by omega)
          rw [pkd_nb]
          have h3 : (16 : Nat) ^ 3 = 4096 := by decide
          omega
        have s1 := shl4 q1 (hm16 k)
        have s2 := shl4 q2 (hw16 k (by omega))
        rw [if_neg e]
        rw [show (if (4 : Int32) ≤ nI k then f_X0_look_J83 c 0 (nI ln) (nI (pkd k (mki bd))) (nI (pkd k (wan bd))) else if inb (nI k) 4 = true then if (c.2.1 17 (nI k).toNatClampNeg) = (-1) then f_X0_look_J36 (f_X0_look_L8 n) c 0 (nI ln) (nI (pkd k (mki bd))) (nI (pkd k (wan bd))) (nI k) 1 else f_X0_look_J36 (f_X0_look_L8 n) c 0 (nI ln) (nI (pkd k (mki bd))) (nI (pkd k (wan bd))) (nI k) 0 else none) = (if (c.2.1 17 k) = (-1) then f_X0_look_J36 (f_X0_look_L8 n) c 0 (nI ln) (nI (pkd k (mki bd))) (nI (pkd k (wan bd))) (nI k) 1 else f_X0_look_J36 (f_X0_look_L8 n) c 0 (nI ln) (nI (pkd k (mki bd))) (nI (pkd k (wan bd))) (nI k) 0) from by
          rw [n4, ite_leN (by omega) (by omega), if_neg (by omega), ite_in (show k < 4 by omega) (by decide), nI_clamp (by omega)]]
        rw [hbd k (by omega)]
        rw [pkd, pkd] at ih1
        have hwn := (wan_s hn hB (show k < 4 by omega)).2
        by_cases e2 : bd k = -1
        · have m0 : mki bd k = 0 := by unfold mki; rw [if_pos e2]
          have w0 : wan bd k = 0 := by unfold wan; rw [if_pos e2]
          rw [m0, nI_0] at s1
          rw [w0, nI_0] at s2
          rw [m0, w0, ← s1, ← s2] at ih1
          rw [if_pos e2, f_X0_look_J36, if_neg (by decide), f_X0_look_J52, lt, if_neg (by decide), f_X0_look_J74, lt, lt, nI_1]
          exact ih1
        · have m0 : mki bd k = 15 := by unfold mki; rw [if_neg e2]
          rw [m0] at s1
          rw [← hwn e2] at s2
          rw [m0, ← s1, ← s2] at ih1
          rw [if_neg e2, f_X0_look_J36, if_pos rfl, f_X0_look_J52, lt, if_pos rfl, ite_in (show k < 4 by omega) (by decide), nI_clamp (by omega), hbd k (by omega), f_X0_look_J74, lt, lt, nI_1]
          exact ih1
  have h8 := l8 FU 0 (by omega) (by have := FU_big; omega)
  obtain ⟨g, f1, f2⟩ := fill_c (st := sI c 12 0) (q := 18) (n := 4) (v := 0) (by decide)
  have e1 : sR (sI c 12 0) 18 g = lkb c g (nI (ct (FT nw ln wd bd) 0)) := rfl
  obtain ⟨g2, k1, k2⟩ := l99 (NN nw ln) 0 FU g (by omega) (by have := FU_big; omega) (fun r hr => by rw [f2 r (by omega)]; rfl)
  refine ⟨g2, ?_, k2⟩
  rw [show pkd 0 (mki bd) = 0 from rfl, show pkd 0 (wan bd) = 0 from rfl, nI_0] at h8
  rw [f_X0_look, h8, f_X0_look_J83, lt, f1]
  simp only [Option.bind_some]
  rw [e1]
  exact k1
theorem lbrd_c {nw ln : Nat} {wd : Nat → Nat → Nat} {wt : Nat → Nat} {tl : Nat} {tx : Nat → Nat} {bd : Nat → Int32} {c m : St} (hR : RL9 nw ln wd wt tl tx bd c m) : ∃ c', f_X7_lookedBoard c = some c' ∧ RL9 nw ln wd wt tl tx bd c' m ∧ c'.1 1 = 1 ∧ c'.1 12 = nI (ct (FT nw ln wd bd) (NN nw ln)) ∧ ∀ r, r < ln → c'.2.1 18 r = mk (FT nw ln wd bd) (fun x => dg nw ln x r) (NN nw ln) := by
  obtain ⟨hWL, hRT, hCL, hML, hRW, hRB, hRN, hRF, hRP, hRH, hRK⟩ := hR
  rcases hRK with h | ⟨h, h2, h3⟩
  · obtain ⟨g, g1, g2⟩ := look_c hWL hRF.1 hRP (fun r hr => (hRB r hr).1) (fun r hr => (hRB r hr).2.2)
    have q12 : (sI (lkb c g (nI (ct (FT nw ln wd bd) (NN nw ln)))) 1 1).1 12 = nI (ct (FT nw ln wd bd) (NN nw ln)) := rfl
    have q18 : ∀ r, r < ln → (sI (lkb c g (nI (ct (FT nw ln wd bd) (NN nw ln)))) 1 1).2.1 18 r = mk (FT nw ln wd bd) (fun x => dg nw ln x r) (NN nw ln) := fun r hr => g2 r hr
    refine ⟨sI (lkb c g (nI (ct (FT nw ln wd bd) (NN nw ln)))) 1 1, ?_, ⟨hWL, hRT, hCL, hML, hRW, hRB, hRN, hRF, hRP, hRH, Or.inr ⟨rfl, q12, q18⟩⟩, rfl, q12, q18⟩
    have hk0 : f_X2_ofKind c 0 = some 0 := rfl
    simp only [f_X7_lookedBoard, h, i00, if_true, hk0, Option.bind_some, f_X6_length, hCL.2.1, g1, lt, f_X7_lookedBoard_J34]
  · refine ⟨c, ?_, ⟨hWL, hRT, hCL, hML, hRW, hRB, hRN, hRF, hRP, hRH, Or.inr ⟨h, h2, h3⟩⟩, h, h2, h3⟩
    simp only [f_X7_lookedBoard, h, i10, if_false, f_X7_lookedBoard_J34]
theorem poss_c {c : St} {r : Nat} (hr : r < 4) : f_X0_possible c (nI r) = some (c.2.1 18 r) := by
  unfold f_X0_possible
  rw [if_neg (nI_pos (by omega)), if_neg (by rw [show (4 : Int32) = nI 4 from rfl, nI_le_iff (by omega) (by omega)]; omega), ite_in hr (by decide), nI_clamp (by omega)]
theorem op18 : Op_18 Rel := by
  intro c m hR
  obtain ⟨nw, ln, wd, wt, tl, tx, bd, hR0⟩ := hR
  obtain ⟨c', h1, h2, -, h3, -⟩ := lbrd_c hR0
  obtain ⟨m2, g1, g2, g3⟩ := lf_m hR0.1 hR0.2.2.2.1 (fun r hr => (hR0.2.2.2.2.2.1 r hr).2.1)
  refine ⟨nI (ct (FT nw ln wd bd) (NN nw ln)), c', m2, ?_, ?_, nw, ln, wd, wt, tl, tx, bd, g2.1.rel h2⟩
  · simp only [f_X7_fitting, h1, Option.bind_some, f_X0_numberOfFitting, h3]
  · simp only [f_X8_fitting, f_X8_fittingNow, g1, Option.bind_some, g3.1]
theorem op19 : Op_19 Rel := by
  intro c m a hR
  obtain ⟨nw, ln, wd, wt, tl, tx, bd, hR0⟩ := hR
  have hl := hR0.1.2.1
  rcases place_both hl hR0.2.2.1.2.1 hR0.2.2.2.1.2.1 a with ⟨r, hr, rfl, p1, p2, -⟩ | ⟨p1, p2, -⟩
  · obtain ⟨c', h1, h2, -, h3, h4⟩ := lbrd_c hR0
    obtain ⟨m2, g1, g2, g3⟩ := lf_m hR0.1 hR0.2.2.2.1 (fun r hr => (hR0.2.2.2.2.2.1 r hr).2.1)
    refine ⟨mk (FT nw ln wd bd) (fun x => dg nw ln x r) (NN nw ln), c', m2, ?_, ?_, nw, ln, wd, wt, tl, tx, bd, g2.1.rel h2⟩
    · simp only [f_X7_may, p1, Option.bind_some, i10, if_false, h1, poss_c (show r < 4 by omega), h4 r hr]
    · simp only [f_X8_may, p2, Option.bind_some, i10, if_false, f_X8_mayNow, g1]
      rw [ite_in (show r < 4 by omega) (by decide), nI_clamp (by omega), g3.2.1 r hr]
      rfl
  · refine ⟨-101, c, m, ?_, ?_, nw, ln, wd, wt, tl, tx, bd, hR0⟩
    · simp only [f_X7_may, p1, Option.bind_some, i00, if_true]
    · simp only [f_X8_may, p2, Option.bind_some, i00, if_true]
/-! what is sure -/
def mkN (F : Nat → Bool) (g : Nat → Nat) : Nat → Nat
  | 0 => 0
  | n + 1 => if F n then mkN F g n ||| 2 ^ g n else mkN F g n
theorem mk_N {F : Nat → Bool} {g : Nat → Nat} (hg : ∀ x, g x < 12) : ∀ n, mk F g n = nI (mkN F g n) ∧ mkN F g n < 2 ^ 12 ∧ ∀ w, (mkN F g n).testBit w = an (fun x => F x && (g x == w)) n
  | 0 => ⟨rfl, by rw [mkN]; decide, fun w => by rw [mkN, Nat.zero_testBit]; rfl⟩
  | n + 1 => by
    obtain ⟨h1, h2, h3⟩ := mk_N hg n
    have hb := hg n
    rw [mk, mkN]
    cases hF : F n with
    | false =>
      refine ⟨h1, h2, fun w => ?_⟩
      rw [an, hF, Bool.false_and, Bool.or_false]
      exact h3 w
    | true =>
      rw [if_pos rfl, if_pos rfl]
      refine ⟨by rw [h1, setb_nI (by omega)], or_lt12 h2 hb, fun w => ?_⟩
      rw [tb_or, h3, an, hF, Bool.true_and]
      rfl
theorem sv_spec {F : Nat → Bool} {g : Nat → Nat} (hg : ∀ x, 0 < g x) : ∀ n, (ct F n = 0 ∧ ∀ x, x < n → F x = false) ∨ (0 < ct F n ∧ ((0 < sv F g n ∧ ∀ x, x < n → F x = true → g x = sv F g n) ∨ (sv F g n = 0 ∧ ∃ x y, x < n ∧ y < n ∧ F x = true ∧ F y = true ∧ g x ≠ g y)))
  | 0 => Or.inl ⟨rfl, fun x hx => by omega⟩
  | n + 1 => by
    have ih := sv_spec (F := F) hg n
    rw [ct, sv]
    cases hF : F n with
    | false =>
      rcases ih with ⟨h1, h2⟩ | ⟨h1, h2⟩
      · refine Or.inl ⟨h1, fun x hx => ?_⟩
        by_cases e : x = n
        · rw [e]; exact hF
        · exact h2 x (by omega)
      · refine Or.inr ⟨h1, ?_⟩
        rcases h2 with ⟨h3, h4⟩ | ⟨h3, x, y, h4, h5, h6⟩
        · refine Or.inl ⟨h3, fun x hx hx2 => ?_⟩
          by_cases e : x = n
          · rw [e, hF] at hx2; cases hx2
          · exact h4 x (by omega) hx2
        · exact Or.inr ⟨h3, x, y, by omega, by omega, h6⟩
    | true =>
      refine Or.inr ⟨by rw [if_pos rfl]; omega, ?_⟩
      rw [if_pos rfl]
      rcases ih with ⟨h1, h2⟩ | ⟨h1, h2⟩
      · rw [if_pos h1]
        refine Or.inl ⟨hg n, fun x hx hx2 => ?_⟩
        by_cases e : x = n
        · rw [e]
        · rw [h2 x (by omega)] at hx2; cases hx2
      · rw [if_neg (by omega)]
        have hgn := hg n
        rcases h2 with ⟨h3, h4⟩ | ⟨h3, x, y, h4, h5, h6⟩
        · by_cases e2 : sv F g n = g n
          · rw [if_pos e2]
            refine Or.inl ⟨hgn, fun x hx hx2 => ?_⟩
            by_cases e : x = n
            · rw [e]
            · rw [h4 x (by omega) hx2, e2]
          · rw [if_neg e2]
            obtain ⟨x, x1, x2, x3⟩ := ct_nth h1
            exact Or.inr ⟨rfl, x, n, by omega, by omega, x2, hF, fun q => e2 (by rw [← h4 x x1 x2]; exact q)⟩
        · rw [if_neg (by omega)]
          exact Or.inr ⟨rfl, x, y, by omega, by omega, h6⟩
theorem comm_c {nw ln : Nat} {wd : Nat → Nat → Nat} {c : St} (hW : WL nw ln wd) (hC : CL nw ln wd c) {M p : Nat} (hM : M < 2 ^ 12) (hp : p < ln) : (∃ l, l < 26 ∧ f_X6_commonLetter c (nI M) (nI p) = some (nI l) ∧ ∀ w, w < nw → M.testBit w = true → wd w p = l) ∨ (f_X6_commonLetter c (nI M) (nI p) = some (-1) ∧ ((∀ w, w < nw → M.testBit w = false) ∨ ∃ v w, v < nw ∧ w < nw ∧ M.testBit v = true ∧ M.testBit w = true ∧ wd v p ≠ wd w p)) := by
  have hn := hW.1
  have stepL : ∀ (n k : Nat) (x3 : Int32), k < nw → f_X6_commonLetter_L5 c (n + 1) (nI M) (nI p) x3 (nI k) = if M.testBit k = true then (if x3 = (-1) then f_X6_commonLetter_L5 c n (nI M) (nI p) (nI (wd k p)) (nI (k + 1)) else if nI (wd k p) = x3 then f_X6_commonLetter_L5 c n (nI M) (nI p) (nI (wd k p)) (nI (k + 1)) else some (-1)) else f_X6_commonLetter_L5 c n (nI M) (nI p) x3 (nI (k + 1)) := by
    intro n k x3 hk
    rw [f_X6_commonLetter_L5, hC.1, ite_leN (by omega) (by omega), if_neg (by omega), bit_nI (by omega) (by omega), letter_c hW hC hk hp]
    simp only [Option.bind_some, f_X6_commonLetter_J48, f_X6_commonLetter_J45, lt, nI_1]
    cases M.testBit k with
    | false => rfl
    | true => rfl
  have some' : ∀ (n k l : Nat), k ≤ nw → nw - k < n → l < 26 → (∀ w, w < k → M.testBit w = true → wd w p = l) → (∃ w, w < k ∧ M.testBit w = true) → (∃ l', l' < 26 ∧ f_X6_commonLetter_L5 c n (nI M) (nI p) (nI l) (nI k) = some (nI l') ∧ ∀ w, w < nw → M.testBit w = true → wd w p = l') ∨ (f_X6_commonLetter_L5 c n (nI M) (nI p) (nI l) (nI k) = some (-1) ∧ ((∀ w, w < nw → M.testBit w = false) ∨ ∃ v w, v < nw ∧ w < nw ∧ M.testBit v = true ∧ M.testBit w = true ∧ wd v p ≠ wd w p)) := by
    intro n
    induction n with
    | zero => intro k l _ h; omega
    | succ n ih =>
      intro k l hk hnn hl hal hex
      by_cases e : nw ≤ k
      · refine Or.inl ⟨l, hl, ?_, fun w hw => hal w (by omega)⟩
        rw [f_X6_commonLetter_L5, hC.1, ite_leN (by omega) (by omega), if_pos e]
      · rw [stepL n k (nI l) (by omega)]
        have hb := hW.2.2.2.2.1 k (by omega) p hp
        by_cases e1 : M.testBit k = true
        · rw [if_pos e1, if_neg (nI_ne_m1 (by omega)), ite_eqN (by omega) (by omega)]
          by_cases e2 : wd k p = l
          · rw [if_pos e2, e2]
            exact ih (k + 1) l (by omega) (by omega) hl (fun w hw hw2 => by
              by_cases e3 : w = k
              · rw [e3]; exact e2
              · exact hal w (by omega) hw2) ⟨k, by omega, e1⟩
          · rw [if_neg e2]
            obtain ⟨w, hw1, hw2⟩ := hex
            exact Or.inr ⟨rfl, Or.inr ⟨k, w, by omega, by omega, e1, hw2, fun q => e2 (by rw [q]; exact hal w hw1 hw2)⟩⟩
        · rw [if_neg e1]
          obtain ⟨w, hw1, hw2⟩ := hex
          exact ih (k + 1) l (by omega) (by omega) hl (fun w hw hw2 => by
            by_cases e3 : w = k
            · rw [e3] at hw2; exact absurd hw2 e1
            · exact hal w (by omega) hw2) ⟨w, by omega, hw2⟩
  have none' : ∀ (n k : Nat), k ≤ nw → nw - k < n → (∀ w, w < k → M.testBit w = false) → (∃ l, l < 26 ∧ f_X6_commonLetter_L5 c n (nI M) (nI p) (-1) (nI k) = some (nI l) ∧ ∀ w, w < nw → M.testBit w = true → wd w p = l) ∨ (f_X6_commonLetter_L5 c n (nI M) (nI p) (-1) (nI k) = some (-1) ∧ ((∀ w, w < nw → M.testBit w = false) ∨ ∃ v w, v < nw ∧ w < nw ∧ M.testBit v = true ∧ M.testBit w = true ∧ wd v p ≠ wd w p)) := by
    intro n
    induction n with
    | zero => intro k _ h; omega
    | succ n ih =>
      intro k hk hnn hal
      by_cases e : nw ≤ k
      · refine Or.inr ⟨?_, Or.inl (fun w hw => hal w (by omega))⟩
        rw [f_X6_commonLetter_L5, hC.1, ite_leN (by omega) (by omega), if_pos e]
      · rw [stepL n k (-1) (by omega)]
        have hb := hW.2.2.2.2.1 k (by omega) p hp
        by_cases e1 : M.testBit k = true
        · rw [if_pos e1, if_pos rfl]
          have q := some' n (k + 1) (wd k p) (by omega) (by omega) hb (fun w hw hw2 => by
              by_cases e3 : w = k
              · rw [e3]
              · rw [hal w (by omega)] at hw2; cases hw2) ⟨k, by omega, e1⟩
          rcases q with ⟨l, q1, q2, q3⟩ | q
          · have : l = wd k p := (q3 k (by omega) e1).symm
            subst this
            exact Or.inl ⟨wd k p, q1, q2, q3⟩
          · exact Or.inr q
        · rw [if_neg e1]
          exact ih (k + 1) (by omega) (by omega) (fun w hw => by
            by_cases e3 : w = k
            · rw [e3]; simpa using e1
            · exact hal w (by omega))
  rw [f_X6_commonLetter]
  have := none' FU 0 (by omega) (by have := FU_big; omega) (fun w hw => by omega)
  rw [nI_0] at this
  exact this
/-- what sure tells when something fits -/
def su (F : Nat → Bool) (g : Nat → Nat) (n : Nat) : Int32 := if sv F g n = 0 then -1 else nI (sv F g n)
theorem sure_both {nw ln : Nat} {wd : Nat → Nat → Nat} {c : St} (hW : WL nw ln wd) (hC : CL nw ln wd c) {F : Nat → Bool} (hF : ∀ x, F x = true → P0 nw ln wd x = true) {N r p : Nat} (h0 : 0 < nw) (hr : r < ln) (hp : p < ln) (hc : 0 < ct F N) : ((f_X6_commonLetter c (mk F (fun x => dg nw ln x r) N) (nI p)).bind fun b51 => if b51 = (-1) then some ((-1), c) else some (97 + b51, c)) = some (su F (fun x => 97 + wd (dg nw ln x r) p) N, c) := by
  have hn := hW.1
  obtain ⟨k1, k2, k3⟩ := mk_N (F := F) (g := fun x => dg nw ln x r) (fun x => by have h : dg nw ln x r < nw := dg_lt h0; show dg nw ln x r < 12; omega) N
  have hs := sv_spec (F := F) (g := fun x => 97 + wd (dg nw ln x r) p) (fun x => by omega) N
  have hbit : ∀ x, x < N → F x = true → (mkN F (fun x => dg nw ln x r) N).testBit (dg nw ln x r) = true := fun x hx hFx => by
    rw [k3, an_iff]
    exact ⟨x, hx, by rw [hFx]; simp⟩
  have hrev : ∀ w, (mkN F (fun x => dg nw ln x r) N).testBit w = true → ∃ x, x < N ∧ F x = true ∧ dg nw ln x r = w := fun w hw => by
    rw [k3, an_iff] at hw
    obtain ⟨x, hx, h⟩ := hw
    rw [Bool.and_eq_true] at h
    exact ⟨x, hx, h.1, by simpa using h.2⟩
  rw [k1]
  unfold su
  rcases hs with ⟨h1, -⟩ | ⟨-, h2⟩
  · omega
  · rcases comm_c hW hC k2 hp with ⟨l, hl, e1, e2⟩ | ⟨e1, e2⟩
    · rw [e1]
      simp only [Option.bind_some]
      rw [if_neg (nI_ne_m1 (by omega)), n97, nI_add]
      rcases h2 with ⟨h3, h4⟩ | ⟨h3, x, y, h5, h6, h7, h8, h9⟩
      · obtain ⟨x, x1, x2, x3⟩ := ct_nth hc
        have q1 := e2 (dg nw ln x r) (dg_lt h0) (hbit x x1 x2)
        have q2 := h4 x x1 x2
        rw [if_neg (by omega), ← q2, q1]
      · exfalso
        have q1 := e2 (dg nw ln x r) (dg_lt h0) (hbit x h5 h7)
        have q2 := e2 (dg nw ln y r) (dg_lt h0) (hbit y h6 h8)
        exact h9 (by rw [q1, q2])
    · rw [e1]
      simp only [Option.bind_some]
      rw [if_pos trivial]
      rcases h2 with ⟨h3, h4⟩ | ⟨h3, -⟩
      · exfalso
        rcases e2 with e2 | ⟨v, w, v1, w1, v2, w2, hne⟩
        · obtain ⟨x, x1, x2, x3⟩ := ct_nth hc
          have := hbit x x1 x2
          rw [e2 _ (dg_lt h0)] at this; cases this
        · obtain ⟨x, x1, x2, x3⟩ := hrev v v2
          obtain ⟨y, y1, y2, y3⟩ := hrev w w2
          have q1 := h4 x x1 x2
          have q2 := h4 y y1 y2
          rw [x3] at q1
          rw [y3] at q2
          exact hne (by omega)
      · rw [if_pos h3]
theorem sure_m {nw ln : Nat} {wd : Nat → Nat → Nat} {F : Nat → Bool} {N : Nat} {m : St} (hW : WL nw ln wd) (h0 : 0 < nw) (hI : FI nw ln wd F N m) {r p : Nat} (hr : r < ln) (hp : p < ln) (hc : 0 < ct F N) : f_X8_sureNow m (nI r) (nI p) = some (su F (fun x => 97 + wd (dg nw ln x r) p) N) := by
  have hl := hW.2.1
  have hb : sv F (fun x => 97 + wd (dg nw ln x r) p) N < 200 := sv_lt (fun x => by
    have := hW.2.2.2.2.1 (dg nw ln x r) (dg_lt h0) p hp
    show 97 + wd (dg nw ln x r) p < 200
    omega) (by decide) N
  unfold f_X8_sureNow su
  rw [n4, pk_mul, nI_add, ite_in (show 4 * r + p < 16 by omega) (by decide), nI_clamp (by omega), hI.2.2 r hr p hp hc, lt]
  by_cases e : sv F (fun x => 97 + wd (dg nw ln x r) p) N = 0
  · rw [e, if_pos nI_0, if_pos rfl]
  · rw [if_neg e, if_neg (fun q => e (by rw [← nI_0, nI_eq_iff (by omega) (by omega)] at q; exact q))]
theorem FT_P0 {nw ln : Nat} {wd : Nat → Nat → Nat} {bd : Nat → Int32} {x : Nat} (h : FT nw ln wd bd x = true) : P0 nw ln wd x = true := by
  unfold FT at h
  rw [Bool.and_eq_true] at h
  exact h.1
theorem sure_c {nw ln : Nat} {wd : Nat → Nat → Nat} {wt : Nat → Nat} {tl : Nat} {tx : Nat → Nat} {bd : Nat → Int32} {c m : St} (hR : RL9 nw ln wd wt tl tx bd c m) {r p : Nat} (hr : r < ln) (hp : p < ln) (p1 : f_X6_hasPlace c (nI r) = some 1) (p3 : f_X6_hasPlace c (nI p) = some 1) : ∃ c', f_X7_sure c (nI r) (nI p) = some (if ct (FT nw ln wd bd) (NN nw ln) = 0 then -103 else su (FT nw ln wd bd) (fun x => 97 + wd (dg nw ln x r) p) (NN nw ln), c') ∧ RL9 nw ln wd wt tl tx bd c' m := by
  have hl := hR.1.2.1
  have hN := NN_le hR.1
  have hc := ct_le (FT nw ln wd bd) (NN nw ln)
  obtain ⟨c', h1, h2, h2b, h3, h4⟩ := lbrd_c hR
  have h5 : f_X7_lookedBoard c' = some c' := by
    simp only [f_X7_lookedBoard, h2b, i10, if_false, f_X7_lookedBoard_J34]
  refine ⟨c', ?_, h2⟩
  simp only [f_X7_sure, p1, p3, Option.bind_some, i10, if_false, h1, f_X0_numberOfFitting, h3, h5, poss_c (show r < 4 by omega), h4 r hr]
  by_cases e : ct (FT nw ln wd bd) (NN nw ln) = 0
  · rw [if_pos e, e, if_pos nI_0]
  · rw [if_neg e, if_neg (fun q => e (by rw [← nI_0, nI_eq_iff (by omega) (by omega)] at q; exact q))]
    have h0 : 0 < nw := by
      obtain ⟨x, x1, -, -⟩ := ct_nth (show 0 < ct (FT nw ln wd bd) (NN nw ln) by omega)
      exact nz_of x1
    have hcp : 0 < ct (FT nw ln wd bd) (NN nw ln) := by omega
    exact sure_both (N := NN nw ln) h2.1 h2.2.2.1 (fun x hx => FT_P0 hx) h0 hr hp hcp
theorem op20 : Op_20 Rel := by
  intro c m a b hR
  obtain ⟨nw, ln, wd, wt, tl, tx, bd, hR0⟩ := hR
  have hl := hR0.1.2.1
  have hN := NN_le hR0.1
  have hct := ct_le (FT nw ln wd bd) (NN nw ln)
  rcases place_both hl hR0.2.2.1.2.1 hR0.2.2.2.1.2.1 a with ⟨r, hr, rfl, p1, p2, -⟩ | ⟨p1, p2, -⟩
  · rcases place_both hl hR0.2.2.1.2.1 hR0.2.2.2.1.2.1 b with ⟨p, hp, rfl, p3, p4, -⟩ | ⟨p3, p4, -⟩
    · obtain ⟨c', h1, h2⟩ := sure_c hR0 hr hp p1 p3
      obtain ⟨m2, g1, g2, g3⟩ := lf_m hR0.1 hR0.2.2.2.1 (fun r hr => (hR0.2.2.2.2.2.1 r hr).2.1)
      refine ⟨_, c', m2, h1, ?_, nw, ln, wd, wt, tl, tx, bd, g2.1.rel h2⟩
      simp only [f_X8_sure, p2, p4, Option.bind_some, i10, if_false, g1, g3.1]
      by_cases e : ct (FT nw ln wd bd) (NN nw ln) = 0
      · rw [if_pos e, e, if_pos nI_0]
      · rw [if_neg e, if_neg (fun q => e (by rw [← nI_0, nI_eq_iff (by omega) (by omega)] at q; exact q))]
        have h0 : 0 < nw := by
          obtain ⟨x, x1, -, -⟩ := ct_nth (show 0 < ct (FT nw ln wd bd) (NN nw ln) by omega)
          exact nz_of x1
        rw [sure_m hR0.1 h0 g3 hr hp (by omega)]
        rfl
    · refine ⟨-101, c, m, ?_, ?_, nw, ln, wd, wt, tl, tx, bd, hR0⟩
      · simp only [f_X7_sure, f_X7_sure_J22, p1, p3, Option.bind_some, i10, if_false, i00, if_true]
      · simp only [f_X8_sure, f_X8_sure_J16, p2, p4, Option.bind_some, i10, if_false, i00, if_true]
  · refine ⟨-101, c, m, ?_, ?_, nw, ln, wd, wt, tl, tx, bd, hR0⟩
    · simp only [f_X7_sure, f_X7_sure_J22, p1, Option.bind_some, i00, if_true]
    · simp only [f_X8_sure, f_X8_sure_J16, p2, Option.bind_some, i00, if_true]
end
