def bi (b : Bool) : Int32 := if b then 1 else 0
theorem bi_t : bi true = 1 := rfl
theorem bi_f : bi false = 0 := rfl
theorem xor_nI (a b : Nat) : nI a ^^^ nI b = nI (a ^^^ b) := by
  apply Int32.toBitVec_inj.mp
  show (BitVec.ofNat 32 a ^^^ BitVec.ofNat 32 b) = BitVec.ofNat 32 (a ^^^ b)
  rw [BitVec.ofNat_xor]
theorem shl5 {a l : Nat} (ha : a < 2 ^ 15) (hl : l < 32) : (nI a <<< (5 &&& 31)) ||| nI l = nI (a * 32 + l) := by
  have h5 : (5 : Int32) &&& 31 = nI 5 &&& 31 := rfl
  rw [h5, shl_nI (by decide) (by omega), or_nI]
  have := Nat.two_pow_add_eq_or_of_lt (i := 5) (b := l) (by omega) a
  rw [show a * 2 ^ 5 = 2 ^ 5 * a from Nat.mul_comm _ _, ← this, Nat.mul_comm]
theorem sm_add (f g : Nat → Nat) : ∀ n, sm (fun i => f i + g i) n = sm f n + sm g n
  | 0 => rfl
  | n + 1 => by rw [sm, sm, sm, sm_add f g n]; omega
theorem ct_sm (p : Nat → Bool) : ∀ n, ct p n = sm (fun i => if p i then 1 else 0) n
  | 0 => rfl
  | n + 1 => by rw [ct, sm, ct_sm p n]
theorem sm_swap (q : Nat → Nat → Bool) (n : Nat) : ∀ k, sm (fun j => ct (q j) n) k = sm (fun w => ct (fun j => q j w) k) n
  | 0 => by
    have : ∀ n, sm (fun w => ct (fun j => q j w) 0) n = 0 := fun n => by
      induction n with
      | zero => rfl
      | succ n ih => rw [sm, ih]; rfl
    rw [this]; rfl
  | k + 1 => by
    rw [sm, sm_swap q n k, ct_sm, ← sm_add]
    exact sm_congr (fun i _ => by rw [ct])
theorem samePre_c {nw ln : Nat} {wd : Nat → Nat → Nat} {c : St} (hW : WL nw ln wd) (hC : CL nw ln wd c) {v w k : Nat} (hv : v < nw) (hw : w < nw) (hk : k ≤ ln) : f_X6_samePrefix c (nI v) (nI w) (nI k) = some (bi (sp wd k v w)) := by
  have hn := hW.1
  have hl := hW.2.1
  have bv := cd_lt hl (fun i hi => hW.2.2.2.2.1 v hv i hi)
  have bw := cd_lt hl (fun i hi => hW.2.2.2.2.1 w hw i hi)
  have dv : ∀ i, i < ln → wd v i < 32 := fun i hi => by have := hW.2.2.2.2.1 v hv i hi; omega
  have dw : ∀ i, i < ln → wd w i < 32 := fun i hi => by have := hW.2.2.2.2.1 w hw i hi; omega
  have bx : cd ln (wd v) ^^^ cd ln (wd w) < 2 ^ 20 := Nat.xor_lt_two_pow bv bw
  unfold f_X6_samePrefix
  rw [and15 (by omega), and15 (by omega), ite_in (show v < 16 by omega) (by decide), ite_in (show w < 16 by omega) (by decide), nI_clamp (by omega), nI_clamp (by omega), hC.2.2 v hv, hC.2.2 w hw, hC.2.1, pk_sub hk, n5, pk_mul, xor_nI]
  simp only [lt]
  rw [shr_nI (by omega) (by omega)]
  have hq : (cd ln (wd v) ^^^ cd ln (wd w)) / 2 ^ (5 * (ln - k)) = cd k (wd v) ^^^ cd k (wd w) := by
    rw [← Nat.shiftRight_eq_div_pow, Nat.shiftRight_xor_distrib, Nat.shiftRight_eq_div_pow, Nat.shiftRight_eq_div_pow, pow5, cd_nb, cd_nb, nb_div hk dv, nb_div hk dw, cd_nb, cd_nb]
  have bk : cd k (wd v) ^^^ cd k (wd w) < 2 ^ 20 := Nat.xor_lt_two_pow (cd_lt (by omega) (fun i hi => hW.2.2.2.2.1 v hv i (by omega))) (cd_lt (by omega) (fun i hi => hW.2.2.2.2.1 w hw i (by omega)))
  rw [hq, sp_cd hW hv hw hk, ← nI_0, ite_eqN (by omega) (by omega)]
  by_cases e : cd k (wd v) = cd k (wd w)
  · rw [if_pos (by rw [e, Nat.xor_self]), decide_eq_true e]; rfl
  · have : ¬ (cd k (wd v) ^^^ cd k (wd w) = 0) := fun h => e (by
      have h2 := congrArg (fun z => z ^^^ cd k (wd w)) h
      simpa [Nat.xor_assoc] using h2)
    rw [if_neg this, decide_eq_false e]; rfl
/-- the number of prefixes -/
def pfx (nw ln : Nat) (wd : Nat → Nat → Nat) : Nat := (if nw = 0 then 0 else 1) + sm (fun w => ln - (if w = 0 then 0 else alk ln wd (w - 1) w)) nw
def isH (wd : Nat → Nat → Nat) (k w : Nat) : Bool := decide (w = 0) || !sp wd k (w - 1) w
theorem pfx_eq (nw ln : Nat) (wd : Nat → Nat → Nat) : sm (fun k => ct (isH wd k) nw) (ln + 1) = pfx nw ln wd := by
  rw [sm_swap]
  have h1 : ∀ w, ct (fun k => isH wd k w) (ln + 1) = (if w = 0 then 1 else 0) + (ln - (if w = 0 then 0 else alk ln wd (w - 1) w)) := fun w => by
    by_cases e : w = 0
    · subst e
      have : ∀ n, ct (fun k => isH wd k 0) n = n := fun n => by
        induction n with
        | zero => rfl
        | succ n ih => rw [ct, ih]; simp [isH]
      rw [this]; simp; omega
    · rw [if_neg e, if_neg e]
      have ha : alk ln wd (w - 1) w ≤ ln := fs_le _ _
      have : ∀ n, n ≤ ln + 1 → ct (fun k => isH wd k w) n = n - (alk ln wd (w - 1) w + 1) := fun n => by
        induction n with
        | zero => intro _; rw [ct]; omega
        | succ n ih =>
          intro hn
          rw [ct, ih (by omega)]
          have hg := alk_ge (ln := ln) (wd := wd) (v := w - 1) (w := w) (k := n) (by omega)
          by_cases h : n ≤ alk ln wd (w - 1) w
          · have : isH wd n w = false := by simp [isH, e, hg.mp h]
            rw [this]; simp; omega
          · have h3 : sp wd n (w - 1) w = false := by
              cases hh : sp wd n (w - 1) w with
              | false => rfl
              | true => exact absurd (hg.mpr hh) h
            have : isH wd n w = true := by simp [isH, h3]
            rw [this]; simp; omega
      rw [this (ln + 1) (by omega)]; omega
  have h2 : sm (fun w => ct (fun k => isH wd k w) (ln + 1)) nw = sm (fun w => (if w = 0 then 1 else 0) + (ln - (if w = 0 then 0 else alk ln wd (w - 1) w))) nw := sm_congr (fun w _ => h1 w)
  rw [h2, sm_add]
  unfold pfx
  congr 1
  have : ∀ n, sm (fun w => if w = 0 then 1 else 0) n = if n = 0 then 0 else 1 := fun n => by
    induction n with
    | zero => rfl
    | succ n ih =>
      rw [sm, ih]
      by_cases e : n = 0
      · simp [e]
      · simp [e]
  exact this nw
theorem pfx_le {nw ln : Nat} {wd : Nat → Nat → Nat} : pfx nw ln wd ≤ 1 + nw * ln := by
  unfold pfx
  have : ∀ n, sm (fun w => ln - (if w = 0 then 0 else alk ln wd (w - 1) w)) n ≤ n * ln := fun n => by
    induction n with
    | zero => simp [sm]
    | succ n ih => rw [sm, Nat.succ_mul]; omega
  have h := this nw
  split <;> omega
theorem nprefix_c {nw ln : Nat} {wd : Nat → Nat → Nat} {c : St} (hW : WL nw ln wd) (hC : CL nw ln wd c) : f_X6_numberOfPrefixes c = some (nI (pfx nw ln wd)) := by
  have hn := hW.1
  have hl := hW.2.1
  have inner : ∀ (r4 : Int32 → Int32 → Option Int32) (a k : Nat), k ≤ ln → ∀ (n j : Nat), j ≤ nw → nw - j < n → f_X6_numberOfPrefixes_L14 c r4 n (nI (a + ct (isH wd k) j)) (nI k) (nI j) = r4 (nI (a + ct (isH wd k) nw)) (nI (k + 1)) := by
    intro r4 a k hk n
    induction n with
    | zero => intro j _ h2; omega
    | succ n ih =>
      intro j hj hnn
      unfold f_X6_numberOfPrefixes_L14
      rw [hC.1, ite_leN (by omega) (by omega)]
      by_cases e : nw ≤ j
      · rw [if_pos e, show j = nw by omega]
        simp only [lt, nI_1]
      · have ih1 := ih (j + 1) (by omega) (by omega)
        rw [if_neg e, ← nI_0, ite_eqN (by omega) (by omega)]
        by_cases e0 : j = 0
        · rw [if_pos e0]
          simp only [f_X6_numberOfPrefixes_J38, f_X6_numberOfPrefixes_J41, lt, nI_1]
          rw [← ih1, ct]
          simp [isH, e0, Nat.add_assoc]
        · rw [if_neg e0, n1, pk_sub (show 1 ≤ j by omega), samePre_c hW hC (by omega) (by omega) hk]
          simp only [Option.bind_some, f_X6_numberOfPrefixes_J38, f_X6_numberOfPrefixes_J41, lt, nI_1]
          rw [← ih1, ct]
          cases hs : sp wd k (j - 1) j with
          | false => simp [bi, isH, hs, nI_0, Nat.add_assoc]
          | true => simp [bi, isH, hs, e0, nI_0, i10]
  have outer : ∀ (n k : Nat), k ≤ ln + 1 → ln + 1 - k < n → f_X6_numberOfPrefixes_L4 c n (nI (sm (fun k => ct (isH wd k) nw) k)) (nI k) = some (nI (pfx nw ln wd)) := by
    intro n
    induction n with
    | zero => intro k _ h2; omega
    | succ n ih =>
      intro k hk hnn
      unfold f_X6_numberOfPrefixes_L4
      rw [hC.2.1, ite_ltN (by omega) (by omega)]
      by_cases e : ln < k
      · rw [if_pos e, show k = ln + 1 by omega, pfx_eq]
      · rw [if_neg e]
        have h1 := inner (f_X6_numberOfPrefixes_L4 c n) (sm (fun k => ct (isH wd k) nw) k) k (by omega) FU 0 (by omega) (by have := FU_big; omega)
        rw [show ct (isH wd k) 0 = 0 from rfl, Nat.add_zero, nI_0] at h1
        rw [h1]
        exact ih (k + 1) (by omega) (by omega)
  unfold f_X6_numberOfPrefixes
  have := outer FU 0 (by omega) (by have := FU_big; omega)
  exact this
theorem begin_m {nw ln : Nat} {wd : Nat → Nat → Nat} {m : St} (hW : WL nw ln wd) (hM : ML nw ln wd m) : f_X8_beginnings m = some (nI (pfx nw ln wd)) := by
  have hn := hW.1
  have hl := hW.2.1
  have loop : ∀ (a n j : Nat), j ≤ nw → nw - j < n → f_X8_beginnings_L15 m n (nI (a + sm (fun w => ln - (if w = 0 then 0 else alk ln wd (w - 1) w)) j)) (nI j) = some (nI (a + sm (fun w => ln - (if w = 0 then 0 else alk ln wd (w - 1) w)) nw)) := by
    intro a n
    induction n with
    | zero => intro j _ h2; omega
    | succ n ih =>
      intro j hj hnn
      unfold f_X8_beginnings_L15
      rw [hM.1, ite_leN (by omega) (by omega)]
      by_cases e : nw ≤ j
      · rw [if_pos e, show j = nw by omega]
      · have ih1 := ih (j + 1) (by omega) (by omega)
        rw [if_neg e, ← nI_0, ite_eqN (by omega) (by omega)]
        by_cases e0 : j = 0
        · rw [if_pos e0]
          simp only [f_X8_beginnings_J44, lt, nI_1, hM.2.1]
          rw [pk_sub (Nat.zero_le _), nI_add, ← ih1, sm]
          simp [e0, Nat.add_assoc]
        · rw [if_neg e0, n1, pk_sub (show 1 ≤ j by omega), alike_m hW hM (by omega) (by omega)]
          have ha : alk ln wd (j - 1) j ≤ ln := fs_le _ _
          simp only [Option.bind_some, f_X8_beginnings_J44, lt, nI_1, hM.2.1]
          rw [pk_sub ha, nI_add, ← ih1, sm]
          simp [e0, Nat.add_assoc]
  unfold f_X8_beginnings f_X8_beginnings_J12
  rw [hM.1, ← nI_0, ite_eqN (by omega) (by omega)]
  unfold pfx
  by_cases e : nw = 0
  · rw [if_pos e, if_pos e]
    have := loop 0 FU 0 (by omega) (by have := FU_big; omega)
    exact this
  · rw [if_neg e, if_neg e]
    have := loop 1 FU 0 (by omega) (by have := FU_big; omega)
    exact this
/-- sums of weights -/
theorem sumw_c {nw : Nat} {wt : Nat → Nat} {c m : St} (hn : nw ≤ 12) (hc : c.1 5 = nI nw) (hR : RW nw wt c m) : f_X6_sumOfWeights c = some (nI (sm wt nw)) := by
  have loop : ∀ (n j : Nat), j ≤ nw → nw - j < n → f_X6_sumOfWeights_L4 c n (nI (sm wt j)) (nI j) = some (nI (sm wt nw)) := by
    intro n
    induction n with
    | zero => intro j _ h2; omega
    | succ n ih =>
      intro j hj hnn
      unfold f_X6_sumOfWeights_L4
      rw [hc, ite_leN (by omega) (by omega)]
      by_cases e : nw ≤ j
      · rw [if_pos e, show j = nw by omega]
      · rw [if_neg e, ite_in (show j < 16 by omega) (by decide), nI_clamp (by omega), (hR j (by omega)).2.2.1]
        simp only [lt, nI_1, nI_add]
        exact ih (j + 1) (by omega) (by omega)
  exact loop FU 0 (by omega) (by have := FU_big; omega)
theorem sumw_m {nw : Nat} {wt : Nat → Nat} {c m : St} (hn : nw ≤ 12) (hc : m.1 1 = nI nw) (hR : RW nw wt c m) : f_X8_weightsAll m = some (nI (sm wt nw)) := by
  have loop : ∀ (n j : Nat), j ≤ nw → nw - j < n → f_X8_weightsAll_L4 m n (nI (sm wt j)) (nI j) = some (nI (sm wt nw)) := by
    intro n
    induction n with
    | zero => intro j _ h2; omega
    | succ n ih =>
      intro j hj hnn
      unfold f_X8_weightsAll_L4
      rw [hc, ite_leN (by omega) (by omega)]
      by_cases e : nw ≤ j
      · rw [if_pos e, show j = nw by omega]
      · rw [if_neg e, ite_in (show j < 12 by omega) (by decide), nI_clamp (by omega), (hR j (by omega)).2.2.2]
        simp only [lt, nI_1, nI_add]
        exact ih (j + 1) (by omega) (by omega)
  exact loop FU 0 (by omega) (by have := FU_big; omega)
/-- the number of the reversal, or nw -/
def rv (nw ln : Nat) (wd : Nat → Nat → Nat) (w : Nat) : Nat := fs (fun v => al (fun i => wd v i == wd w (ln - 1 - i)) ln) nw
def orN (n k : Nat) : Int32 := if k < n then nI k else -1
theorem find_c {nw ln : Nat} {wd : Nat → Nat → Nat} {c : St} (hW : WL nw ln wd) (hC : CL nw ln wd c) {g : Nat → Nat} (hg : ∀ i, i < ln → g i < 26) : f_X6_find c (nI (cd ln g)) = some (orN nw (fs (fun v => al (fun i => wd v i == g i) ln) nw)) := by
  have hn := hW.1
  have hl := hW.2.1
  have bg := cd_lt hl hg
  have eqv : ∀ v, v < nw → ((al (fun i => wd v i == g i) ln = true) ↔ cd ln (wd v) = cd ln g) := fun v hv => by
    rw [al_iff]
    constructor
    · intro h
      rw [cd_nb, cd_nb]
      exact nb_congr (fun i hi => by simpa using h i hi)
    · intro h i hi
      rw [cd_nb, cd_nb] at h
      have := nb_inj (fun i hi => by have := hW.2.2.2.2.1 v hv i hi; omega) (fun i hi => by have := hg i hi; omega) h i hi
      simp [this]
  have loop : ∀ (n j : Nat), j ≤ nw → nw - j < n → (∀ i, i < j → al (fun q => wd i q == g q) ln = false) → f_X6_find_L2 c n (nI (cd ln g)) (nI j) = some (orN nw (fs (fun v => al (fun i => wd v i == g i) ln) nw)) := by
    intro n
    induction n with
    | zero => intro j _ h2; omega
    | succ n ih =>
      intro j hj hnn hb
      unfold f_X6_find_L2
      rw [hC.1, ite_leN (by omega) (by omega)]
      by_cases e : nw ≤ j
      · rw [if_pos e, fs_none (fun i hi => hb i (by omega))]
        simp [orN]
      · have bj := cd_lt hl (fun i hi => hW.2.2.2.2.1 j (by omega) i hi)
        rw [if_neg e, ite_in (show j < 16 by omega) (by decide), nI_clamp (by omega), hC.2.2 j (by omega), ite_eqN (by omega) (by omega)]
        by_cases e2 : cd ln (wd j) = cd ln g
        · rw [if_pos e2, fs_eq (k := j) (by omega) ((eqv j (by omega)).mpr e2) hb]
          unfold orN
          rw [if_pos (by omega)]
        · rw [if_neg e2]
          simp only [lt, nI_1]
          refine ih (j + 1) (by omega) (by omega) (fun i hi => ?_)
          by_cases e3 : i = j
          · rw [e3]
            cases h : al (fun q => wd j q == g q) ln with
            | false => rfl
            | true => exact absurd ((eqv j (by omega)).mp h) e2
          · exact hb i (by omega)
  exact loop FU 0 (by omega) (by have := FU_big; omega) (fun i hi => by omega)
theorem cd_small {k : Nat} {g : Nat → Nat} (hk : k ≤ 3) (hg : ∀ i, i < k → g i < 26) : cd k g < 2 ^ 15 := by
  rw [cd_nb]
  have h1 := nb_lt (B := 32) (n := k) (f := g) (fun i hi => by have := hg i hi; omega)
  have h2 : 32 ^ k ≤ 32 ^ 3 := Nat.pow_le_pow_right (by decide) hk
  have h3 : (32 : Nat) ^ 3 = 2 ^ 15 := by decide
  omega
theorem rev_loop {nw ln : Nat} {wd : Nat → Nat → Nat} {c : St} (hW : WL nw ln wd) (hC : CL nw ln wd c) {w : Nat} (hw : w < nw) : ∀ (n j : Nat), j < ln → j + 1 < n → f_X6_reversalOf_L9 c n (nI w) (nI (cd (ln - 1 - j) (fun i => wd w (ln - 1 - i)))) (nI j) = some (nI (cd ln (fun i => wd w (ln - 1 - i)))) := by
  have hl := hW.2.1
  intro n
  induction n with
  | zero => intro j _ h2; omega
  | succ n ih =>
    intro j hj hnn
    have bl := hW.2.2.2.2.1 w hw j hj
    have e1 : cd (ln - 1 - j) (fun i => wd w (ln - 1 - i)) * 32 + wd w j = cd (ln - 1 - j + 1) (fun i => wd w (ln - 1 - i)) := by
      rw [cd]
      have : ln - 1 - (ln - 1 - j) = j := by omega
      rw [this]
    rw [f_X6_reversalOf_L9, if_neg (nI_pos (by omega)), letter_c hW hC hw hj]
    simp only [Option.bind_some, lt]
    rw [shl5 (cd_small (by omega) (fun i hi => hW.2.2.2.2.1 w hw _ (by omega))) (by omega), e1]
    by_cases e : j = 0
    · subst e
      obtain ⟨k, rfl⟩ : ∃ k, n = k + 1 := ⟨n - 1, by omega⟩
      have hneg : nI 0 + (-1) < 0 := by rw [i32_lt]; decide
      rw [f_X6_reversalOf_L9, if_pos hneg, show ln - 1 - 0 + 1 = ln by omega]
    · obtain ⟨i, rfl⟩ : ∃ i, j = i + 1 := ⟨j - 1, by omega⟩
      rw [pk_m1, show ln - 1 - (i + 1) + 1 = ln - 1 - i by omega]
      exact ih i (by omega) (by omega)
theorem rev_c {nw ln : Nat} {wd : Nat → Nat → Nat} {c : St} (hW : WL nw ln wd) (hC : CL nw ln wd c) {w : Nat} (hw : w < nw) : f_X6_reversalOf c (nI w) = some (nI (cd ln (fun i => wd w (ln - 1 - i)))) := by
  have hl := hW.2.1
  have h2 := hW.2.2.2.1 (by omega)
  have h3 := rev_loop hW hC hw FU (ln - 1) (by omega) (by have := FU_big; omega)
  rw [show ln - 1 - (ln - 1) = 0 by omega, show cd 0 (fun i => wd w (ln - 1 - i)) = 0 from rfl, nI_0] at h3
  rw [f_X6_reversalOf, lt, hC.2.1, n1, pk_sub (by omega)]
  exact h3
theorem mirror_c {nw ln : Nat} {wd : Nat → Nat → Nat} {c : St} (hW : WL nw ln wd) (hC : CL nw ln wd c) {w : Nat} (hw : w < nw) : (f_X6_reversalOf c (nI w)).bind (fun b => f_X6_find c b) = some (orN nw (rv nw ln wd w)) := by
  rw [rev_c hW hC hw]
  exact find_c hW hC (fun i hi => hW.2.2.2.2.1 w hw _ (by omega))
theorem mirror_m {nw ln : Nat} {wd : Nat → Nat → Nat} {m : St} (hW : WL nw ln wd) (hM : ML nw ln wd m) {w : Nat} (hw : w < nw) : f_X8_mirrorOf m (nI w) = some (orN nw (rv nw ln wd w)) := by
  have hn := hW.1
  have hl := hW.2.1
  have inner : ∀ (r2 : Int32 → Int32 → Option Int32) (v : Nat), v < nw → ∀ (n k : Nat), k ≤ ln → ln - k < n → f_X8_mirrorOf_L15 m r2 n (nI w) (nI v) (bi (al (fun i => wd v i == wd w (ln - 1 - i)) k)) (nI k) = if al (fun i => wd v i == wd w (ln - 1 - i)) ln then some (nI v) else r2 (nI w) (nI (v + 1)) := by
    intro r2 v hv n
    induction n with
    | zero => intro k _ h2; omega
    | succ n ih =>
      intro k hk hnn
      unfold f_X8_mirrorOf_L15
      rw [hM.2.1, ite_leN (by omega) (by omega)]
      by_cases e : ln ≤ k
      · rw [if_pos e, show k = ln by omega]
        simp only [lt, nI_1]
        cases h : al (fun i => wd v i == wd w (ln - 1 - i)) ln with
        | false => simp [bi]
        | true => simp [bi]
      · have ih1 := ih (k + 1) (by omega) (by omega)
        rw [if_neg e]
        cases h : al (fun i => wd v i == wd w (ln - 1 - i)) k with
        | false =>
          rw [bi_f, if_pos rfl]
          simp only [f_X8_mirrorOf_J56, f_X8_mirrorOf_J57, lt, nI_1]
          rw [al, h] at ih1
          exact ih1
        | true =>
          rw [bi_t, if_neg (by decide), at_m hW hM hv (by omega), n1, pk_sub (by omega), pk_sub (by omega), at_m hW hM hw (by omega)]
          have b1 := hW.2.2.2.2.1 v hv k (by omega)
          have b2 := hW.2.2.2.2.1 w hw (ln - 1 - k) (by omega)
          simp only [Option.bind_some, f_X8_mirrorOf_J56, f_X8_mirrorOf_J57, lt]
          rw [ite_eqN (by omega) (by omega), ← n1, nI_1]
          rw [al, h] at ih1
          by_cases e2 : wd v k = wd w (ln - 1 - k)
          · rw [if_pos (by omega)]
            simp only [e2, beq_self_eq_true, Bool.and_true] at ih1
            exact ih1
          · rw [if_neg (by omega)]
            have e3 : (wd v k == wd w (ln - 1 - k)) = false := by simp [e2]
            rw [e3] at ih1
            exact ih1
  have outer : ∀ (n j : Nat), j ≤ nw → nw - j < n → (∀ i, i < j → al (fun q => wd i q == wd w (ln - 1 - q)) ln = false) → f_X8_mirrorOf_L2 m n (nI w) (nI j) = some (orN nw (rv nw ln wd w)) := by
    intro n
    induction n with
    | zero => intro j _ h2; omega
    | succ n ih =>
      intro j hj hnn hb
      unfold f_X8_mirrorOf_L2
      rw [hM.1, ite_leN (by omega) (by omega)]
      unfold rv
      by_cases e : nw ≤ j
      · rw [if_pos e, fs_none (fun i hi => hb i (by omega))]
        simp [orN]
      · rw [if_neg e]
        have h1 := inner (f_X8_mirrorOf_L2 m n) j (by omega) FU 0 (by omega) (by have := FU_big; omega)
        rw [al, bi_t, nI_0] at h1
        rw [h1]
        cases h : al (fun i => wd j i == wd w (ln - 1 - i)) ln with
        | true =>
          rw [if_pos rfl, fs_eq (k := j) (by omega) h hb]
          unfold orN
          rw [if_pos (by omega)]
        | false =>
          rw [if_neg (by decide)]
          exact ih (j + 1) (by omega) (by omega) (fun i hi => by
            by_cases e3 : i = j
            · rw [e3]; exact h
            · exact hb i (by omega))
  exact outer FU 0 (by omega) (by have := FU_big; omega) (fun i hi => by omega)
theorem orN_m1 {n k : Nat} (hn : n < 2 ^ 31) : (orN n k = -1) = ¬ (k < n) := by
  unfold orN
  by_cases e : k < n
  · rw [if_pos e]
    exact propext ⟨fun h => absurd h (nI_ne_m1 (by omega)), fun h => absurd e h⟩
  · rw [if_neg e]; exact propext ⟨fun _ => e, fun _ => rfl⟩
theorem ite_orN {α : Type} {n k : Nat} (hn : n < 2 ^ 31) (x y : α) : (if orN n k = -1 then x else y) = if k < n then y else x := by
  by_cases e : k < n
  · rw [if_neg (by rw [orN_m1 hn]; exact fun h => h e), if_pos e]
  · rw [if_pos (by rw [orN_m1 hn]; exact e), if_neg e]
theorem nrev_c {nw ln : Nat} {wd : Nat → Nat → Nat} {c : St} (hW : WL nw ln wd) (hC : CL nw ln wd c) : f_X6_numberOfReversible c = some (nI (ct (fun w => decide (rv nw ln wd w < nw)) nw)) := by
  have hn := hW.1
  have loop : ∀ (n j : Nat), j ≤ nw → nw - j < n → f_X6_numberOfReversible_L4 c n (nI (ct (fun w => decide (rv nw ln wd w < nw)) j)) (nI j) = some (nI (ct (fun w => decide (rv nw ln wd w < nw)) nw)) := by
    intro n
    induction n with
    | zero => intro j _ h2; omega
    | succ n ih =>
      intro j hj hnn
      unfold f_X6_numberOfReversible_L4
      rw [hC.1, ite_leN (by omega) (by omega)]
      by_cases e : nw ≤ j
      · rw [if_pos e, show j = nw by omega]
      · have ih1 := ih (j + 1) (by omega) (by omega)
        have h1 := mirror_c hW hC (w := j) (by omega)
        rw [if_neg e, rev_c hW hC (by omega)]
        rw [rev_c hW hC (by omega)] at h1
        simp only [Option.bind_some] at h1 ⊢
        rw [h1]
        simp only [Option.bind_some, f_X6_numberOfReversible_J28, lt, nI_1]
        rw [ite_orN (by omega), ← ih1, ct]
        by_cases e2 : rv nw ln wd j < nw
        · simp [e2]
        · simp [e2]
  exact loop FU 0 (by omega) (by have := FU_big; omega)
theorem nrev_m {nw ln : Nat} {wd : Nat → Nat → Nat} {m : St} (hW : WL nw ln wd) (hM : ML nw ln wd m) : f_X8_mirrored m = some (nI (ct (fun w => decide (rv nw ln wd w < nw)) nw)) := by
  have hn := hW.1
  have loop : ∀ (n j : Nat), j ≤ nw → nw - j < n → f_X8_mirrored_L4 m n (nI (ct (fun w => decide (rv nw ln wd w < nw)) j)) (nI j) = some (nI (ct (fun w => decide (rv nw ln wd w < nw)) nw)) := by
    intro n
    induction n with
    | zero => intro j _ h2; omega
    | succ n ih =>
      intro j hj hnn
      unfold f_X8_mirrored_L4
      rw [hM.1, ite_leN (by omega) (by omega)]
      by_cases e : nw ≤ j
      · rw [if_pos e, show j = nw by omega]
      · have ih1 := ih (j + 1) (by omega) (by omega)
        rw [if_neg e, mirror_m hW hM (by omega)]
        simp only [Option.bind_some, f_X8_mirrored_J27, lt, nI_1]
        rw [ite_orN (by omega), ← ih1, ct]
        by_cases e2 : rv nw ln wd j < nw
        · simp [e2]
        · simp [e2]
  exact loop FU 0 (by omega) (by have := FU_big; omega)
