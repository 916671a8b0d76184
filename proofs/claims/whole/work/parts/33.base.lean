/-! digits; firsts, counts -/
def nb (B : Nat) : Nat → (Nat → Nat) → Nat
  | 0, _ => 0
  | n + 1, f => nb B n f * B + f n
theorem cd_nb (f : Nat → Nat) : ∀ n, cd n f = nb 32 n f
  | 0 => rfl
  | n + 1 => by rw [cd, nb, cd_nb f n]
theorem pkd_nb (f : Nat → Nat) : ∀ n, pkd n f = nb 16 n f
  | 0 => rfl
  | n + 1 => by rw [pkd, nb, pkd_nb f n]
theorem nb_lt {B : Nat} {f : Nat → Nat} : ∀ {n : Nat}, (∀ i, i < n → f i < B) → nb B n f < B ^ n
  | 0, _ => by simp [nb]
  | n + 1, h => by
    have h1 := nb_lt (B := B) (f := f) (n := n) (fun i hi => h i (by omega))
    have h2 := h n (by omega)
    rw [nb, Nat.pow_succ]
    have h3 : nb B n f + 1 ≤ B ^ n := h1
    have h4 := Nat.mul_le_mul_right B h3
    rw [Nat.add_mul] at h4
    omega
theorem nb_div {B : Nat} {f : Nat → Nat} {k : Nat} : ∀ {n : Nat}, k ≤ n → (∀ i, i < n → f i < B) → nb B n f / B ^ (n - k) = nb B k f
  | 0, hk, _ => by rw [show k = 0 by omega]; simp [nb]
  | n + 1, hk, h => by
    by_cases e : k = n + 1
    · rw [e, Nat.sub_self, Nat.pow_zero, Nat.div_one]
    · have ih := nb_div (B := B) (f := f) (k := k) (n := n) (by omega) (fun i hi => h i (by omega))
      have hn := h n (by omega)
      rw [nb, show n + 1 - k = (n - k) + 1 by omega, Nat.pow_succ, Nat.mul_comm (B ^ (n - k)) B, ← Nat.div_div_eq_div_mul, Nat.mul_comm (nb B n f) B, Nat.mul_add_div (by omega), Nat.div_eq_of_lt hn, Nat.add_zero]
      exact ih
theorem nb_dig {B : Nat} {f : Nat → Nat} {n p : Nat} (hp : p < n) (h : ∀ i, i < n → f i < B) : nb B n f / B ^ (n - 1 - p) % B = f p := by
  rw [show n - 1 - p = n - (p + 1) by omega, nb_div (by omega) h, nb, Nat.mul_comm, Nat.mul_add_mod]
  exact Nat.mod_eq_of_lt (h p hp)
theorem nb_congr {B : Nat} {f g : Nat → Nat} : ∀ {n : Nat}, (∀ i, i < n → f i = g i) → nb B n f = nb B n g
  | 0, _ => rfl
  | n + 1, h => by rw [nb, nb, nb_congr (fun i hi => h i (by omega)), h n (by omega)]
theorem nb_inj {B n : Nat} {f g : Nat → Nat} (hf : ∀ i, i < n → f i < B) (hg : ∀ i, i < n → g i < B) (h : nb B n f = nb B n g) : ∀ i, i < n → f i = g i := fun i hi => by
  rw [← nb_dig hi hf, ← nb_dig hi hg, h]
theorem nb_of {B x : Nat} (hB : 0 < B) : ∀ {n : Nat}, x < B ^ n → nb B n (fun r => x / B ^ (n - 1 - r) % B) = x := by
  intro n
  induction n generalizing x with
  | zero => intro h; simp at h; simp [nb, h]
  | succ n ih =>
    intro h
    rw [nb]
    have h1 : x / B < B ^ n := by
      apply Nat.div_lt_of_lt_mul
      rw [Nat.mul_comm, ← Nat.pow_succ]; exact h
    have h2 := ih h1
    have h3 : nb B n (fun r => x / B ^ (n + 1 - 1 - r) % B) = nb B n (fun r => x / B / B ^ (n - 1 - r) % B) := nb_congr (fun i hi => by
      rw [Nat.div_div_eq_div_mul, show n + 1 - 1 - i = (n - 1 - i) + 1 by omega, Nat.pow_succ, Nat.mul_comm B])
    rw [h3, h2, show n + 1 - 1 - n = 0 by omega, Nat.pow_zero, Nat.div_one, Nat.mul_comm]
    exact Nat.div_add_mod x B
theorem al_iff {p : Nat → Bool} : ∀ {n : Nat}, al p n = true ↔ ∀ i, i < n → p i = true
  | 0 => ⟨fun _ i hi => by omega, fun _ => rfl⟩
  | n + 1 => by
    rw [al, Bool.and_eq_true, al_iff]
    constructor
    · intro ⟨h1, h2⟩ i hi
      by_cases e : i = n
      · rw [e]; exact h2
      · exact h1 i (by omega)
    · intro h
      exact ⟨fun i hi => h i (by omega), h n (by omega)⟩
theorem an_iff {p : Nat → Bool} : ∀ {n : Nat}, an p n = true ↔ ∃ i, i < n ∧ p i = true
  | 0 => ⟨fun h => (by cases h), fun ⟨i, hi, _⟩ => (by omega)⟩
  | n + 1 => by
    rw [an, Bool.or_eq_true, an_iff]
    constructor
    · rintro (⟨i, h1, h2⟩ | h)
      · exact ⟨i, by omega, h2⟩
      · exact ⟨n, by omega, h⟩
    · rintro ⟨i, h1, h2⟩
      by_cases e : i = n
      · rw [e] at h2; exact Or.inr h2
      · exact Or.inl ⟨i, by omega, h2⟩
theorem al_congr {p q : Nat → Bool} : ∀ {n : Nat}, (∀ i, i < n → p i = q i) → al p n = al q n
  | 0, _ => rfl
  | n + 1, h => by rw [al, al, al_congr (fun i hi => h i (by omega)), h n (by omega)]
theorem an_congr {p q : Nat → Bool} : ∀ {n : Nat}, (∀ i, i < n → p i = q i) → an p n = an q n
  | 0, _ => rfl
  | n + 1, h => by rw [an, an, an_congr (fun i hi => h i (by omega)), h n (by omega)]
theorem ct_congr {p q : Nat → Bool} : ∀ {n : Nat}, (∀ i, i < n → p i = q i) → ct p n = ct q n
  | 0, _ => rfl
  | n + 1, h => by rw [ct, ct, ct_congr (fun i hi => h i (by omega)), h n (by omega)]
theorem sm_congr {p q : Nat → Nat} : ∀ {n : Nat}, (∀ i, i < n → p i = q i) → sm p n = sm q n
  | 0, _ => rfl
  | n + 1, h => by rw [sm, sm, sm_congr (fun i hi => h i (by omega)), h n (by omega)]
theorem fs_congr {p q : Nat → Bool} : ∀ {n : Nat}, (∀ i, i < n → p i = q i) → fs p n = fs q n
  | 0, _ => rfl
  | n + 1, h => by rw [fs, fs, fs_congr (fun i hi => h i (by omega)), h n (by omega)]
theorem ct_le (p : Nat → Bool) : ∀ n, ct p n ≤ n
  | 0 => Nat.le_refl _
  | n + 1 => by
    have := ct_le p n
    rw [ct]
    split <;> omega
theorem fs_le (p : Nat → Bool) : ∀ n, fs p n ≤ n
  | 0 => Nat.le_refl _
  | n + 1 => by
    have := fs_le p n
    rw [fs]
    split
    · omega
    · split <;> omega
theorem fs_min (p : Nat → Bool) : ∀ {n i : Nat}, i < fs p n → p i = false
  | 0, i, h => by simp [fs] at h
  | n + 1, i, h => by
    have ih := fs_min p (n := n) (i := i)
    have hle := fs_le p n
    rw [fs] at h
    by_cases h1 : fs p n < n
    · rw [if_pos h1] at h; exact ih h
    · rw [if_neg h1] at h
      by_cases h2 : p n = true
      · rw [if_pos h2] at h; exact ih (by omega)
      · by_cases e : i = n
        · rw [e]; simpa using h2
        · rw [if_neg h2] at h; exact ih (by omega)
theorem fs_yes (p : Nat → Bool) : ∀ {n : Nat}, fs p n < n → p (fs p n) = true
  | 0, h => by omega
  | n + 1, h => by
    rw [fs] at h ⊢
    by_cases h1 : fs p n < n
    · rw [if_pos h1]; exact fs_yes p h1
    · rw [if_neg h1] at h ⊢
      by_cases h2 : p n = true
      · rw [if_pos h2]; exact h2
      · rw [if_neg h2] at h; omega
theorem fs_eq {p : Nat → Bool} {n k : Nat} (hk : k < n) (hp : p k = true) (h : ∀ i, i < k → p i = false) : fs p n = k := by
  rcases Nat.lt_trichotomy (fs p n) k with q | q | q
  · have := fs_yes p (n := n) (by omega)
    rw [h _ q] at this; cases this
  · exact q
  · have := fs_min p q
    rw [hp] at this; cases this
theorem fs_none {p : Nat → Bool} {n : Nat} (h : ∀ i, i < n → p i = false) : fs p n = n := by
  rcases Nat.lt_or_ge (fs p n) n with q | q
  · have := fs_yes p q
    rw [h _ q] at this; cases this
  · have := fs_le p n; omega
theorem fs_lt_iff {p : Nat → Bool} {n : Nat} : fs p n < n ↔ ∃ i, i < n ∧ p i = true := by
  constructor
  · intro h; exact ⟨_, h, fs_yes p h⟩
  · rintro ⟨i, h1, h2⟩
    rcases Nat.lt_or_ge (fs p n) n with q | q
    · exact q
    · have := fs_min p (n := n) (i := i) (by omega)
      rw [h2] at this; cases this
/-! letters -/
theorem n1 : (1 : Int32) = nI 1 := rfl
theorem n5 : (5 : Int32) = nI 5 := rfl
theorem n97 : (97 : Int32) = nI 97 := rfl
theorem pow5 (k : Nat) : 2 ^ (5 * k) = 32 ^ k := by rw [Nat.pow_mul]
theorem cd_lt {ln : Nat} {f : Nat → Nat} (hl : ln ≤ 4) (h : ∀ i, i < ln → f i < 26) : cd ln f < 2 ^ 20 := by
  rw [cd_nb]
  have h1 := nb_lt (B := 32) (n := ln) (f := f) (fun i hi => by have := h i hi; omega)
  have h2 : 32 ^ ln ≤ 32 ^ 4 := Nat.pow_le_pow_right (by decide) hl
  have h3 : (32 : Nat) ^ 4 = 2 ^ 20 := by decide
  omega
/-- a letter, a beginning, of the class -/
theorem shift_amt {ln p : Nat} (hl : ln ≤ 4) (hp : p < ln) : (5 * ((nI ln - 1) - nI p)) = nI (5 * (ln - 1 - p)) := by
  rw [n1, pk_sub (show 1 ≤ ln by omega), pk_sub (show p ≤ ln - 1 by omega), n5, pk_mul]
theorem letter_c {nw ln : Nat} {wd : Nat → Nat → Nat} {c : St} (hW : WL nw ln wd) (hC : CL nw ln wd c) {w p : Nat} (hw : w < nw) (hp : p < ln) : f_X6_letterAt c (nI w) (nI p) = some (nI (wd w p)) := by
  have hn := hW.1
  have hl := hW.2.1
  have h26 : ∀ i, i < ln → wd w i < 32 := fun i hi => by have := hW.2.2.2.2.1 w hw i hi; omega
  have hcd := cd_lt hl (fun i hi => hW.2.2.2.2.1 w hw i hi)
  unfold f_X6_letterAt
  rw [and15 (by omega), ite_in (show w < 16 by omega) (by decide), nI_clamp (by omega), hC.2.2 w hw, hC.2.1, shift_amt hl hp, shr_nI (by omega) (by omega), pow5, and_nI (by
    have : cd ln (wd w) / 32 ^ (ln - 1 - p) ≤ cd ln (wd w) := Nat.div_le_self _ _
    omega) 5 (by decide), cd_nb, nb_dig hp h26]
theorem prefix_c {nw ln : Nat} {wd : Nat → Nat → Nat} {c : St} (hW : WL nw ln wd) (hC : CL nw ln wd c) {w k : Nat} (hw : w < nw) (hk : k ≤ ln) : f_X6_prefixOf c (nI w) (nI k) = some (nI (cd k (wd w))) := by
  have hn := hW.1
  have hl := hW.2.1
  have h26 : ∀ i, i < ln → wd w i < 32 := fun i hi => by have := hW.2.2.2.2.1 w hw i hi; omega
  have hcd := cd_lt hl (fun i hi => hW.2.2.2.2.1 w hw i hi)
  unfold f_X6_prefixOf
  rw [and15 (by omega), ite_in (show w < 16 by omega) (by decide), nI_clamp (by omega), hC.2.2 w hw, hC.2.1, pk_sub hk, n5, pk_mul, shr_nI (by omega) (by omega), pow5, cd_nb, nb_div hk h26, cd_nb]
theorem at_m {nw ln : Nat} {wd : Nat → Nat → Nat} {m : St} (hW : WL nw ln wd) (hM : ML nw ln wd m) {w i : Nat} (hw : w < nw) (hi : i < ln) : f_X8_at m (nI w) (nI i) = some (nI (97 + wd w i)) := by
  have hn := hW.1
  have hl := hW.2.1
  unfold f_X8_at
  rw [show (4 : Int32) = nI 4 from rfl, pk_mul, nI_add, ite_in (show 4 * w + i < 48 by omega) (by decide), nI_clamp (by omega), hM.2.2 w hw i hi]
/-- how many first letters two words have alike -/
def alk (ln : Nat) (wd : Nat → Nat → Nat) (v w : Nat) : Nat := fs (fun i => !(wd v i == wd w i)) ln
theorem alike_m {nw ln : Nat} {wd : Nat → Nat → Nat} {m : St} (hW : WL nw ln wd) (hM : ML nw ln wd m) {v w : Nat} (hv : v < nw) (hw : w < nw) : f_X8_alike m (nI v) (nI w) = some (nI (alk ln wd v w)) := by
  have hl := hW.2.1
  have key : ∀ (n k : Nat), k ≤ ln → ln - k < n → (∀ i, i < k → wd v i = wd w i) → f_X8_alike_L2 m n (nI v) (nI w) (nI k) = some (nI (alk ln wd v w)) := by
    intro n
    induction n with
    | zero => intro k _ h2; omega
    | succ n ih =>
      intro k hk hn he
      unfold f_X8_alike_L2 f_X8_alike_J31
      rw [hM.2.1, ite_leN (by omega) (by omega)]
      by_cases e : ln ≤ k
      · rw [if_pos e]
        have : alk ln wd v w = ln := fs_none (fun i hi => by simp [he i (by omega)])
        rw [this, show k = ln by omega]
      · rw [if_neg e, at_m hW hM hv (by omega), at_m hW hM hw (by omega)]
        have h1 := hW.2.2.2.2.1 v hv k (by omega)
        have h2 := hW.2.2.2.2.1 w hw k (by omega)
        simp only [Option.bind_some, lt]
        rw [ite_eqN (by omega) (by omega), nI_1]
        by_cases e2 : wd v k = wd w k
        · rw [if_pos (by omega)]
          exact ih (k + 1) (by omega) (by omega) (fun i hi => by
            by_cases e3 : i = k
            · rw [e3]; exact e2
            · exact he i (by omega))
        · rw [if_neg (by omega)]
          have : alk ln wd v w = k := fs_eq (by omega) (by simp [e2]) (fun i hi => by simp [he i hi])
          rw [this]
  unfold f_X8_alike
  exact key FU 0 (by omega) (by have := FU_big; omega) (fun i hi => by omega)
theorem alk_ge {ln : Nat} {wd : Nat → Nat → Nat} {v w k : Nat} (hk : k ≤ ln) : k ≤ alk ln wd v w ↔ sp wd k v w = true := by
  unfold sp
  rw [al_iff]
  constructor
  · intro h i hi
    have := fs_min (fun i => !(wd v i == wd w i)) (n := ln) (i := i) (by unfold alk at h; omega)
    simpa using this
  · intro h
    rcases Nat.lt_or_ge (alk ln wd v w) k with q | q
    · have h1 := fs_yes (fun i => !(wd v i == wd w i)) (n := ln) (by unfold alk at q; omega)
      have h2 := h _ q
      unfold alk at h2
      simp at h1 h2
      exact absurd h2 h1
    · exact q
theorem sp_cd {nw ln : Nat} {wd : Nat → Nat → Nat} (hW : WL nw ln wd) {v w k : Nat} (hv : v < nw) (hw : w < nw) (hk : k ≤ ln) : sp wd k v w = decide (cd k (wd v) = cd k (wd w)) := by
  have h1 : ∀ i, i < k → wd v i < 32 := fun i hi => by have := hW.2.2.2.2.1 v hv i (by omega); omega
  have h2 : ∀ i, i < k → wd w i < 32 := fun i hi => by have := hW.2.2.2.2.1 w hw i (by omega); omega
  by_cases e : cd k (wd v) = cd k (wd w)
  · rw [decide_eq_true e]
    rw [cd_nb, cd_nb] at e
    exact al_iff.mpr (fun i hi => by simp [nb_inj h1 h2 e i hi])
  · rw [decide_eq_false e]
    cases h : sp wd k v w with
    | false => rfl
    | true =>
      exact absurd (by rw [cd_nb, cd_nb]; exact nb_congr (fun i hi => by have := al_iff.mp h i hi; simpa using this)) e
theorem op8 : Op_8 Rel := by
  intro c m a b hR
  have hR0 := hR
  obtain ⟨nw, ln, wd, wt, tl, tx, bd, hWL, hRT, hCL, hML, hRW, hRB, hRN, hRF, hRP, hRH, hRK⟩ := hR
  rcases has_both hWL.1 hCL.1 hML.1 a with ⟨w, hw, rfl, h1, h2⟩ | ⟨h1, h2⟩
  · rcases place_both hWL.2.1 hCL.2.1 hML.2.1 b with ⟨r, hr, rfl, h3, -, h4⟩ | ⟨h3, -, h4⟩
    · refine ⟨nI (97 + wd w r), ?_, ?_, hR0⟩
      · simp only [f_X7_sign, h1, Option.bind_some, i10, if_false, h3, letter_c hWL hCL hw hr, n97, nI_add]
      · simp only [f_X8_sign, h2, Option.bind_some, i10, if_false, hML.2.1, h4, at_m hWL hML hw hr]
    · refine ⟨-101, ?_, ?_, hR0⟩
      · simp only [f_X7_sign, f_X7_sign_J22, h1, Option.bind_some, i10, if_false, h3, i00, if_true]
      · simp only [f_X8_sign, f_X8_sign_J31, h2, Option.bind_some, i10, if_false, hML.2.1, h4, i00, if_true]
  · refine ⟨-101, ?_, ?_, hR0⟩
    · simp only [f_X7_sign, f_X7_sign_J22, h1, Option.bind_some, i00, if_true]
    · simp only [f_X8_sign, f_X8_sign_J31, h2, Option.bind_some, i00, if_true]
theorem nI_bd {a b : Nat} (h : a = b) : nI a = nI b := by rw [h]
theorem op9 : Op_9 Rel := by
  intro c m a b hR
  have hR0 := hR
  obtain ⟨nw, ln, wd, wt, tl, tx, bd, hWL, hRT, hCL, hML, hRW, hRB, hRN, hRF, hRP, hRH, hRK⟩ := hR
  have hn := hWL.1
  have hl := hWL.2.1
  rcases has_both hWL.1 hCL.1 hML.1 a with ⟨w, hw, rfl, h1, h2⟩ | ⟨h1, h2⟩
  · rcases idx_cases b (show ln + 1 < 2 ^ 31 by omega) with ⟨k, hk, rfl⟩ | hb
    · have hin : f_X8_within (nI k) 0 (nI ln) = some 1 := within_t (nI_pos (by omega)) (by rw [nI_lt_iff (by omega) (by omega)]; omega)
      refine ⟨nI (ct (fun v => sp wd k w v) nw), ?_, ?_, hR0⟩
      · have key : ∀ (n j : Nat), j ≤ nw → nw - j < n → f_X6_numberWithPrefix_L5 c n (nI (cd k (wd w))) (nI k) (nI (ct (fun v => sp wd k w v) j)) (nI j) = some (nI (ct (fun v => sp wd k w v) nw)) := by
          intro n
          induction n with
          | zero => intro j _ h2; omega
          | succ n ih =>
            intro j hj hnn
            unfold f_X6_numberWithPrefix_L5
            rw [hCL.1, ite_leN (by omega) (by omega)]
            by_cases e : nw ≤ j
            · rw [if_pos e, show j = nw by omega]
            · have ih1 := ih (j + 1) (by omega) (by omega)
              rw [if_neg e, prefix_c hWL hCL (by omega) (by omega)]
              have b1 : cd k (wd j) < 2 ^ 20 := cd_lt (by omega) (fun i hi => hWL.2.2.2.2.1 j (by omega) i (by omega))
              have b2 : cd k (wd w) < 2 ^ 20 := cd_lt (by omega) (fun i hi => hWL.2.2.2.2.1 w (by omega) i (by omega))
              simp only [Option.bind_some, lt, f_X6_numberWithPrefix_J28, nI_1]
              rw [ite_eqN (by omega) (by omega), ← ih1, ct, sp_cd hWL hw (by omega) (by omega)]
              by_cases e2 : cd k (wd j) = cd k (wd w)
              · rw [if_pos e2]; simp [e2]
              · rw [if_neg e2]
                have e3 : ¬ (cd k (wd w) = cd k (wd j)) := fun q => e2 q.symm
                simp [e3]
        simp only [f_X7_begins, h1, Option.bind_some, i10, if_false, f_X6_length, hCL.2.1]
        rw [if_neg (nI_pos (by omega)), ite_leN (by omega) (by omega), if_pos (by omega), prefix_c hWL hCL hw (by omega)]
        simp only [Option.bind_some, f_X6_numberWithPrefix]
        have := key FU 0 (by omega) (by have := FU_big; omega)
        rw [show (ct (fun v => sp wd k w v) 0) = 0 from rfl, nI_0] at this
        rw [this]; rfl
      · have key : ∀ (n j : Nat), j ≤ nw → nw - j < n → f_X8_beginsNow_L5 m n (nI w) (nI k) (nI (ct (fun v => sp wd k w v) j)) (nI j) = some (nI (ct (fun v => sp wd k w v) nw)) := by
          intro n
          induction n with
          | zero => intro j _ h2; omega
          | succ n ih =>
            intro j hj hnn
            unfold f_X8_beginsNow_L5
            rw [hML.1, ite_leN (by omega) (by omega)]
            by_cases e : nw ≤ j
            · rw [if_pos e, show j = nw by omega]
            · have ih1 := ih (j + 1) (by omega) (by omega)
              rw [if_neg e, alike_m hWL hML hw (by omega)]
              have b1 : alk ln wd w j ≤ ln := fs_le _ _
              simp only [Option.bind_some, lt, f_X8_beginsNow_J31, nI_1]
              rw [ite_ltN (by omega) (by omega), ← ih1, ct]
              have b2 := alk_ge (ln := ln) (wd := wd) (v := w) (w := j) (k := k) (by omega)
              by_cases e2 : alk ln wd w j < k
              · rw [if_pos e2]
                have e3 : ¬ (sp wd k w j = true) := fun q => by have := b2.mpr q; omega
                simp [e3]
              · rw [if_neg e2]
                have e3 : sp wd k w j = true := b2.mp (by omega)
                simp [e3, nI_1]
        simp only [f_X8_begins, h2, Option.bind_some, i10, if_false, hML.2.1, hin, f_X8_beginsNow]
        have := key FU 0 (by omega) (by have := FU_big; omega)
        rw [show (ct (fun v => sp wd k w v) 0) = 0 from rfl, nI_0] at this
        rw [this]; rfl
    · have hb2 : b < 0 ∨ nI ln < b := by
        rw [i32_lt, i32_lt, nI_toInt (by omega), i0]; omega
      refine ⟨-102, ?_, ?_, hR0⟩
      · simp only [f_X7_begins, f_X7_begins_J29, h1, Option.bind_some, i10, if_false, f_X6_length, hCL.2.1]
        by_cases e : b < 0
        · rw [if_pos e]
        · rw [if_neg e, if_neg (by have := hb2.resolve_left e; rw [i32_lt] at this; rw [i32_le]; omega)]
      · simp only [f_X8_begins, h2, Option.bind_some, i10, if_false, hML.2.1, within_f hb2, i00, if_true]
  · refine ⟨-101, ?_, ?_, hR0⟩
    · simp only [f_X7_begins, h1, Option.bind_some, i00, if_true]
    · simp only [f_X8_begins, h2, Option.bind_some, i00, if_true]
