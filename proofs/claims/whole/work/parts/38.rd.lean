section
/-! the class reads its squares -/
theorem ct_mono (P : Nat → Bool) {x y : Nat} (h : x ≤ y) : ct P x ≤ ct P y := by
  induction y with
  | zero => rw [show x = 0 by omega]; exact Nat.le_refl _
  | succ y ih =>
    by_cases e : x = y + 1
    · rw [e]; exact Nat.le_refl _
    · have := ih (by omega)
      rw [ct]; omega
theorem ct_lt {P : Nat → Bool} {x n : Nat} (hx : x < n) (hp : P x = true) : ct P x < ct P n := by
  have h1 := ct_mono P (show x + 1 ≤ n by omega)
  rw [ct, if_pos hp] at h1
  omega
theorem ct_nth {P : Nat → Bool} : ∀ {n i : Nat}, i < ct P n → ∃ x, x < n ∧ P x = true ∧ ct P x = i
  | 0, i, h => by simp [ct] at h
  | n + 1, i, h => by
    rw [ct] at h
    by_cases e : i < ct P n
    · obtain ⟨x, h1, h2, h3⟩ := ct_nth e
      exact ⟨x, by omega, h2, h3⟩
    · by_cases hp : P n = true
      · rw [if_pos hp] at h
        exact ⟨n, by omega, hp, by omega⟩
      · rw [if_neg hp] at h; omega
theorem ushr16 {n : Nat} (h : n < 2 ^ 32) : ((nI n).toUInt32 >>> (Int32.toUInt32 16 &&& Int32.toUInt32 31)).toInt32 = nI (n / 2 ^ 16) := pk_ushrN h 16 16 (by decide)
theorem n4 : (4 : Int32) = nI 4 := rfl
theorem pkd_lt {n : Nat} {f : Nat → Nat} (hn : n ≤ 4) (h : ∀ i, i < n → f i < 16) : pkd n f < 65536 := by
  rw [pkd_nb]
  have h1 := nb_lt (B := 16) (n := n) (f := f) h
  have h2 : 16 ^ n ≤ 16 ^ 4 := Nat.pow_le_pow_right (by decide) hn
  have h3 : (16 : Nat) ^ 4 = 65536 := by decide
  omega
theorem pow4 (k : Nat) : 2 ^ (4 * k) = 16 ^ k := by rw [Nat.pow_mul]
theorem pw_c {ln : Nat} {f : Nat → Nat} (hl : ln ≤ 4) (h : ∀ i, i < ln → f i < 16) {p : Nat} (hp : p < ln) : f_X7_packedWord (nI (pkd ln f)) (nI p) (nI ln) = some (nI (f p)) := by
  have hb := pkd_lt hl h
  unfold f_X7_packedWord
  rw [n1, pk_sub (show 1 ≤ ln by omega), pk_sub (show p ≤ ln - 1 by omega), n4, pk_mul, shr_nI (by omega) (by omega), pow4, and_nI (by
    have : pkd ln f / 16 ^ (ln - 1 - p) ≤ pkd ln f := Nat.div_le_self _ _
    omega) 4 (by decide), pkd_nb, show (2 : Nat) ^ 4 = 16 by decide, nb_dig hp h]
theorem has_c {nw ln : Nat} {wd : Nat → Nat → Nat} {c : St} (hW : WL nw ln wd) {k : Nat} (hS : SQ nw ln wd c k (NN nw ln)) (a : Int32) : (∃ x, x < NN nw ln ∧ PK nw ln wd k x = true ∧ a = nI (ct (PK nw ln wd k) x) ∧ f_X4_has c k a = some 1) ∨ ((a.toInt < 0 ∨ (ct (PK nw ln wd k) (NN nw ln) : Int) ≤ a.toInt) ∧ f_X4_has c k a = some 0) := by
  have hN := NN_le hW
  have hc := ct_le (PK nw ln wd k) (NN nw ln)
  rcases idx_cases a (show ct (PK nw ln wd k) (NN nw ln) < 2 ^ 31 by omega) with ⟨i, hi, rfl⟩ | h
  · obtain ⟨x, h1, h2, h3⟩ := ct_nth hi
    refine Or.inl ⟨x, h1, h2, by rw [h3], ?_⟩
    rw [f_X4_has, hS.1, if_neg (nI_pos (by omega)), ite_leN (by omega) (by omega), if_neg (by omega)]
  · refine Or.inr ⟨h, ?_⟩
    unfold f_X4_has f_X4_has_J16
    rw [hS.1]
    by_cases e : a < 0
    · rw [if_pos e]
    · rw [if_neg e, if_pos]
      rw [i32_lt, i0] at e
      rw [i32_le, nI_toInt (by omega)]
      omega
theorem lens_c {nw ln : Nat} {wd : Nat → Nat → Nat} {c : St} {k x : Nat} (hk : k < 3) (hS : SQ nw ln wd c k (NN nw ln)) (hP : RP c) (hx : x < NN nw ln) (hp : PK nw ln wd k x = true) : ct (PK nw ln wd k) x < aln c (20 + k) ∧ aln c (20 + k) ≤ 41472 := by
  have h1 := ct_lt hx hp
  have h2 := hS.2.1
  have h3 := hP k hk
  have h4 : aln c (20 + k) = c.2.2.2 k := by
    rcases (show k = 0 ∨ k = 1 ∨ k = 2 by omega) with rfl | rfl | rfl <;> rfl
  rw [h4]
  omega
theorem PK_P0 {nw ln : Nat} {wd : Nat → Nat → Nat} {k x : Nat} (h : PK nw ln wd k x = true) : P0 nw ln wd x = true := by
  by_cases e0 : k = 0
  · subst e0; rw [PK0] at h; exact h
  · by_cases e1 : k = 1
    · subst e1; rw [PK1, Bool.and_eq_true] at h; exact h.1
    · have : PK nw ln wd k x = P2 nw ln wd x := by unfold PK; rw [if_neg e0, if_neg e1]
      rw [this] at h
      unfold P2 at h
      rw [Bool.and_eq_true] at h
      exact h.1
theorem dg16 {nw ln : Nat} {wd : Nat → Nat → Nat} (hW : WL nw ln wd) (h0 : 0 < nw) (x : Nat) : ∀ i, i < ln → dg nw ln x i < 16 := fun i _ => by
  have h1 := hW.1
  have h2 : dg nw ln x i < nw := dg_lt h0
  omega
theorem hd16 {nw ln : Nat} {wd : Nat → Nat → Nat} (hW : WL nw ln wd) {x : Nat} (hP : P0 nw ln wd x = true) : ∀ i, i < ln → hd nw wd ln x i < 16 := fun i hi => by
  have h1 := hW.1
  have h2 := hd_lt hP hi
  omega
theorem rows_c {nw ln : Nat} {wd : Nat → Nat → Nat} {c : St} (hW : WL nw ln wd) {k x : Nat} (hk : k < 3) (hS : SQ nw ln wd c k (NN nw ln)) (hP : RP c) (hx : x < NN nw ln) (hp : PK nw ln wd k x = true) : f_X4_rowsOf c k (nI (ct (PK nw ln wd k) x)) = some (nI (pkd ln (dg nw ln x))) := by
  have h0 := nz_of hx
  have hl := hW.2.1
  have hN := NN_le hW
  have hc := ct_le (PK nw ln wd k) (NN nw ln)
  have h1 := ct_lt hx hp
  have h2 := lens_c hk hS hP hx hp
  have h3 := pkd_lt hl (dg16 hW h0 x)
  have h4 := pkd_lt hl (hd16 hW (PK_P0 hp))
  rw [f_X4_rowsOf, f_X4_has, hS.1, if_neg (nI_pos (by omega)), ite_leN (by omega) (by omega), if_neg (by omega)]
  simp only [Option.bind_some, i10, if_false]
  rw [ite_in h2.1 (by omega), nI_clamp (by omega), hS.2.2 x hx hp]
  unfold itm
  rw [and_nI (by omega) 16 (by decide)]
  congr 2
  omega
theorem cols_c {nw ln : Nat} {wd : Nat → Nat → Nat} {c : St} (hW : WL nw ln wd) {k x : Nat} (hk : k < 3) (hS : SQ nw ln wd c k (NN nw ln)) (hP : RP c) (hx : x < NN nw ln) (hp : PK nw ln wd k x = true) : f_X4_columnsOf c k (nI (ct (PK nw ln wd k) x)) = some (nI (pkd ln (hd nw wd ln x))) := by
  have h0 := nz_of hx
  have hl := hW.2.1
  have hN := NN_le hW
  have hc := ct_le (PK nw ln wd k) (NN nw ln)
  have h1 := ct_lt hx hp
  have h2 := lens_c hk hS hP hx hp
  have h3 := pkd_lt hl (dg16 hW h0 x)
  have h4 := pkd_lt hl (hd16 hW (PK_P0 hp))
  rw [f_X4_columnsOf, f_X4_has, hS.1, if_neg (nI_pos (by omega)), ite_leN (by omega) (by omega), if_neg (by omega)]
  simp only [Option.bind_some, i10, if_false]
  rw [ite_in h2.1 (by omega), nI_clamp (by omega), hS.2.2 x hx hp]
  unfold itm
  rw [ushr16 (by omega)]
  congr 2
  omega
theorem kind_both (a : Int32) : (∃ k, k < 3 ∧ a = nI k ∧ f_X7_isKind a = some 1 ∧ f_X8_within a 0 2 = some 1) ∨ (f_X7_isKind a = some 0 ∧ f_X8_within a 0 2 = some 0) := by
  have e2 : (nI 3 - 1) = 2 := by decide
  have h := within_n a (show 3 < 2 ^ 30 by decide)
  rw [e2] at h
  rcases h with ⟨k, hk, rfl, hw⟩ | ⟨h, hw⟩
  · refine Or.inl ⟨k, hk, rfl, ?_, hw⟩
    rw [f_X7_isKind, if_neg (nI_pos (by omega)), show (3 : Int32) = nI 3 from rfl, ite_leN (by omega) (by omega), if_neg (by omega)]
  · refine Or.inr ⟨?_, hw⟩
    unfold f_X7_isKind f_X7_isKind_J13
    by_cases e : a < 0
    · rw [if_pos e]
    · rw [if_neg e, if_pos]
      rw [i32_lt, i0] at e
      rw [i32_le, show (3 : Int32) = nI 3 from rfl, nI_toInt (by omega)]
      omega
theorem kind_c {c : St} {k : Nat} (hk : k < 3) : f_X2_ofKind c (nI k) = some k := by
  rcases (show k = 0 ∨ k = 1 ∨ k = 2 by omega) with rfl | rfl | rfl <;> rfl
theorem RFk {nw ln : Nat} {wd : Nat → Nat → Nat} {c : St} (h : RF nw ln wd c) {k : Nat} (hk : k < 3) : SQ nw ln wd c k (NN nw ln) := by
  rcases (show k = 0 ∨ k = 1 ∨ k = 2 by omega) with rfl | rfl | rfl
  · exact h.1
  · exact h.2.1
  · exact h.2.2.1
theorem sqs_c {nw ln : Nat} {wd : Nat → Nat → Nat} {c : St} (hF : RF nw ln wd c) {k : Nat} (hk : k < 3) (h1 : f_X7_isKind (nI k) = some 1) : f_X7_squares c (nI k) = some (nI (ct (PK nw ln wd k) (NN nw ln))) := by
  simp only [f_X7_squares, h1, Option.bind_some, i10, if_false, kind_c hk, f_X4_size, (RFk hF hk).1]
theorem op10 : Op_10 Rel := by
  intro c m a hR
  obtain ⟨nw, ln, wd, wt, tl, tx, bd, hR0⟩ := hR
  have hR1 := hR0
  obtain ⟨hWL, hRT, hCL, hML, hRW, hRB, hRN, hRF, hRP, hRH, hRK⟩ := hR0
  rcases kind_both a with ⟨k, hk, rfl, h1, h2⟩ | ⟨h1, h2⟩
  · obtain ⟨m2, h3, h4⟩ := sqs_m hWL hML hk
    refine ⟨_, m2, sqs_c hRF hk h1, ?_, nw, ln, wd, wt, tl, tx, bd, h4.1.rel hR1⟩
    simp only [f_X8_squares, h2, Option.bind_some, i10, if_false, h3]
  · refine ⟨-102, m, ?_, ?_, nw, ln, wd, wt, tl, tx, bd, hR1⟩
    · simp only [f_X7_squares, h1, Option.bind_some, i00, if_true]
    · simp only [f_X8_squares, h2, Option.bind_some, i00, if_true]
theorem row_c {nw ln : Nat} {wd : Nat → Nat → Nat} {c : St} (hW : WL nw ln wd) (hCL : CL nw ln wd c) (hF : RF nw ln wd c) (hP : RP c) {k x r : Nat} (hk : k < 3) (hx : x < NN nw ln) (hp : PK nw ln wd k x = true) (hr : r < ln) (h1 : f_X7_isKind (nI k) = some 1) : f_X7_row c (nI k) (nI (ct (PK nw ln wd k) x)) (nI r) = some (nI (dg nw ln x r)) := by
  have h0 := nz_of hx
  have hN := NN_le hW
  have hl := hW.2.1
  have hc := ct_le (PK nw ln wd k) (NN nw ln)
  have h2 := ct_lt hx hp
  have h3 : f_X4_has c k (nI (ct (PK nw ln wd k) x)) = some 1 := by
    rw [f_X4_has, (RFk hF hk).1, if_neg (nI_pos (by omega)), ite_leN (by omega) (by omega), if_neg (by omega)]
  have h4 : f_X6_hasPlace c (nI r) = some 1 := by
    rw [f_X6_hasPlace, hCL.2.1, if_neg (nI_pos (by omega)), ite_leN (by omega) (by omega), if_neg (by omega)]
  simp only [f_X7_row, h1, Option.bind_some, i10, if_false, kind_c hk, h3, h4, rows_c hW hk (RFk hF hk) hP hx hp, f_X6_length, hCL.2.1, pw_c hl (dg16 hW h0 x) hr]
theorem op11 : Op_11 Rel := by
  intro c m a b d hR
  obtain ⟨nw, ln, wd, wt, tl, tx, bd, hR0⟩ := hR
  have hR1 := hR0
  obtain ⟨hWL, hRT, hCL, hML, hRW, hRB, hRN, hRF, hRP, hRH, hRK⟩ := hR0
  have hl := hWL.2.1
  rcases kind_both a with ⟨k, hk, rfl, h1, h2⟩ | ⟨h1, h2⟩
  · rcases place_both hWL.2.1 hCL.2.1 hML.2.1 d with ⟨r, hr, rfl, h3, -, h4⟩ | ⟨h3, -, h4⟩
    · rcases lay_m hWL hML hk b with ⟨x, m2, hx, hp, rfl, h5, h6, h7, h8, h9⟩ | ⟨h5, m2, h6, h7⟩
      · refine ⟨_, m2, row_c hWL hCL hRF hRP hk hx hp hr h1, ?_, nw, ln, wd, wt, tl, tx, bd, h6.1.rel hR1⟩
        simp only [f_X8_row, h2, Option.bind_some, i10, if_false, hML.2.1, h4, h5]
        rw [ite_in (show r < 4 by omega) (by decide), nI_clamp (by omega), h7 r hr]
      · have h8 : f_X4_has c k b = some 0 := by
          rcases has_c hWL (RFk hRF hk) b with ⟨x, g1, g2, g3, g4⟩ | ⟨-, g⟩
          · exfalso
            have := ct_lt g1 g2
            have hN := NN_le hWL
            have := ct_le (PK nw ln wd k) (NN nw ln)
            rw [g3, nI_toInt (by omega)] at h5
            omega
          · exact g
        refine ⟨-101, m2, ?_, ?_, nw, ln, wd, wt, tl, tx, bd, h7.1.rel hR1⟩
        · simp only [f_X7_row, f_X7_row_J40, h1, Option.bind_some, i10, if_false, kind_c hk, h8, i00, if_true]
        · simp only [f_X8_row, f_X8_row_J44, h2, Option.bind_some, i10, if_false, hML.2.1, h4, h6, i00, if_true]
    · refine ⟨-101, m, ?_, ?_, nw, ln, wd, wt, tl, tx, bd, hR1⟩
      · simp only [f_X7_row, f_X7_row_J40, h1, Option.bind_some, i10, if_false, kind_c hk]
        rcases has_c hWL (RFk hRF hk) b with ⟨x, g1, g2, g3, g4⟩ | ⟨-, g⟩
        · simp only [g4, Option.bind_some, i10, if_false, h3, i00, if_true]
        · simp only [g, Option.bind_some, i00, if_true]
      · simp only [f_X8_row, f_X8_row_J44, h2, Option.bind_some, i10, if_false, hML.2.1, h4, i00, if_true]
  · refine ⟨-102, m, ?_, ?_, nw, ln, wd, wt, tl, tx, bd, hR1⟩
    · simp only [f_X7_row, h1, Option.bind_some, i00, if_true]
    · simp only [f_X8_row, h2, Option.bind_some, i00, if_true]
/-- the weight of a square, from its last row to its first -/
theorem shr4 {n : Nat} {f : Nat → Nat} (hn : n + 1 ≤ 4) (h : ∀ i, i < n + 1 → f i < 16) : nI (pkd (n + 1) f) >>> (4 &&& 31) = nI (pkd n f) ∧ nI (pkd (n + 1) f) &&& 15 = nI (f n) := by
  have hb := pkd_lt hn h
  have h1 := h n (by omega)
  constructor
  · rw [n4, shr_nI (by omega) (by omega), pkd]
    congr 1
    omega
  · rw [and_nI (by omega) 4 (by decide), pkd]
    congr 1
    omega
theorem wsq_c {nw ln : Nat} {wd : Nat → Nat → Nat} {wt : Nat → Nat} {c m : St} (hW : WL nw ln wd) (hCL : c.1 6 = nI ln) (hRW : RW nw wt c m) {k x : Nat} (hk : k < 3) (hS : SQ nw ln wd c k (NN nw ln)) (hP : RP c) (hx : x < NN nw ln) (hp : PK nw ln wd k x = true) : f_X7_weightOfSquare c k (nI (ct (PK nw ln wd k) x)) = some (nI (wgt nw ln wd wt x)) := by
  have h0 := nz_of hx
  have hn := hW.1
  have hl := hW.2.1
  have hd1 := dg16 hW h0 x
  have hd2 := hd16 hW (PK_P0 hp)
  have loop : ∀ (n i j S : Nat), i + j = ln → j < n → S + sm (fun r => wt (dg nw ln x r) + wt (hd nw wd ln x r)) j = wgt nw ln wd wt x → f_X7_weightOfSquare_L19 c n (nI (pkd j (dg nw ln x))) (nI (pkd j (hd nw wd ln x))) (nI S) (nI i) = some (nI (wgt nw ln wd wt x)) := by
    intro n
    induction n with
    | zero => intro i j S _ h2; omega
    | succ n ih =>
      intro i j S hij hj hS
      rw [f_X7_weightOfSquare_L19]
      simp only [f_X6_length, hCL, Option.bind_some]
      rw [ite_leN (by omega) (by omega)]
      by_cases e : ln ≤ i
      · have : j = 0 := by omega
        subst this
        rw [if_pos e, ← hS, sm, Nat.add_zero]
      · obtain ⟨j', rfl⟩ : ∃ j', j = j' + 1 := ⟨j - 1, by omega⟩
        have a1 := shr4 (f := dg nw ln x) (n := j') (by omega) (fun i hi => hd1 i (by omega))
        have a2 := shr4 (f := hd nw wd ln x) (n := j') (by omega) (fun i hi => hd2 i (by omega))
        have b1 : dg nw ln x j' < nw := dg_lt h0
        have b2 := hd_lt (PK_P0 hp) (show j' < ln by omega)
        rw [if_neg e, a1.1, a1.2, a2.1, a2.2]
        simp only [f_X6_weightOf, and15 (hd1 j' (by omega)), and15 (hd2 j' (by omega))]
        rw [ite_in (hd1 j' (by omega)) (by decide), ite_in (hd2 j' (by omega)) (by decide), nI_clamp (by omega), nI_clamp (by omega), (hRW _ b1).2.2.1, (hRW _ b2).2.2.1]
        simp only [Option.bind_some, lt, nI_add, nI_1]
        refine ih (i + 1) j' _ (by omega) (by omega) ?_
        rw [sm] at hS
        omega
  rw [f_X7_weightOfSquare, rows_c hW hk hS hP hx hp]
  simp only [Option.bind_some]
  rw [cols_c hW hk hS hP hx hp]
  simp only [Option.bind_some]
  exact loop FU 0 ln 0 (by omega) (by have := FU_big; omega) (by unfold wgt; omega)
theorem op14 : Op_14 Rel := by
  intro c m a hR
  obtain ⟨nw, ln, wd, wt, tl, tx, bd, hR0⟩ := hR
  have hR1 := hR0
  obtain ⟨hWL, hRT, hCL, hML, hRW, hRB, hRN, hRF, hRP, hRH, hRK⟩ := hR0
  have hk0 : f_X2_ofKind c 0 = some 0 := rfl
  rcases lay_m hWL hML (show 0 < 3 by decide) a with ⟨x, m2, hx, hp, rfl, h5, h6, h7, h8, h9⟩ | ⟨h5, m2, h6, h7⟩
  · refine ⟨nI (wgt nw ln wd wt x), m2, ?_, ?_, nw, ln, wd, wt, tl, tx, bd, h6.1.rel hR1⟩
    · have h3 : f_X4_has c 0 (nI (ct (PK nw ln wd 0) x)) = some 1 := by
        have hN := NN_le hWL
        have hc := ct_le (PK nw ln wd 0) (NN nw ln)
        have h2 := ct_lt hx hp
        rw [f_X4_has, hRF.1.1, if_neg (nI_pos (by omega)), ite_leN (by omega) (by omega), if_neg (by omega)]
      simp only [f_X7_heavy, hk0, Option.bind_some, h3, i10, if_false, wsq_c hWL hCL.2.1 hRW (show 0 < 3 by decide) hRF.1 hRP hx hp]
    · rw [nI_0] at h5
      simp only [f_X8_heavy, h5, Option.bind_some, i10, if_false, heavy_m hWL hML hRW h6 (nz_of hx) h7 h8 h9]
  · have h8 : f_X4_has c 0 a = some 0 := by
      rcases has_c hWL hRF.1 a with ⟨x, g1, g2, g3, g4⟩ | ⟨-, g⟩
      · exfalso
        have := ct_lt g1 g2
        have hN := NN_le hWL
        have := ct_le (PK nw ln wd 0) (NN nw ln)
        rw [g3, nI_toInt (by omega)] at h5
        omega
      · exact g
    refine ⟨-101, m2, ?_, ?_, nw, ln, wd, wt, tl, tx, bd, h7.1.rel hR1⟩
    · simp only [f_X7_heavy, hk0, Option.bind_some, h8, i00, if_true]
    · rw [nI_0] at h6
      simp only [f_X8_heavy, h6, Option.bind_some, i00, if_true]
end
