/-! the reference's squares -/
theorem wc_m {nw ln : Nat} {wd : Nat → Nat → Nat} {m : St} (hW : WL nw ln wd) (hM : ML nw ln wd m) (h0 : 0 < nw) {x : Nat} (hA : Ax nw ln x m) {col : Nat} (hc : col < ln) : f_X8_wordOfColumn m (nI col) = some (orN nw (hd nw wd ln x col)) := by
  have hn := hW.1
  have hl := hW.2.1
  have inner : ∀ (r2 : Int32 → Int32 → Option Int32) (v : Nat), v < nw → ∀ (n k : Nat), k ≤ ln → ln - k < n → f_X8_wordOfColumn_L15 m r2 n (nI col) (nI v) (bi (al (fun r => wd (dg nw ln x r) col == wd v r) k)) (nI k) = if al (fun r => wd (dg nw ln x r) col == wd v r) ln then some (nI v) else r2 (nI col) (nI (v + 1)) := by
    intro r2 v hv n
    induction n with
    | zero => intro k _ h2; omega
    | succ n ih =>
      intro k hk hnn
      rw [f_X8_wordOfColumn_L15, hM.2.1, ite_leN (by omega) (by omega)]
      by_cases e : ln ≤ k
      · rw [if_pos e, show k = ln by omega]
        simp only [f_X8_wordOfColumn_J62, lt, nI_1]
        cases h : al (fun r => wd (dg nw ln x r) col == wd v r) ln with
        | false => simp [bi]
        | true => simp [bi]
      · have ih1 := ih (k + 1) (by omega) (by omega)
        rw [if_neg e]
        cases h : al (fun r => wd (dg nw ln x r) col == wd v r) k with
        | false =>
          rw [bi_f, if_pos rfl]
          simp only [f_X8_wordOfColumn_J62, lt, nI_1]
          rw [if_pos trivial]
          have h2 : al (fun r => wd (dg nw ln x r) col == wd v r) ln = false := by
            cases h3 : al (fun r => wd (dg nw ln x r) col == wd v r) ln with
            | false => rfl
            | true =>
              have h4 : al (fun r => wd (dg nw ln x r) col == wd v r) k = true := al_iff.mpr (fun i hi => al_iff.mp h3 i (by omega))
              rw [h] at h4; cases h4
          rw [h2]; rfl
        | true =>
          have hd1 : dg nw ln x k < nw := dg_lt h0
          rw [bi_t, if_neg (by decide), ite_in (show k < 4 by omega) (by decide), nI_clamp (by omega), hA k (by omega), at_m hW hM hd1 hc, at_m hW hM hv (by omega)]
          have b1 := hW.2.2.2.2.1 v hv k (by omega)
          have b2 := hW.2.2.2.2.1 (dg nw ln x k) hd1 col hc
          simp only [Option.bind_some, f_X8_wordOfColumn_J55, lt, nI_1]
          rw [ite_eqN (by omega) (by omega)]
          rw [al, h] at ih1
          by_cases e2 : wd (dg nw ln x k) col = wd v k
          · rw [if_pos (by omega)]
            simp only [e2, beq_self_eq_true, Bool.and_true] at ih1
            exact ih1
          · rw [if_neg (by omega)]
            have e3 : (wd (dg nw ln x k) col == wd v k) = false := by simp [e2]
            rw [e3] at ih1
            exact ih1
  have outer : ∀ (n j : Nat), j ≤ nw → nw - j < n → (∀ i, i < j → al (fun r => wd (dg nw ln x r) col == wd i r) ln = false) → f_X8_wordOfColumn_L2 m n (nI col) (nI j) = some (orN nw (hd nw wd ln x col)) := by
    intro n
    induction n with
    | zero => intro j _ h2; omega
    | succ n ih =>
      intro j hj hnn hb
      rw [f_X8_wordOfColumn_L2, hM.1, ite_leN (by omega) (by omega)]
      by_cases e : nw ≤ j
      · rw [if_pos e, hd, fs_none (fun i hi => hb i (by omega))]
        simp [orN]
      · rw [if_neg e]
        have h1 := inner (f_X8_wordOfColumn_L2 m n) j (by omega) FU 0 (by omega) (by have := FU_big; omega)
        rw [al, bi_t, nI_0] at h1
        rw [h1]
        cases h : al (fun r => wd (dg nw ln x r) col == wd j r) ln with
        | true =>
          rw [if_pos rfl, hd, fs_eq (k := j) (by omega) h hb, orN, if_pos (by omega)]
        | false =>
          rw [if_neg (by decide)]
          exact ih (j + 1) (by omega) (by omega) (fun i hi => by
            by_cases e3 : i = j
            · rw [e3]; exact h
            · exact hb i (by omega))
  have h9 := outer FU 0 (by omega) (by have := FU_big; omega) (fun i hi => by omega)
  rw [nI_0] at h9
  rw [f_X8_wordOfColumn]
  exact h9
theorem Ax_sR {nw d x : Nat} {m : St} {j : Nat} {g : Nat → Int32} (hj : j ≠ 6) (h : Ax nw d x m) : Ax nw d x (sR m j g) := fun r hr => by
  rw [sR_A, if_neg (fun e => hj e.symm)]; exact h r hr
/-- the columns are those of the square x -/
def Cx7 (nw ln : Nat) (wd : Nat → Nat → Nat) (x : Nat) (m : St) : Prop := ∀ r, r < ln → m.2.1 7 r = nI (hd nw wd ln x r)
theorem sq_m {nw ln : Nat} {wd : Nat → Nat → Nat} {m : St} (hW : WL nw ln wd) (hM : ML nw ln wd m) (h0 : 0 < nw) {x : Nat} (hA : Ax nw ln x m) : ∃ g : Nat → Int32, f_X8_isSquare m = some (bi (P0 nw ln wd x), sR m 7 g) ∧ (P0 nw ln wd x = true → Cx7 nw ln wd x (sR m 7 g)) := by
  have hn := hW.1
  have hl := hW.2.1
  have loop : ∀ (n k : Nat) (g : Nat → Int32), k ≤ ln → ln - k < n → (∀ r, r < k → hd nw wd ln x r < nw ∧ g r = nI (hd nw wd ln x r)) → ∃ g2 : Nat → Int32, f_X8_isSquare_L2 n (sR m 7 g) (nI k) = some (bi (P0 nw ln wd x), sR m 7 g2) ∧ (P0 nw ln wd x = true → Cx7 nw ln wd x (sR m 7 g2)) := by
    intro n
    induction n with
    | zero => intro k g _ h2; omega
    | succ n ih =>
      intro k g hk hnn hg
      rw [f_X8_isSquare_L2, sR_I, hM.2.1, hM.1, ite_leN (by omega) (by omega)]
      by_cases e : ln ≤ k
      · have hp : P0 nw ln wd x = true := al_iff.mpr (fun i hi => by simp [(hg i (by omega)).1])
        have hnz : ¬ (nI nw ≤ 0) := nI_nle h0 (by omega)
        rw [if_pos e, if_neg hnz, hp]
        refine ⟨g, rfl, fun _ r hr => ?_⟩
        rw [sR_A, if_pos rfl]
        exact (hg r (by omega)).2
      · rw [if_neg e, wc_m hW ((sR_Fr (by decide) g).ml hM) h0 (Ax_sR (by decide) hA) (by omega)]
        simp only [Option.bind_some, lt]
        have e7 : (sR m 7 g).2.1 7 = g := by rw [sR_A, if_pos rfl]
        rw [ite_in (show k < 4 by omega) (by decide), nI_clamp (by omega), sA_sR, sR_sR, e7, ite_in (show k < 4 by omega) (by decide), nI_1]
        have e8 : (sR m 7 (upd g k (orN nw (hd nw wd ln x k)))).2.1 7 k = orN nw (hd nw wd ln x k) := by rw [sR_A, if_pos rfl, upd_at, if_pos rfl]
        rw [e8, ite_orN (by omega)]
        by_cases e2 : hd nw wd ln x k < nw
        · rw [if_pos e2]
          refine ih (k + 1) _ (by omega) (by omega) (fun r hr => ?_)
          rw [upd_at]
          by_cases e3 : r = k
          · rw [if_pos e3, e3]
            refine ⟨e2, ?_⟩
            rw [orN, if_pos e2]
          · rw [if_neg e3]; exact hg r (by omega)
        · rw [if_neg e2]
          have hp : P0 nw ln wd x = false := by
            cases h : P0 nw ln wd x with
            | false => rfl
            | true =>
              have := al_iff.mp h k (by omega)
              simp at this
              exact absurd this e2
          rw [hp]
          exact ⟨_, rfl, fun h => by cases h⟩
  have hs : sR m 7 (m.2.1 7) = m := by
    unfold sR
    have : va_up m.2.1 7 (m.2.1 7) = m.2.1 := by
      funext i
      unfold va_up
      by_cases e : i = 7 <;> simp [e]
    rw [this]
  have h9 := loop FU 0 (m.2.1 7) (by omega) (by have := FU_big; omega) (fun r hr => by omega)
  rw [hs, nI_0] at h9
  rw [f_X8_isSquare]
  exact h9
theorem hd_lt {nw ln : Nat} {wd : Nat → Nat → Nat} {x : Nat} (h : P0 nw ln wd x = true) {r : Nat} (hr : r < ln) : hd nw wd ln x r < nw := by
  have := al_iff.mp h r hr
  simpa using this
theorem same_m {nw ln : Nat} {wd : Nat → Nat → Nat} {m : St} (hW : WL nw ln wd) (hM : ML nw ln wd m) (h0 : 0 < nw) {x : Nat} (hA : Ax nw ln x m) (hC : Cx7 nw ln wd x m) (hP : P0 nw ln wd x = true) : f_X8_isSame m = some (bi (al (fun r => dg nw ln x r == hd nw wd ln x r) ln)) := by
  have hn := hW.1
  have hl := hW.2.1
  have loop : ∀ (n k : Nat), k ≤ ln → ln - k < n → f_X8_isSame_L4 m n (bi (al (fun r => dg nw ln x r == hd nw wd ln x r) k)) (nI k) = some (bi (al (fun r => dg nw ln x r == hd nw wd ln x r) ln)) := by
    intro n
    induction n with
    | zero => intro k _ h2; omega
    | succ n ih =>
      intro k hk hnn
      rw [f_X8_isSame_L4, hM.2.1, ite_leN (by omega) (by omega)]
      by_cases e : ln ≤ k
      · rw [if_pos e, show k = ln by omega]
        cases al (fun r => dg nw ln x r == hd nw wd ln x r) ln <;> rfl
      · have ih1 := ih (k + 1) (by omega) (by omega)
        rw [if_neg e]
        rw [al] at ih1
        cases h : al (fun r => dg nw ln x r == hd nw wd ln x r) k with
        | false =>
          rw [h] at ih1
          rw [bi_f, if_pos rfl]
          simp only [f_X8_isSame_J35, f_X8_isSame_J36, lt, nI_1]
          exact ih1
        | true =>
          rw [h] at ih1
          have b1 : dg nw ln x k < nw := dg_lt h0
          have b2 := hd_lt hP (show k < ln by omega)
          rw [bi_t, if_neg (by decide), ite_in (show k < 4 by omega) (by decide), ite_in (show k < 4 by omega) (by decide), nI_clamp (by omega), hA k (by omega), hC k (by omega), ite_eqN (by omega) (by omega)]
          simp only [f_X8_isSame_J35, f_X8_isSame_J36, lt, nI_1]
          by_cases e2 : dg nw ln x k = hd nw wd ln x k
          · rw [if_pos e2]
            simp only [e2, beq_self_eq_true, Bool.and_true] at ih1
            exact ih1
          · rw [if_neg e2]
            have e3 : (dg nw ln x k == hd nw wd ln x k) = false := by simp [e2]
            rw [e3] at ih1
            exact ih1
  have h9 := loop FU 0 (by omega) (by have := FU_big; omega)
  rw [nI_0] at h9
  rw [f_X8_isSame]
  exact h9
/-! bits -/
theorem bit_nI {S j : Nat} (hS : S < 2 ^ 31) (hj : j < 31) : ((nI S >>> (nI j &&& 31)) &&& 1) = nI (if S.testBit j then 1 else 0) := by
  rw [shr_nI hS (by omega), and_nI (by have : S / 2 ^ j ≤ S := Nat.div_le_self _ _; omega) 1 (by decide), Nat.testBit_eq_decide_div_mod_eq]
  have : S / 2 ^ j % 2 < 2 := Nat.mod_lt _ (by decide)
  rcases (show S / 2 ^ j % 2 = 0 ∨ S / 2 ^ j % 2 = 1 by omega) with h | h
  · rw [Nat.pow_one, h]; simp
  · rw [Nat.pow_one, h]; simp
theorem setb_nI {S j : Nat} (hj : j < 31) : nI S ||| (1 <<< (nI j &&& 31)) = nI (S ||| 2 ^ j) := by
  rw [n1, shl_nI (by omega) (by rw [Nat.one_mul]; exact Nat.pow_lt_pow_right (by decide) (by omega)), Nat.one_mul, or_nI]
theorem or_lt12 {S j : Nat} (hS : S < 2 ^ 12) (hj : j < 12) : S ||| 2 ^ j < 2 ^ 12 := Nat.or_lt_two_pow hS (Nat.pow_lt_pow_right (by decide) hj)
theorem tb_or (S j i : Nat) : (S ||| 2 ^ j).testBit i = (S.testBit i || decide (j = i)) := by rw [Nat.testBit_or, Nat.testBit_two_pow]
/-- what isUnlike looks at, row by row -/
def ck (R C : Nat → Nat) (r : Nat) : Bool := !(an (fun q => R q == R r || C q == R r) r) && !(R r == C r) && !(an (fun q => R q == C r || C q == C r) r)
theorem un_ck {nw ln : Nat} {wd : Nat → Nat → Nat} {x : Nat} : un nw ln wd x = al (ck (dg nw ln x) (hd nw wd ln x)) ln := by
  generalize hR : dg nw ln x = R
  generalize hC : hd nw wd ln x = C
  unfold un
  rw [hR, hC]
  apply Bool.eq_iff_iff.mpr
  rw [al_iff, al_iff]
  constructor
  · intro h r hr
    have h1 := h r hr
    rw [Bool.and_eq_true, al_iff, al_iff] at h1
    have ha : an (fun q => R q == R r || C q == R r) r = false := by
      rw [← Bool.not_eq_true, an_iff]
      rintro ⟨q, hq, h2⟩
      have h3 := h1.2 q hq
      have h4 := h1.1 q (by omega)
      simp at h2 h3 h4
      rcases h2 with h2 | h2
      · exact h3.1 h2.symm
      · exact h4 h2.symm
    have hb : an (fun q => R q == C r || C q == C r) r = false := by
      rw [← Bool.not_eq_true, an_iff]
      rintro ⟨q, hq, h2⟩
      have h3 := h1.2 q hq
      have h5 := h q (by omega)
      rw [Bool.and_eq_true, al_iff] at h5
      have h4 := h5.1 r hr
      simp at h2 h3 h4
      rcases h2 with h2 | h2
      · exact h4 h2
      · exact h3.2 h2.symm
    have hc := h1.1 r hr
    unfold ck
    rw [ha, hb]
    simpa using hc
  · intro h r hr
    rw [Bool.and_eq_true, al_iff, al_iff]
    have key : ∀ r, r < ln → (∀ q, q < r → R q ≠ R r ∧ C q ≠ R r ∧ R q ≠ C r ∧ C q ≠ C r) ∧ R r ≠ C r := fun r hr => by
      have h1 := h r hr
      unfold ck at h1
      simp only [Bool.and_eq_true, Bool.not_eq_true'] at h1
      obtain ⟨⟨h2, h3⟩, h4⟩ := h1
      refine ⟨fun q hq => ?_, by simpa using h3⟩
      have g1 : ¬ (R q == R r || C q == R r) = true := fun g => by
        have := (an_iff (p := fun q => R q == R r || C q == R r)).mpr ⟨q, hq, g⟩
        rw [h2] at this; cases this
      have g2 : ¬ (R q == C r || C q == C r) = true := fun g => by
        have := (an_iff (p := fun q => R q == C r || C q == C r)).mpr ⟨q, hq, g⟩
        rw [h4] at this; cases this
      simp at g1 g2
      exact ⟨g1.1, g1.2, g2.1, g2.2⟩
    refine ⟨fun q hq => ?_, fun q hq => ?_⟩
    · have : R r ≠ C q := by
        rcases Nat.lt_trichotomy q r with g | g | g
        · exact fun e => ((key r hr).1 q g).2.1 e.symm
        · rw [g]; exact (key r hr).2
        · exact ((key q hq).1 r g).2.2.1
      simp [this]
    · have h1 := (key r hr).1 q hq
      have h2 : R r ≠ R q := fun e => h1.1 e.symm
      have h3 : C r ≠ C q := fun e => h1.2.2.2 e.symm
      simp [h2, h3]
theorem unlike_m {nw ln : Nat} {wd : Nat → Nat → Nat} {m : St} (hW : WL nw ln wd) (hM : ML nw ln wd m) (h0 : 0 < nw) {x : Nat} (hA : Ax nw ln x m) (hC : Cx7 nw ln wd x m) (hP : P0 nw ln wd x = true) : f_X8_isUnlike m = some (bi (un nw ln wd x)) := by
  have hn := hW.1
  have hl := hW.2.1
  have loop : ∀ (n k S : Nat), k ≤ ln → ln - k < n → S < 2 ^ 12 → (∀ j, S.testBit j = an (fun q => dg nw ln x q == j || hd nw wd ln x q == j) k) → al (ck (dg nw ln x) (hd nw wd ln x)) k = true → f_X8_isUnlike_L4 m n (nI S) (nI k) = some (bi (al (ck (dg nw ln x) (hd nw wd ln x)) ln)) := by
    intro n
    induction n with
    | zero => intro k S _ h2; omega
    | succ n ih =>
      intro k S hk hnn hS hb hal
      rw [f_X8_isUnlike_L4, hM.2.1, ite_leN (by omega) (by omega)]
      by_cases e : ln ≤ k
      · have e3 : k = ln := by omega
        rw [e3] at hal
        rw [if_pos e, hal]; rfl
      · have b1 : dg nw ln x k < nw := dg_lt h0
        have b2 := hd_lt hP (show k < ln by omega)
        have hS2 := or_lt12 hS (show dg nw ln x k < 12 by omega)
        have hS3 := or_lt12 hS2 (show hd nw wd ln x k < 12 by omega)
        have bad : ck (dg nw ln x) (hd nw wd ln x) k = false → al (ck (dg nw ln x) (hd nw wd ln x)) ln = false := fun h => by
          rw [← Bool.not_eq_true, al_iff]
          intro g
          have := g k (by omega)
          rw [h] at this; cases this
        have i4 : ∀ {a b : Option Int32}, (if inb (nI k) 4 = true then a else b) = a := fun {a b} => ite_in (show k < 4 by omega) (by decide)
        rw [if_neg e]
        simp only [f_X8_isUnlike_J44, f_X8_isUnlike_J45, f_X8_isUnlike_J78, f_X8_isUnlike_J79, lt, i4, nI_clamp (show k < 2 ^ 31 by omega), hA k (by omega), hC k (by omega), setb_nI (show dg nw ln x k < 31 by omega), setb_nI (show hd nw wd ln x k < 31 by omega), bit_nI (show S < 2 ^ 31 by omega) (show dg nw ln x k < 31 by omega), bit_nI (show S ||| 2 ^ dg nw ln x k < 2 ^ 31 by omega) (show hd nw wd ln x k < 31 by omega), nI_1, i00, i10, if_true, if_false]
        rw [hb, tb_or, hb]
        cases h1 : an (fun q => dg nw ln x q == dg nw ln x k || hd nw wd ln x q == dg nw ln x k) k with
        | true =>
          simp only [if_true]
          rw [if_neg (show ¬ (nI 1 = 0) by decide), bad (by unfold ck; rw [h1]; simp)]; rfl
        | false =>
          simp only [Bool.false_eq_true, if_false]
          rw [if_pos (show nI 0 = 0 from rfl), ite_eqN (by omega) (by omega)]
          by_cases e2 : dg nw ln x k = hd nw wd ln x k
          · rw [if_pos e2, bad (by unfold ck; simp [e2])]; rfl
          · rw [if_neg e2]
            cases h2 : an (fun q => dg nw ln x q == hd nw wd ln x k || hd nw wd ln x q == hd nw wd ln x k) k with
            | true =>
              simp only [Bool.true_or, if_true]
              rw [if_neg (show ¬ (nI 1 = 0) by decide), bad (by unfold ck; rw [h2]; simp)]; rfl
            | false =>
              have e3 : decide (dg nw ln x k = hd nw wd ln x k) = false := decide_eq_false e2
              simp only [e3, Bool.or_self, Bool.false_eq_true, if_false]
              rw [if_pos (show nI 0 = 0 from rfl)]
              refine ih (k + 1) _ (by omega) (by omega) hS3 (fun j => ?_) ?_
              · rw [tb_or, tb_or, hb, an]
                rw [Bool.or_assoc]
                congr 1
              · rw [al, hal, ck, h1, h2]
                simp [e2]
  have h9 := loop FU 0 0 (by omega) (by have := FU_big; omega) (by decide) (fun j => by rw [Nat.zero_testBit]; rfl) rfl
  rw [nI_0] at h9
  rw [f_X8_isUnlike, un_ck]
  exact h9
theorem PK0 (nw ln : Nat) (wd : Nat → Nat → Nat) (x : Nat) : PK nw ln wd 0 x = P0 nw ln wd x := rfl
theorem PK1 (nw ln : Nat) (wd : Nat → Nat → Nat) (x : Nat) : PK nw ln wd 1 x = (P0 nw ln wd x && al (fun r => dg nw ln x r == hd nw wd ln x r) ln) := rfl
theorem PK2 (nw ln : Nat) (wd : Nat → Nat → Nat) (x : Nat) : PK nw ln wd 2 x = (P0 nw ln wd x && un nw ln wd x) := rfl
theorem of_m {nw ln : Nat} {wd : Nat → Nat → Nat} {m : St} (hW : WL nw ln wd) (hM : ML nw ln wd m) (h0 : 0 < nw) {x k : Nat} (hk : k < 3) (hA : Ax nw ln x m) : ∃ g : Nat → Int32, f_X8_isOf m (nI k) = some (bi (PK nw ln wd k x), sR m 7 g) ∧ (PK nw ln wd k x = true → P0 nw ln wd x = true ∧ Cx7 nw ln wd x (sR m 7 g)) := by
  obtain ⟨g, h1, h2⟩ := sq_m hW hM h0 hA
  refine ⟨g, ?_, ?_⟩
  · rw [f_X8_isOf, h1]
    simp only [Option.bind_some]
    cases hp : P0 nw ln wd x with
    | false =>
      have : PK nw ln wd k x = false := by
        rcases (show k = 0 ∨ k = 1 ∨ k = 2 by omega) with rfl | rfl | rfl <;> simp [PK0, PK1, PK2, hp]
      rw [this, bi_f, if_pos rfl]; rfl
    | true =>
      have hM2 := (sR_Fr (m := m) (show 5 ≤ 7 by decide) g).ml hM
      have hA2 := Ax_sR (g := g) (show 7 ≠ 6 by decide) hA
      have hC2 := h2 hp
      rw [bi_t, if_neg (by decide)]
      rcases (show k = 0 ∨ k = 1 ∨ k = 2 by omega) with rfl | rfl | rfl
      · rw [if_pos (show nI 0 = 0 from rfl)]
        simp [PK0, hp, f_X8_isOf_J33, bi]
      · rw [if_neg (show ¬ (nI 1 = 0) by decide), if_pos (show nI 1 = 1 from rfl), same_m hW hM2 h0 hA2 hC2 hp]
        rw [PK1, hp]
        simp only [Option.bind_some, f_X8_isOf_J33, f_X8_isOf_J37]
        cases al (fun r => dg nw ln x r == hd nw wd ln x r) ln <;> simp [bi]
      · rw [if_neg (show ¬ (nI 2 = 0) by decide), if_neg (show ¬ (nI 2 = 1) by decide), unlike_m hW hM2 h0 hA2 hC2 hp]
        rw [PK2, hp]
        simp only [Option.bind_some, f_X8_isOf_J33, f_X8_isOf_J37]
        cases un nw ln wd x <;> simp [bi]
  · intro hp
    have : P0 nw ln wd x = true := by
      rcases (show k = 0 ∨ k = 1 ∨ k = 2 by omega) with rfl | rfl | rfl
      · rw [PK0] at hp; exact hp
      · rw [PK1, Bool.and_eq_true] at hp; exact hp.1
      · rw [PK2, Bool.and_eq_true] at hp; exact hp.1
    exact ⟨this, h2 this⟩
