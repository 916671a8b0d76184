section
/-! counting bits -/
def S1 (m x : Nat) : Nat := x - ((x / 2) &&& m)
def S2 (m x : Nat) : Nat := (x &&& m) + ((x / 4) &&& m)
def S3 (m x : Nat) : Nat := (x + x / 16) &&& m
theorem and8 {a b d e : Nat} (hd : d < 256) (he : e < 256) : (256 * a + d) &&& (256 * b + e) = 256 * (a &&& b) + (d &&& e) := and_dig (k := 8) hd he
theorem fin1 : ∀ e, e < 2 → ∀ b, b < 128 → (128 * e + b) &&& 85 = b &&& 85 := by decide
theorem fin2 : ∀ e, e < 4 → ∀ b, b < 64 → (64 * e + b) &&& 51 = b &&& 51 := by decide
theorem fin3 : ∀ e, e < 5 → ∀ b, b < 73 → (b + 16 * e) &&& 15 = b &&& 15 := by decide
theorem S1_s {m a b : Nat} (hb : b < 256) : S1 (256 * m + 85) (256 * a + b) = 256 * S1 m a + S1 85 b := by
  unfold S1
  have e : (256 * a + b) / 2 = 256 * (a / 2) + (128 * (a % 2) + b / 2) := by omega
  have h1 : (a / 2) &&& m ≤ a / 2 := Nat.and_le_left
  have h2 : (b / 2) &&& 85 ≤ b / 2 := Nat.and_le_left
  rw [e, and8 (by omega) (by decide), fin1 (a % 2) (by omega) (b / 2) (by omega)]
  omega
theorem S2_s {m a b : Nat} (hb : b < 256) : S2 (256 * m + 51) (256 * a + b) = 256 * S2 m a + S2 51 b := by
  unfold S2
  have e : (256 * a + b) / 4 = 256 * (a / 4) + (64 * (a % 4) + b / 4) := by omega
  rw [e, and8 (by omega) (by decide), and8 (by omega) (by decide), fin2 (a % 4) (by omega) (b / 4) (by omega)]
  omega
theorem S3_s {m a b : Nat} (hb : b < 69) (hc : b / 16 < 5) (ha : a % 16 < 5) : S3 (256 * m + 15) (256 * a + b) = 256 * S3 m a + S3 15 b := by
  unfold S3
  have e : 256 * a + b + (256 * a + b) / 16 = 256 * (a + a / 16) + (b + b / 16 + 16 * (a % 16)) := by omega
  rw [e, and8 (by omega) (by decide), fin3 (a % 16) (by omega) (b + b / 16) (by omega)]
theorem byt0 : ∀ a, a < 16 → ∀ b, b < 16 → S1 85 (16 * a + b) < 256 ∧ S2 51 (S1 85 (16 * a + b)) < 69 ∧ S2 51 (S1 85 (16 * a + b)) / 16 < 5 ∧ S2 51 (S1 85 (16 * a + b)) % 16 < 5 ∧ S3 15 (S2 51 (S1 85 (16 * a + b))) = ct (fun k => (16 * a + b).testBit k) 8 := by decide
theorem byt (b : Nat) (hb : b < 256) : S1 85 b < 256 ∧ S2 51 (S1 85 b) < 69 ∧ S2 51 (S1 85 b) / 16 < 5 ∧ S2 51 (S1 85 b) % 16 < 5 ∧ S3 15 (S2 51 (S1 85 b)) = ct (fun k => b.testBit k) 8 := by
  have h := byt0 (b / 16) (by omega) (b % 16) (by omega)
  rw [show 16 * (b / 16) + b % 16 = b by omega] at h
  exact h
theorem fin4 {p0 p1 p2 p3 : Nat} (h0 : p0 ≤ 8) (h1 : p1 ≤ 8) (h2 : p2 ≤ 8) (h3 : p3 ≤ 8) {C : Nat} (hC : 256 * (256 * (256 * p3 + p2) + p1) + p0 = C) : (C + C / 2 ^ 8 + (C + C / 2 ^ 8) / 2 ^ 16) % 2 ^ 6 = p0 + (p1 + (p2 + p3)) ∧ C < 2 ^ 28 ∧ C + C / 2 ^ 8 < 2 ^ 29 ∧ C + C / 2 ^ 8 + (C + C / 2 ^ 8) / 2 ^ 16 < 2 ^ 32 := by
  have e1 : C / 2 ^ 8 = 65536 * p3 + 256 * p2 + p1 := by omega
  rw [e1]
  have e2 : (C + (65536 * p3 + 256 * p2 + p1)) / 2 ^ 16 = 256 * p3 + p2 + p3 := by omega
  rw [e2]
  omega
theorem ct_add (p : Nat → Bool) (a : Nat) : ∀ b, ct p (a + b) = ct p a + ct (fun i => p (a + i)) b
  | 0 => rfl
  | b + 1 => by rw [← Nat.add_assoc, ct, ct_add p a b, ct, Nat.add_assoc]
theorem ct_byte {a b n : Nat} (hb : b < 256) : ct (fun k => (256 * a + b).testBit k) (8 + n) = ct (fun k => b.testBit k) 8 + ct (fun k => a.testBit k) n := by
  rw [ct_add]
  have h : ∀ j, (256 * a + b).testBit j = if j < 8 then b.testBit j else a.testBit (j - 8) := fun j => Nat.testBit_two_pow_mul_add (i := 8) a hb j
  have h1 : ct (fun k => (256 * a + b).testBit k) 8 = ct (fun k => b.testBit k) 8 := ct_congr (fun i hi => by rw [h, if_pos hi])
  have h2 : ct (fun i => (256 * a + b).testBit (8 + i)) n = ct (fun k => a.testBit k) n := ct_congr (fun i _ => by rw [h, if_neg (by omega)]; congr 1; omega)
  rw [h1, h2]
theorem bits_c {M : Nat} (hM : M < 2 ^ 32) : f_J6_bitCount_0f7a4 (nI M) = some (nI (ct (fun k => M.testBit k) 32)) := by
  obtain ⟨b0, b1, b2, b3, h0, h1, h2, h3, rfl⟩ : ∃ b0 b1 b2 b3, b0 < 256 ∧ b1 < 256 ∧ b2 < 256 ∧ b3 < 256 ∧ M = 256 * (256 * (256 * b3 + b2) + b1) + b0 := ⟨M % 256, M / 256 % 256, M / 65536 % 256, M / 16777216, by omega, by omega, by omega, by omega, by omega⟩
  have c0 := byt b0 h0
  have c1 := byt b1 h1
  have c2 := byt b2 h2
  have c3 := byt b3 h3
  have e1 : S1 1431655765 (256 * (256 * (256 * b3 + b2) + b1) + b0) = 256 * (256 * (256 * S1 85 b3 + S1 85 b2) + S1 85 b1) + S1 85 b0 := by
    rw [show 1431655765 = 256 * (256 * (256 * 85 + 85) + 85) + 85 by decide, S1_s h0, S1_s h1, S1_s h2]
  have e2 : S2 858993459 (256 * (256 * (256 * S1 85 b3 + S1 85 b2) + S1 85 b1) + S1 85 b0) = 256 * (256 * (256 * S2 51 (S1 85 b3) + S2 51 (S1 85 b2)) + S2 51 (S1 85 b1)) + S2 51 (S1 85 b0) := by
    rw [show 858993459 = 256 * (256 * (256 * 51 + 51) + 51) + 51 by decide, S2_s c0.1, S2_s c1.1, S2_s c2.1]
  have e3 : S3 252645135 (256 * (256 * (256 * S2 51 (S1 85 b3) + S2 51 (S1 85 b2)) + S2 51 (S1 85 b1)) + S2 51 (S1 85 b0)) = 256 * (256 * (256 * S3 15 (S2 51 (S1 85 b3)) + S3 15 (S2 51 (S1 85 b2))) + S3 15 (S2 51 (S1 85 b1))) + S3 15 (S2 51 (S1 85 b0)) := by
    rw [show 252645135 = 256 * (256 * (256 * 15 + 15) + 15) + 15 by decide, S3_s c0.2.1 c0.2.2.1 (by have := c1.2.2.2.1; omega), S3_s c1.2.1 c1.2.2.1 (by have := c2.2.2.2.1; omega), S3_s c2.2.1 c2.2.2.1 (by have := c3.2.2.2.1; omega)]
  have hc : ct (fun k => (256 * (256 * (256 * b3 + b2) + b1) + b0).testBit k) 32 = ct (fun k => b0.testBit k) 8 + (ct (fun k => b1.testBit k) 8 + (ct (fun k => b2.testBit k) 8 + ct (fun k => b3.testBit k) 8)) := by
    rw [show 32 = 8 + 24 by decide, ct_byte h0, show 24 = 8 + 16 by decide, ct_byte h1, show 16 = 8 + 8 by decide, ct_byte h2]
  generalize hMM : 256 * (256 * (256 * b3 + b2) + b1) + b0 = M at *
  have u1 : ((nI M).toUInt32 >>> (Int32.toUInt32 1 &&& Int32.toUInt32 31)).toInt32 = nI (M / 2) := pk_ushrN hM 1 1 (by decide)
  unfold f_J6_bitCount_0f7a4
  rw [u1, show (1431655765 : Int32) = nI 1431655765 from rfl, and_nn, pk_sub (by have : (M / 2) &&& 1431655765 ≤ M / 2 := Nat.and_le_left; omega), lt]
  rw [show M - ((M / 2) &&& 1431655765) = S1 1431655765 M from rfl, e1]
  generalize hA : 256 * (256 * (256 * S1 85 b3 + S1 85 b2) + S1 85 b1) + S1 85 b0 = A at *
  have u2 : ((nI A).toUInt32 >>> (Int32.toUInt32 2 &&& Int32.toUInt32 31)).toInt32 = nI (A / 4) := pk_ushrN (by omega) 2 2 (by decide)
  rw [u2, show (858993459 : Int32) = nI 858993459 from rfl, and_nn, and_nn, nI_add, lt]
  rw [show (A &&& 858993459) + ((A / 4) &&& 858993459) = S2 858993459 A from rfl, e2]
  generalize hB : 256 * (256 * (256 * S2 51 (S1 85 b3) + S2 51 (S1 85 b2)) + S2 51 (S1 85 b1)) + S2 51 (S1 85 b0) = B at *
  have u3 : ((nI B).toUInt32 >>> (Int32.toUInt32 4 &&& Int32.toUInt32 31)).toInt32 = nI (B / 16) := pk_ushrN (by omega) 4 4 (by decide)
  rw [u3, nI_add, show (252645135 : Int32) = nI 252645135 from rfl, and_nn, lt]
  rw [show (B + B / 16) &&& 252645135 = S3 252645135 B from rfl, e3, c0.2.2.2.2, c1.2.2.2.2, c2.2.2.2.2, c3.2.2.2.2, hc]
  have d0 := ct_le (fun k => b0.testBit k) 8
  have d1 := ct_le (fun k => b1.testBit k) 8
  have d2 := ct_le (fun k => b2.testBit k) 8
  have d3 := ct_le (fun k => b3.testBit k) 8
  generalize ct (fun k => b0.testBit k) 8 = p0 at *
  generalize ct (fun k => b1.testBit k) 8 = p1 at *
  generalize ct (fun k => b2.testBit k) 8 = p2 at *
  generalize ct (fun k => b3.testBit k) 8 = p3 at *
  generalize hC : 256 * (256 * (256 * p3 + p2) + p1) + p0 = C
  have f4 := fin4 d0 d1 d2 d3 hC
  have u4 : ((nI C).toUInt32 >>> (Int32.toUInt32 8 &&& Int32.toUInt32 31)).toInt32 = nI (C / 2 ^ 8) := pk_ushrN (Nat.lt_trans f4.2.1 (by decide)) 8 8 (by decide)
  rw [u4, nI_add, lt]
  have u5 : ((nI (C + C / 2 ^ 8)).toUInt32 >>> (Int32.toUInt32 16 &&& Int32.toUInt32 31)).toInt32 = nI ((C + C / 2 ^ 8) / 2 ^ 16) := pk_ushrN (Nat.lt_trans f4.2.2.1 (by decide)) 16 16 (by decide)
  rw [u5, nI_add, lt, and_nI f4.2.2.2 6 (by decide), f4.1]
theorem ct_hi {M a b : Nat} (h : M < 2 ^ a) : ct (fun k => M.testBit k) (a + b) = ct (fun k => M.testBit k) a := by
  rw [ct_add]
  have h0 : ∀ n, ct (fun i => M.testBit (a + i)) n = 0 := by
    intro n
    induction n with
    | zero => rfl
    | succ n ih =>
      rw [ct, ih]
      have : M.testBit (a + n) = false := Nat.testBit_lt_two_pow (Nat.lt_of_lt_of_le h (Nat.pow_le_pow_right (by decide) (by omega)))
      rw [this]; rfl
  rw [h0, Nat.add_zero]
/-! letters -/
def hasL (nw ln : Nat) (wd : Nat → Nat → Nat) (l : Nat) : Bool := an (fun v => an (fun i => wd v i == l) ln) nw
def nlt (nw ln : Nat) (wd : Nat → Nat → Nat) : Nat := ct (hasL nw ln wd) 26
theorem or_lt26 {S j : Nat} (hS : S < 2 ^ 26) (hj : j < 26) : S ||| 2 ^ j < 2 ^ 26 := Nat.or_lt_two_pow hS (Nat.pow_lt_pow_right (by decide) hj)
theorem nlet_c {nw ln : Nat} {wd : Nat → Nat → Nat} {c : St} (hW : WL nw ln wd) (hC : CL nw ln wd c) : f_X6_numberOfLetters c = some (nI (nlt nw ln wd)) := by
  have hn := hW.1
  have hl := hW.2.1
  have inner : ∀ (r4 : Int32 → Int32 → Option Int32) (w S0 : Nat), w < nw → ∀ (n k S : Nat), k ≤ ln → ln - k < n → S < 2 ^ 26 → (∀ l, S.testBit l = (S0.testBit l || an (fun i => wd w i == l) k)) → ∃ S2 : Nat, S2 < 2 ^ 26 ∧ (∀ l, S2.testBit l = (S0.testBit l || an (fun i => wd w i == l) ln)) ∧ f_X6_numberOfLetters_L14 c r4 n (nI S) (nI w) (nI k) = r4 (nI S2) (nI (w + 1)) := by
    intro r4 w S0 hw n
    induction n with
    | zero => intro k S _ h; omega
    | succ n ih =>
      intro k S hk hnn hS hb
      rw [f_X6_numberOfLetters_L14, hC.2.1, ite_leN (by omega) (by omega)]
      by_cases e : ln ≤ k
      · have : k = ln := by omega
        subst this
        rw [if_pos e, lt, nI_1]
        exact ⟨S, hS, hb, rfl⟩
      · have b1 := hW.2.2.2.2.1 w hw k (by omega)
        rw [if_neg e, letter_c hW hC hw (by omega)]
        simp only [Option.bind_some, lt]
        rw [setb_nI (by omega), nI_1]
        exact ih (k + 1) _ (by omega) (by omega) (or_lt26 hS b1) (fun l => by
          rw [tb_or, hb, an, Bool.or_assoc]; rfl)
  have outer : ∀ (n j S : Nat), j ≤ nw → nw - j < n → S < 2 ^ 26 → (∀ l, S.testBit l = an (fun v => an (fun i => wd v i == l) ln) j) → f_X6_numberOfLetters_L4 c n (nI S) (nI j) = some (nI (nlt nw ln wd)) := by
    intro n
    induction n with
    | zero => intro j S _ h; omega
    | succ n ih =>
      intro j S hj hnn hS hb
      rw [f_X6_numberOfLetters_L4, hC.1, ite_leN (by omega) (by omega)]
      by_cases e : nw ≤ j
      · have : j = nw := by omega
        subst this
        rw [if_pos e, bits_c (by omega), show 32 = 26 + 6 by decide, ct_hi hS]
        simp only [Option.bind_some]
        congr 2
        exact ct_congr (fun i _ => hb i)
      · obtain ⟨S2, s1, s2, s3⟩ := inner (f_X6_numberOfLetters_L4 c n) j S (by omega) FU 0 S (by omega) (by have := FU_big; omega) hS (fun l => by rw [an, Bool.or_false])
        rw [nI_0] at s3
        rw [if_neg e, s3]
        exact ih (j + 1) S2 (by omega) (by omega) s1 (fun l => by rw [s2, hb, an])
  have h9 := outer FU 0 0 (by omega) (by have := FU_big; omega) (by decide) (fun l => by rw [Nat.zero_testBit]; rfl)
  rw [nI_0] at h9
  rw [f_X6_numberOfLetters]
  exact h9
theorem nlet_m {nw ln : Nat} {wd : Nat → Nat → Nat} {m : St} (hW : WL nw ln wd) (hM : ML nw ln wd m) : f_X8_lettersMany m = some (nI (nlt nw ln wd)) := by
  have hn := hW.1
  have hl := hW.2.1
  have inner : ∀ (r4 : Int32 → Int32 → Option Int32) (w S0 : Nat), w < nw → ∀ (n k S : Nat), k ≤ ln → ln - k < n → S < 2 ^ 26 → (∀ l, S.testBit l = (S0.testBit l || an (fun i => wd w i == l) k)) → ∃ S2 : Nat, S2 < 2 ^ 26 ∧ (∀ l, S2.testBit l = (S0.testBit l || an (fun i => wd w i == l) ln)) ∧ f_X8_lettersMany_L14 m r4 n (nI S) (nI w) (nI k) = r4 (nI S2) (nI (w + 1)) := by
    intro r4 w S0 hw n
    induction n with
    | zero => intro k S _ h; omega
    | succ n ih =>
      intro k S hk hnn hS hb
      rw [f_X8_lettersMany_L14, hM.2.1, ite_leN (by omega) (by omega)]
      by_cases e : ln ≤ k
      · have : k = ln := by omega
        subst this
        rw [if_pos e, lt, nI_1]
        exact ⟨S, hS, hb, rfl⟩
      · have b1 := hW.2.2.2.2.1 w hw k (by omega)
        rw [if_neg e, at_m hW hM hw (by omega)]
        simp only [Option.bind_some, lt]
        rw [n97, pk_sub (by omega), show 97 + wd w k - 97 = wd w k by omega, setb_nI (by omega), nI_1]
        exact ih (k + 1) _ (by omega) (by omega) (or_lt26 hS b1) (fun l => by
          rw [tb_or, hb, an, Bool.or_assoc]; rfl)
  have cnt : ∀ (S : Nat), S < 2 ^ 26 → ∀ (n k : Nat), k ≤ 26 → 26 - k < n → f_X8_lettersMany_L52 m n (nI S) (nI (ct (fun l => S.testBit l) k)) (nI k) = some (nI (ct (fun l => S.testBit l) 26)) := by
    intro S hS n
    induction n with
    | zero => intro k _ h; omega
    | succ n ih =>
      intro k hk hnn
      rw [f_X8_lettersMany_L52, show (26 : Int32) = nI 26 from rfl, ite_leN (by omega) (by omega)]
      by_cases e : 26 ≤ k
      · rw [if_pos e, show k = 26 by omega]
      · have ih1 := ih (k + 1) (by omega) (by omega)
        rw [if_neg e, bit_nI (by omega) (by omega), nI_add, lt, lt, nI_1]
        exact ih1
  have outer : ∀ (n j S : Nat), j ≤ nw → nw - j < n → S < 2 ^ 26 → (∀ l, S.testBit l = an (fun v => an (fun i => wd v i == l) ln) j) → f_X8_lettersMany_L4 m n (nI S) (nI j) = some (nI (nlt nw ln wd)) := by
    intro n
    induction n with
    | zero => intro j S _ h; omega
    | succ n ih =>
      intro j S hj hnn hS hb
      rw [f_X8_lettersMany_L4, hM.1, ite_leN (by omega) (by omega)]
      by_cases e : nw ≤ j
      · have : j = nw := by omega
        subst this
        have h9 := cnt S hS FU 0 (by omega) (by have := FU_big; omega)
        rw [ct, nI_0] at h9
        rw [if_pos e, h9]
        congr 2
        exact ct_congr (fun i _ => hb i)
      · obtain ⟨S2, s1, s2, s3⟩ := inner (f_X8_lettersMany_L4 m n) j S (by omega) FU 0 S (by omega) (by have := FU_big; omega) hS (fun l => by rw [an, Bool.or_false])
        rw [nI_0] at s3
        rw [if_neg e, s3]
        exact ih (j + 1) S2 (by omega) (by omega) s1 (fun l => by rw [s2, hb, an])
  have h9 := outer FU 0 0 (by omega) (by have := FU_big; omega) (by decide) (fun l => by rw [Nat.zero_testBit]; rfl)
  rw [nI_0] at h9
  rw [f_X8_lettersMany]
  exact h9
noncomputable def av (nw ln : Nat) (wd : Nat → Nat → Nat) (wt : Nat → Nat) (k : Nat) : Int32 := if k = 0 then nI ln else if k = 1 then nI nw else if k = 2 then nI (pfx nw ln wd) else if k = 3 then nI (nlt nw ln wd) else if k = 4 then nI (sm wt nw) else nI (ct (fun w => decide (rv nw ln wd w < nw)) nw)
theorem about_c {nw ln : Nat} {wd : Nat → Nat → Nat} {wt : Nat → Nat} {c m : St} (hW : WL nw ln wd) (hC : CL nw ln wd c) (hRW : RW nw wt c m) {k : Nat} (hk : k < 6) : f_X7_about c (nI k) = some (av nw ln wd wt k) := by
  unfold f_X7_about
  simp only [f_X6_length, f_X6_size, hC.1, hC.2.1, nprefix_c hW hC, nlet_c hW hC, sumw_c hW.1 hC.1 hRW, nrev_c hW hC, Option.bind_some]
  rcases (show k = 0 ∨ k = 1 ∨ k = 2 ∨ k = 3 ∨ k = 4 ∨ k = 5 by omega) with rfl | rfl | rfl | rfl | rfl | rfl <;> rfl
theorem about_m {nw ln : Nat} {wd : Nat → Nat → Nat} {wt : Nat → Nat} {c m : St} (hW : WL nw ln wd) (hM : ML nw ln wd m) (hRW : RW nw wt c m) {k : Nat} (hk : k < 6) : f_X8_aboutNow m (nI k) = some (av nw ln wd wt k) := by
  unfold f_X8_aboutNow
  simp only [hM.1, hM.2.1, begin_m hW hM, nlet_m hW hM, sumw_m hW.1 hM.1 hRW, nrev_m hW hM, Option.bind_some]
  rcases (show k = 0 ∨ k = 1 ∨ k = 2 ∨ k = 3 ∨ k = 4 ∨ k = 5 by omega) with rfl | rfl | rfl | rfl | rfl | rfl <;> rfl
theorem op6 : Op_6 Rel := by
  intro c m a hR
  obtain ⟨nw, ln, wd, wt, tl, tx, bd, hR0⟩ := hR
  have hR1 := hR0
  obtain ⟨hWL, hRT, hCL, hML, hRW, hRB, hRN, hRF, hRP, hRH, hRK⟩ := hR0
  have e2 : (nI 6 - 1) = 5 := by decide
  have h := within_n a (show 6 < 2 ^ 30 by decide)
  rw [e2] at h
  rcases h with ⟨k, hk, rfl, hw2⟩ | ⟨h, hw2⟩
  · refine ⟨_, about_c hWL hCL hRW hk, ?_, nw, ln, wd, wt, tl, tx, bd, hR1⟩
    simp only [f_X8_about, hw2, Option.bind_some, i10, if_false, about_m hWL hML hRW hk]
  · refine ⟨-102, ?_, ?_, nw, ln, wd, wt, tl, tx, bd, hR1⟩
    · have ne : ∀ k : Nat, k < 6 → ¬ (a = nI k) := fun k hk q => by
        rw [q, nI_toInt (by omega)] at h; omega
      unfold f_X7_about
      rw [if_neg (show ¬ (a = 0) from ne 0 (by decide)), if_neg (show ¬ (a = 1) from ne 1 (by decide)), if_neg (show ¬ (a = 2) from ne 2 (by decide)), if_neg (show ¬ (a = 3) from ne 3 (by decide)), if_neg (show ¬ (a = 4) from ne 4 (by decide)), if_neg (show ¬ (a = 5) from ne 5 (by decide))]
    · simp only [f_X8_about, hw2, Option.bind_some, i00, if_true]
end
