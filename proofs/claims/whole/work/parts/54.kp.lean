section
/-! the class keeps a square: all of it -/
def EX (nw ln : Nat) (wd : Nat → Nat → Nat) (n : Nat) (c : St) : Prop := SQ nw ln wd c 0 n ∧ SQ nw ln wd c 1 n ∧ SQ nw ln wd c 2 n ∧ (∀ w, w < nw → c.2.1 14 w = nI (inR nw ln wd w n) ∧ c.2.1 15 w = nI (inC nw ln wd w n) ∧ c.2.1 16 w = nI (inS nw ln wd w n)) ∧ RP c
def Ssc (j : Nat) : Prop := j = 7 ∨ j = 8 ∨ (13 ≤ j ∧ j ≤ 15)
def Srw (j : Nat) : Prop := (14 ≤ j ∧ j ≤ 16) ∨ (20 ≤ j ∧ j ≤ 22)
def FE (c c' : St) : Prop := (∀ j, ¬ Ssc j → c'.1 j = c.1 j) ∧ (∀ j, ¬ Srw j → c'.2.1 j = c.2.1 j) ∧ c'.2.2.1 = c.2.2.1
theorem FE.rf {c : St} : FE c c := ⟨fun _ _ => rfl, fun _ _ => rfl, rfl⟩
theorem FE.tr {a b c : St} (h : FE a b) (g : FE b c) : FE a c := ⟨fun j hj => (g.1 j hj).trans (h.1 j hj), fun j hj => (g.2.1 j hj).trans (h.2.1 j hj), g.2.2.trans h.2.2⟩
theorem FE.cl {nw ln : Nat} {wd : Nat → Nat → Nat} {c c' : St} (h : FE c c') (g : CL nw ln wd c) : CL nw ln wd c' := ⟨by rw [h.1 5 (by unfold Ssc; omega)]; exact g.1, by rw [h.1 6 (by unfold Ssc; omega)]; exact g.2.1, fun w hw => by rw [h.2.1 12 (by unfold Srw; omega)]; exact g.2.2 w hw⟩
theorem FE.tt {nw ln : Nat} {wd : Nat → Nat → Nat} {n : Nat} {c c' : St} (h : FE c c') (g : TT nw ln wd n c) : TT nw ln wd n c' := fun d hd => by
  obtain ⟨a1, a2, a3⟩ := g d hd
  refine ⟨fun x h1 h2 l hl2 => ?_, fun x h1 h2 q hq => ?_, fun x h1 h2 => ?_⟩
  · rw [h.2.1 (24 + d) (by unfold Srw; omega)]; exact a1 x h1 h2 l hl2
  · rw [h.2.1 (29 + d) (by unfold Srw; omega)]; exact a2 x h1 h2 q hq
  · rw [h.2.1 (34 + d) (by unfold Srw; omega)]; exact a3 x h1 h2
theorem FA.fe {k : Nat} {c c' : St} (hk : k < 3) (h : FA k c c') : FE c c' := ⟨fun j hj => h.1 j (by unfold Ssc at hj; omega), fun j hj => h.2.1 j (by unfold Srw at hj; omega), h.2.2.1⟩
theorem sA_FE {c : St} {q i : Nat} {v : Int32} (h : 14 ≤ q ∧ q ≤ 16) : FE c (sA c q i v) := ⟨fun _ _ => rfl, fun j hj => by rw [sA_A, if_neg (by unfold Srw at hj; omega)], rfl⟩
theorem sI_FE {c : St} {q : Nat} {v : Int32} (h : Ssc q) : FE c (sI c q v) := ⟨fun j hj => by
  rw [sI_I, if_neg (fun e => hj (by rw [e]; exact h))], fun j hj => rfl, rfl⟩
theorem cym_c {c : St} {S : Nat} (hS : S < 2 ^ 12) : ∃ c', f_X2_countSymmetric c (nI S) = some c' ∧ FRr (fun j => j = 16) c c' ∧ ∀ w, w < 16 → c'.2.1 16 w = c.2.1 16 w + nI (if S.testBit w then 1 else 0) := by
  have loop : ∀ (n k : Nat) (st : St), k ≤ 16 → 16 - k < n → FRr (fun j => j = 16) c st → (∀ w, w < 16 → st.2.1 16 w = if w < k then c.2.1 16 w + nI (if S.testBit w then 1 else 0) else c.2.1 16 w) → ∃ c', f_X2_countSymmetric_L2 n st (nI S) (nI k) = some c' ∧ FRr (fun j => j = 16) c c' ∧ ∀ w, w < 16 → c'.2.1 16 w = c.2.1 16 w + nI (if S.testBit w then 1 else 0) := by
    intro n
    induction n with
    | zero => intro k st _ h; omega
    | succ n ih =>
      intro k st hk hnn hF hI
      rw [f_X2_countSymmetric_L2, show (16 : Int32) = nI 16 from rfl, ite_leN (by omega) (by omega)]
      by_cases e : 16 ≤ k
      · rw [if_pos e]
        exact ⟨st, rfl, hF, fun w hw => by have := hI w hw; rw [if_pos (by omega)] at this; exact this⟩
      · have hk2 := hI k (by omega)
        rw [if_neg (by omega)] at hk2
        rw [if_neg e, ite_in (show k < 16 by omega) (by decide), ite_in (show k < 16 by omega) (by decide), nI_clamp (by omega), bit_nI (by omega) (by omega), hk2, lt, lt, nI_1]
        refine ih (k + 1) _ (by omega) (by omega) (hF.tr sA_FRr) (fun w hw => ?_)
        rw [sA_A, if_pos rfl, upd_at]
        by_cases e2 : w = k
        · rw [if_pos e2, if_pos (show w < k + 1 by omega), e2]
        · rw [if_neg e2, hI w hw]
          by_cases e3 : w < k
          · rw [if_pos e3, if_pos (show w < k + 1 by omega)]
          · rw [if_neg e3, if_neg (show ¬ w < k + 1 by omega)]
  have h9 := loop FU 0 c (by omega) (by have := FU_big; omega) FRr.rf (fun w hw => by rw [if_neg (by omega)])
  rw [nI_0] at h9
  rw [f_X2_countSymmetric]
  exact h9
theorem ct32 {S : Nat} (hS : S < 2 ^ 12) {f : Nat → Nat} {n : Nat} (hb : ∀ j, S.testBit j = an (fun r => f r == j) n) : f_J6_bitCount_0f7a4 (nI S) = some (nI (dct f n)) := by
  rw [bits_c (by omega), show 32 = 12 + 20 by decide, ct_hi hS]
  unfold dct
  rw [ct_congr (fun i _ => hb i)]
theorem keep_c {nw ln : Nat} {wd : Nat → Nat → Nat} {c : St} (hW : WL nw ln wd) (hC : CL nw ln wd c) {x : Nat} (hx : x < NN nw ln) (hp : P0 nw ln wd x = true) (hE : EX nw ln wd x c) : ∃ c', f_X2_keep c (nI (pkd ln (dg nw ln x))) (nI (pkd ln (hd nw wd ln x))) = some c' ∧ EX nw ln wd (x + 1) c' ∧ FE c c' ∧ c'.1 7 = c.1 7 ∧ c'.1 8 = c.1 8 := by
  have h0 := nz_of hx
  have hn := hW.1
  have hl := hW.2.1
  obtain ⟨e0, e1, e2, e3, e4⟩ := hE
  have d16 := dg16 hW h0 x
  have h16 := hd16 hW hp
  have pr := pkd_lt hl d16
  have pc := pkd_lt hl h16
  have d12 : ∀ i, i < ln → dg nw ln x i < 12 := fun i _ => by have h : dg nw ln x i < nw := dg_lt h0; omega
  have h12 : ∀ i, i < ln → hd nw wd ln x i < 12 := fun i hi => by have := hd_lt hp hi; omega
  obtain ⟨c1, a1, a2, a3, a4⟩ := app_c hW (show 0 < 3 by decide) hx e0 e4 (by rw [PK0]; exact hp)
  have hF1 := a3.fe (by decide)
  /- the last step: different words -/
  have fin : ∀ (st : St) (S T : Nat), S < 2 ^ 12 → T < 2 ^ 12 → (∀ j, S.testBit j = an (fun r => dg nw ln x r == j) ln) → (∀ j, T.testBit j = an (fun r => hd nw wd ln x r == j) ln) → CL nw ln wd st → RP st → SQ nw ln wd st 2 x → ∃ c', f_X2_keep_J122 st (nI (pkd ln (dg nw ln x))) (nI (pkd ln (hd nw wd ln x))) (nI S) (nI T) = some c' ∧ SQ nw ln wd c' 2 (x + 1) ∧ FA 2 st c' ∧ RP c' := by
    intro st S T hS hT bS bT hC2 hP2 hQ
    have l1 := dct_le (f := dg nw ln x) (n := ln) d12
    have l2 := dct_le (f := hd nw wd ln x) (n := ln) h12
    have hU := un_dct d12 h12
    have hand : (S &&& T = 0) ↔ ∀ j, ¬ (an (fun r => dg nw ln x r == j) ln = true ∧ an (fun r => hd nw wd ln x r == j) ln = true) := by
      constructor
      · intro h j hj
        have : (S &&& T).testBit j = true := by rw [Nat.testBit_and, bS, bT, hj.1, hj.2]; rfl
        rw [h, Nat.zero_testBit] at this; cases this
      · intro h
        apply Nat.eq_of_testBit_eq
        intro j
        rw [Nat.testBit_and, bS, bT, Nat.zero_testBit]
        have := h j
        cases q1 : an (fun r => dg nw ln x r == j) ln with
        | false => rfl
        | true =>
          cases q2 : an (fun r => hd nw wd ln x r == j) ln with
          | false => rfl
          | true => exact absurd ⟨q1, q2⟩ this
    have hle : S &&& T < 2 ^ 12 := Nat.lt_of_le_of_lt Nat.and_le_left hS
    rw [f_X2_keep_J122, bind_s (ct32 hS bS), bind_s (ct32 hT bT), bind_s (len_c hC2), nI_add, show (2 : Int32) = nI 2 from rfl, pk_mul, ite_eqN (by omega) (by omega), and_nn, ← nI_0, ite_eqN (by omega) (by omega)]
    by_cases c1 : dct (dg nw ln x) ln + dct (hd nw wd ln x) ln = 2 * ln
    · rw [if_pos c1]
      by_cases c2 : S &&& T = 0
      · have hpk : PK nw ln wd 2 x = true := by rw [PK2, hp, Bool.true_and]; exact hU.mpr ⟨c1, hand.mp c2⟩
        obtain ⟨c', q1, q2, q3, q4⟩ := app_c hW (show 2 < 3 by decide) hx hQ hP2 hpk
        rw [if_pos c2, bind_s q1]
        exact ⟨c', rfl, q2, q3, q4⟩
      · have hpk : PK nw ln wd 2 x = false := by
          rw [PK2, hp, Bool.true_and, ← Bool.not_eq_true]
          exact fun q => c2 (hand.mpr (hU.mp q).2)
        rw [if_neg c2]
        exact ⟨st, rfl, SQ_skip hQ hpk, ⟨fun _ _ => rfl, fun _ _ => rfl, rfl, fun _ _ => rfl⟩, hP2⟩
    · have hpk : PK nw ln wd 2 x = false := by
        rw [PK2, hp, Bool.true_and, ← Bool.not_eq_true]
        exact fun q => c1 (hU.mp q).1
      rw [if_neg c1]
      exact ⟨st, rfl, SQ_skip hQ hpk, ⟨fun _ _ => rfl, fun _ _ => rfl, rfl, fun _ _ => rfl⟩, hP2⟩
  /- rows and columns are counted -/
  have loop : ∀ (n k S T : Nat) (st : St), k ≤ ln → ln - k < n → FRr (fun j => j = 14 ∨ j = 15) c1 st → S < 2 ^ 12 → T < 2 ^ 12 → (∀ j, S.testBit j = an (fun r => dg nw ln x r == j) k) → (∀ j, T.testBit j = an (fun r => hd nw wd ln x r == j) k) → (∀ w, w < nw → st.2.1 14 w = nI (inR nw ln wd w x + ct (fun r => dg nw ln x r == w) k) ∧ st.2.1 15 w = nI (inC nw ln wd w x + ct (fun r => hd nw wd ln x r == w) k)) → ∃ c', f_X2_keep_L17 n st (nI (pkd ln (dg nw ln x))) (nI (pkd ln (hd nw wd ln x))) (nI S) (nI T) (nI k) = some c' ∧ EX nw ln wd (x + 1) c' ∧ FE c c' ∧ c'.1 7 = c.1 7 ∧ c'.1 8 = c.1 8 := by
    intro n
    induction n with
    | zero => intro k S T st _ h; omega
    | succ n ih =>
      intro k S T st hk hnn hF hS hT bS bT hI
      have hC1 := hF1.cl hC
      have hC2 := hF.cl (show ¬ (12 = 14 ∨ 12 = 15) by omega) hC1
      have hFE : FE c st := hF1.tr ⟨fun j _ => by rw [hF.1], fun j hj => hF.2.2 j (by show ¬ (j = 14 ∨ j = 15); unfold Srw at hj; omega), by rw [hF.2.1]⟩
      have s20 : ∀ j, j < 3 → ∀ m, SQ nw ln wd c1 j m → SQ nw ln wd st j m := fun j hj m q => ⟨by rw [hF.1]; exact q.1, by rw [hF.2.1]; exact q.2.1, fun y hy hy2 => by rw [hF.2.2 (20 + j) (by show ¬ (20 + j = 14 ∨ 20 + j = 15); omega)]; exact q.2.2 y hy hy2⟩
      have hP2 : RP st := fun j hj => by rw [hF.2.1]; exact a4 j hj
      have hQ0 := s20 0 (by decide) _ a2
      have hQ1 := s20 1 (by decide) _ (a3.sq (by decide) e1)
      have hQ2 := s20 2 (by decide) _ (a3.sq (by decide) e2)
      rw [f_X2_keep_L17, bind_s (len_c hC2), ite_leN (by omega) (by omega)]
      by_cases e : ln ≤ k
      · have : k = ln := by omega
        subst this
        rw [if_pos e, ite_eqN (by omega) (by omega)]
        have hinR : ∀ w, inR nw k wd w (x + 1) = inR nw k wd w x + ct (fun r => dg nw k x r == w) k := fun w => by rw [inR_s, if_pos hp]
        have hinC : ∀ w, inC nw k wd w (x + 1) = inC nw k wd w x + ct (fun r => hd nw wd k x r == w) k := fun w => by rw [inC_s, if_pos hp]
        have h16s : st.2.1 16 = c.2.1 16 := by rw [hF.2.2 16 (by show ¬ (16 = 14 ∨ 16 = 15); omega), a3.2.1 16 (by decide)]
        have hrc : (pkd k (dg nw k x) = pkd k (hd nw wd k x)) ↔ PK nw k wd 1 x = true := by
          rw [PK1, hp, Bool.true_and, al_iff, pkd_nb, pkd_nb]
          constructor
          · intro h i hi
            have := nb_inj d16 h16 h i hi
            simp [this]
          · intro h
            exact nb_congr (fun i hi => by simpa using h i hi)
        by_cases e5 : pkd k (dg nw k x) = pkd k (hd nw wd k x)
        · have hpk := hrc.mp e5
          obtain ⟨c2, b1, b2, b3, b4⟩ := app_c hW (show 1 < 3 by decide) hx hQ1 hP2 hpk
          obtain ⟨c3, d1, d2, d3⟩ := cym_c (c := c2) hS
          have hC3 : CL nw k wd c3 := d2.cl (show ¬ (12 = 16) by decide) ((b3.fe (by decide)).cl hC2)
          have hP3 : RP c3 := fun j hj => by rw [d2.2.1]; exact b4 j hj
          have s3 : ∀ j, j < 3 → ∀ m, SQ nw k wd c2 j m → SQ nw k wd c3 j m := fun j hj m q => ⟨by rw [d2.1]; exact q.1, by rw [d2.2.1]; exact q.2.1, fun y hy hy2 => by rw [d2.2.2 (20 + j) (by show ¬ (20 + j = 16); omega)]; exact q.2.2 y hy hy2⟩
          have hQ0' := s3 0 (by decide) _ (b3.sq (by decide) hQ0)
          have hQ1' := s3 1 (by decide) _ b2
          have hQ2' := s3 2 (by decide) _ (b3.sq (by decide) hQ2)
          obtain ⟨c', q1, q2, q3, q4⟩ := fin c3 S T hS hT bS bT hC3 hP3 hQ2'
          have hFE2 : FE c c' := (hFE.tr (b3.fe (by decide))).tr (FE.tr ⟨fun j _ => by rw [d2.1], fun j hj => d2.2.2 j (by show ¬ (j = 16); unfold Srw at hj; omega), by rw [d2.2.1]⟩ (q3.fe (by decide)))
          have r14 : ∀ w, c'.2.1 14 w = st.2.1 14 w := fun w => by rw [q3.2.1 14 (by decide), d2.2.2 14 (by decide), b3.2.1 14 (by decide)]
          have r15 : ∀ w, c'.2.1 15 w = st.2.1 15 w := fun w => by rw [q3.2.1 15 (by decide), d2.2.2 15 (by decide), b3.2.1 15 (by decide)]
          have r16 : ∀ w, w < nw → c'.2.1 16 w = nI (inS nw k wd w (x + 1)) := fun w hw => by
            rw [q3.2.1 16 (by decide), d3 w (by omega), b3.2.1 16 (by decide), h16s, (e3 w hw).2.2, nI_add, inS_s, bS]
            have hp1 : P1 nw k wd x = true := hpk
            rw [hp1, Bool.true_and]
          refine ⟨c', ?_, ⟨q3.sq (by decide) hQ0', q3.sq (by decide) hQ1', q2, fun w hw => ⟨?_, ?_, r16 w hw⟩, q4⟩, hFE2, ?_, ?_⟩
          · rw [if_pos e5, bind_s b1, f_X2_keep_J117, bind_s d1]
            exact q1
          · rw [r14, hinR]; exact (hI w hw).1
          · rw [r15, hinC]; exact (hI w hw).2
          · rw [q3.1 7 (by decide), d2.1, b3.1 7 (by decide), hF.1, a3.1 7 (by decide)]
          · rw [q3.1 8 (by decide), d2.1, b3.1 8 (by decide), hF.1, a3.1 8 (by decide)]
        · have hpk : PK nw k wd 1 x = false := by rw [← Bool.not_eq_true]; exact fun q => e5 (hrc.mpr q)
          obtain ⟨c', q1, q2, q3, q4⟩ := fin st S T hS hT bS bT hC2 hP2 hQ2
          have r16 : ∀ w, w < nw → c'.2.1 16 w = nI (inS nw k wd w (x + 1)) := fun w hw => by
            rw [q3.2.1 16 (by decide), h16s, (e3 w hw).2.2, inS_s]
            have hp1 : P1 nw k wd x = false := hpk
            rw [hp1]; rfl
          refine ⟨c', ?_, ⟨q3.sq (by decide) hQ0, q3.sq (by decide) (SQ_skip hQ1 hpk), q2, fun w hw => ⟨?_, ?_, r16 w hw⟩, q4⟩, hFE.tr (q3.fe (by decide)), ?_, ?_⟩
          · rw [if_neg e5]
            exact q1
          · rw [q3.2.1 14 (by decide), hinR]; exact (hI w hw).1
          · rw [q3.2.1 15 (by decide), hinC]; exact (hI w hw).2
          · rw [q3.1 7 (by decide), hF.1, a3.1 7 (by decide)]
          · rw [q3.1 8 (by decide), hF.1, a3.1 8 (by decide)]
      · have hkl : k < ln := by omega
        have b1 : dg nw ln x k < nw := dg_lt h0
        have b2 := hd_lt hp hkl
        have i16 : ∀ {a b : Option St}, (if inb (nI (dg nw ln x k)) 16 = true then a else b) = a := fun {a b} => ite_in (show dg nw ln x k < 16 by omega) (by decide)
        have j16 : ∀ {a b : Option St}, (if inb (nI (hd nw wd ln x k)) 16 = true then a else b) = a := fun {a b} => ite_in (show hd nw wd ln x k < 16 by omega) (by decide)
        rw [if_neg e, bind_s (len_c hC2), bind_s (pw_c hl d16 hkl), bind_s (len_c hC2), bind_s (pw_c hl h16 hkl), i16, i16, nI_clamp (by omega), lt, j16, j16, nI_clamp (by omega), lt, setb_nI (by omega), setb_nI (by omega), lt, lt, lt, nI_1]
        have hcd := hI _ b1
        have hch := hI _ b2
        have e15 : (sA st 14 (dg nw ln x k) (st.2.1 14 (dg nw ln x k) + 1)).2.1 15 = st.2.1 15 := rfl
        refine ih (k + 1) _ _ _ (by omega) (by omega) ((hF.tr (sA_FRr.mo (fun j hj => Or.inl hj))).tr (sA_FRr.mo (fun j hj => Or.inr hj))) (or_lt12 hS (by omega)) (or_lt12 hT (by omega)) (fun j => by rw [tb_or, bS, an]; rfl) (fun j => by rw [tb_or, bT, an]; rfl) (fun w hw => ?_)
        have hcw := hI w hw
        refine ⟨?_, ?_⟩
        · rw [sA_A, if_neg (by decide), sA_A, if_pos rfl, upd_at, hcd.1, nI_1, ct]
          by_cases e2 : w = dg nw ln x k
          · rw [if_pos e2, e2]
            simp only [beq_self_eq_true, if_true]
            rfl
          · have e3 : (dg nw ln x k == w) = false := by simp; exact fun q => e2 q.symm
            rw [if_neg e2, hcw.1, e3]
            rfl
        · rw [sA_A, if_pos rfl, upd_at, e15, hch.2, nI_1, ct]
          by_cases e2 : w = hd nw wd ln x k
          · rw [if_pos e2, e2]
            simp only [beq_self_eq_true, if_true]
            rfl
          · have e3 : (hd nw wd ln x k == w) = false := by simp; exact fun q => e2 q.symm
            rw [if_neg e2, hcw.2, e3]
            rfl
  have h9 := loop FU 0 0 0 c1 (by omega) (by have := FU_big; omega) FRr.rf (by decide) (by decide) (fun j => by rw [Nat.zero_testBit]; rfl) (fun j => by rw [Nat.zero_testBit]; rfl) (fun w hw => by
    rw [a3.2.1 14 (by decide), a3.2.1 15 (by decide)]
    exact ⟨(e3 w hw).1, (e3 w hw).2.1⟩)
  rw [nI_0] at h9
  rw [f_X2_keep, bind_s a1, f_X2_keep_J9]
  exact h9
end
