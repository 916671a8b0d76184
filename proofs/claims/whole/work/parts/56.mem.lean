section
/-! longs as sets of bits: pasted from kit/laws/BITS.to-paste -/
theorem wb_tb (n : Nat) : (lN n).toBitVec = BitVec.ofNat 64 n := rfl
theorem wb_inj {a b : Int64} (h : a.toBitVec = b.toBitVec) : a = b := Int64.toBitVec_inj.mp h
theorem wb_tn {n : Nat} (h : n < 2 ^ 64) : (lN n).toBitVec.toNat = n := by rw [wb_tb, BitVec.toNat_ofNat, Nat.mod_eq_of_lt h]
theorem wb_of (x : Int64) : ∃ n, n < 2 ^ 64 ∧ x = lN n := ⟨x.toBitVec.toNat, x.toBitVec.isLt, wb_inj (by rw [wb_tb]; simp)⟩
theorem wb_of32 (x : Int32) : ∃ n, n < 2 ^ 32 ∧ x = nI n := ⟨x.toBitVec.toNat, x.toBitVec.isLt, Int32.toBitVec_inj.mp (by show _ = BitVec.ofNat 32 _; simp)⟩
theorem wb_c : ∀ k, k < 64 → ((nI k).toInt64 &&& 63) = lN k := by decide +kernel
theorem wb_cu : ∀ k, k < 64 → ((nI k).toInt64.toUInt64 &&& Int64.toUInt64 63) = UInt64.ofNat k := by decide +kernel
theorem wb_sm : ∀ k, k < 64 → (BitVec.ofNat 64 k).smod 64 = BitVec.ofNat 64 k := by decide +kernel
theorem wb_pw {a b : Nat} (h : a ≤ b) : 2 ^ b = 2 ^ a * 2 ^ (b - a) := by rw [← Nat.pow_add]; congr 1; omega
theorem wb_lt2 {a b : Nat} (h : a < b) : 2 ^ a < 2 ^ b := Nat.pow_lt_pow_right (by decide) h
theorem wb_mod (n : Nat) : lN n = lN (n % 2 ^ 64) := wb_inj (by rw [wb_tb, wb_tb]; apply BitVec.eq_of_toNat_eq; rw [BitVec.toNat_ofNat, BitVec.toNat_ofNat, Nat.mod_mod])
theorem wb_shr {n k : Nat} (hn : n < 2 ^ 64) (hk : k < 64) : ((lN n).toUInt64 >>> ((nI k).toInt64.toUInt64 &&& Int64.toUInt64 63)).toInt64 = lN (n / 2 ^ k) := by
  rw [wb_cu k hk]
  apply wb_inj
  apply BitVec.eq_of_toNat_eq
  show ((lN n).toUInt64 >>> UInt64.ofNat k).toNat = (BitVec.ofNat 64 _).toNat
  have h1 : (UInt64.ofNat k).toNat = k := by
    show (BitVec.ofNat 64 k).toNat = k
    rw [BitVec.toNat_ofNat, Nat.mod_eq_of_lt (by omega)]
  have h2 : (lN n).toUInt64.toNat = n := wb_tn hn
  rw [UInt64.toNat_shiftRight, h1, h2, Nat.mod_eq_of_lt hk, Nat.shiftRight_eq_div_pow, BitVec.toNat_ofNat, Nat.mod_eq_of_lt (Nat.lt_of_le_of_lt (Nat.div_le_self _ _) hn)]
theorem wb_shl (n : Nat) {k : Nat} (hk : k < 64) : lN n <<< ((nI k).toInt64 &&& 63) = lN (n * 2 ^ k) := by
  rw [wb_c k hk]
  apply wb_inj
  rw [Int64.toBitVec_shiftLeft, wb_tb, wb_tb, wb_tb, wb_sm k hk]
  apply BitVec.eq_of_toNat_eq
  rw [BitVec.shiftLeft_eq', BitVec.toNat_shiftLeft, BitVec.toNat_ofNat, BitVec.toNat_ofNat, BitVec.toNat_ofNat, Nat.mod_eq_of_lt (show k < 2 ^ 64 by omega), Nat.shiftLeft_eq, Nat.mul_mod, Nat.mod_mod, ← Nat.mul_mod]
theorem wb_and {a b : Nat} (ha : a < 2 ^ 64) (hb : b < 2 ^ 64) : lN a &&& lN b = lN (a &&& b) := by
  apply wb_inj
  rw [Int64.toBitVec_and, wb_tb, wb_tb, wb_tb]
  apply BitVec.eq_of_toNat_eq
  rw [BitVec.toNat_and, BitVec.toNat_ofNat, BitVec.toNat_ofNat, BitVec.toNat_ofNat, Nat.mod_eq_of_lt ha, Nat.mod_eq_of_lt hb, Nat.mod_eq_of_lt (Nat.and_lt_two_pow _ hb)]
theorem wb_or {a b : Nat} (ha : a < 2 ^ 64) (hb : b < 2 ^ 64) : lN a ||| lN b = lN (a ||| b) := by
  apply wb_inj
  rw [Int64.toBitVec_or, wb_tb, wb_tb, wb_tb]
  apply BitVec.eq_of_toNat_eq
  rw [BitVec.toNat_or, BitVec.toNat_ofNat, BitVec.toNat_ofNat, BitVec.toNat_ofNat, Nat.mod_eq_of_lt ha, Nat.mod_eq_of_lt hb, Nat.mod_eq_of_lt (Nat.or_lt_two_pow ha hb)]
theorem wb_mask {n k : Nat} (hn : n < 2 ^ 64) (hk : k < 64) : lN n &&& lN (2 ^ k - 1) = lN (n % 2 ^ k) := by
  rw [wb_and hn (by have := wb_lt2 hk; omega), Nat.and_two_pow_sub_one_eq_mod]
theorem wb_a1 {n : Nat} (hn : n < 2 ^ 64) : lN n &&& 1 = lN (n % 2) := wb_mask (k := 1) hn (by decide)
theorem wb_bit {n k : Nat} (hn : n < 2 ^ 64) (hk : k < 64) : ((lN n).toUInt64 >>> ((nI k).toInt64.toUInt64 &&& Int64.toUInt64 63)).toInt64 &&& 1 = lN (n / 2 ^ k % 2) := by
  rw [wb_shr hn hk, wb_a1 (Nat.lt_of_le_of_lt (Nat.div_le_self _ _) hn)]
/-! the dead ends of the class -/
def sb (x : Int64) (r : Nat) : Bool := x.toBitVec.toNat.testBit r
theorem sb_has {x : Int64} {r : Nat} (hr : r < 64) : (lg_cmp (((x.toUInt64 >>> ((nI r).toInt64.toUInt64 &&& Int64.toUInt64 63)).toInt64) &&& 1) 0 = 0) ↔ sb x r = false := by
  obtain ⟨n, hn, rfl⟩ := wb_of x
  rw [lg_cmp_eq, wb_bit hn hr]
  unfold sb
  rw [wb_tn hn, Nat.testBit_eq_decide_div_mod_eq]
  have h2 := Nat.mod_lt (n / 2 ^ r) (show 0 < 2 by decide)
  rcases (show n / 2 ^ r % 2 = 0 ∨ n / 2 ^ r % 2 = 1 by omega) with e | e
  · rw [e]; decide +kernel
  · rw [e]; decide +kernel
theorem sb_or {x : Int64} {r j : Nat} (hr : r < 64) : sb (x ||| (1 <<< ((nI r).toInt64 &&& 63))) j = (sb x j || decide (r = j)) := by
  obtain ⟨n, hn, rfl⟩ := wb_of x
  have h2 : 2 ^ r < 2 ^ 64 := Nat.pow_lt_pow_right (by decide) hr
  rw [show (1 : Int64) = lN 1 from rfl, wb_shl 1 hr, Nat.one_mul, wb_or hn h2]
  unfold sb
  rw [wb_tn (Nat.or_lt_two_pow hn h2), wb_tn hn, Nat.testBit_or, Nat.testBit_two_pow]
theorem dhas_c {c : St} {K : Nat} (hK : K < 82944) : f_X1_has c (nI K) = some (bi (sb (c.2.2.1 (K / 64)) (K % 64))) := by
  have hr : K % 64 < 64 := Nat.mod_lt _ (by decide)
  have hi : K / 64 < 1296 := by omega
  unfold f_X1_has f_X1_has_J35
  rw [if_neg (by rw [i32_lt, nI_toInt (by omega), i0]; omega), show (82944 : Int32) = nI 82944 from rfl, ite_leN (by omega) (by omega), if_neg (by omega), show (64 : Int32) = nI 64 from rfl, pk_rem (by omega) (by decide) (by decide), pk_div (by omega) (by decide) (by decide), ite_in hi (by decide), nI_clamp (by omega)]
  cases g : sb (c.2.2.1 (K / 64)) (K % 64) with
  | false => rw [if_pos ((sb_has hr).mpr g)]; rfl
  | true => rw [if_neg (fun q => by rw [(sb_has hr).mp q] at g; cases g)]; rfl
theorem dadd_c {c : St} {K : Nat} (hK : K < 82944) : ∃ c', f_X1_add c (nI K) = some c' ∧ c'.2.1 = c.2.1 ∧ c'.2.2.2 = c.2.2.2 ∧ (∀ j, j ≠ 11 → c'.1 j = c.1 j) ∧ (∀ i r, r < 64 → sb (c'.2.2.1 i) r = (sb (c.2.2.1 i) r || decide (i = K / 64 ∧ r = K % 64))) ∧ c'.1 11 = if sb (c.2.2.1 (K / 64)) (K % 64) then c.1 11 else c.1 11 + 1 := by
  have hr : K % 64 < 64 := Nat.mod_lt _ (by decide)
  have hi : K / 64 < 1296 := by omega
  unfold f_X1_add
  rw [if_neg (by rw [i32_lt, nI_toInt (by omega), i0]; omega), show (82944 : Int32) = nI 82944 from rfl, ite_leN (by omega) (by omega), if_neg (by omega), bind_s (dhas_c hK)]
  cases g : sb (c.2.2.1 (K / 64)) (K % 64) with
  | true =>
    rw [bi_t, if_neg (by decide)]
    refine ⟨c, rfl, rfl, rfl, fun _ _ => rfl, fun i r _ => ?_, by rw [if_pos rfl]⟩
    by_cases e : i = K / 64 ∧ r = K % 64
    · rw [e.1, e.2, g]; rfl
    · rw [decide_eq_false e, Bool.or_false]
  | false =>
    rw [bi_f, if_pos rfl, show (64 : Int32) = nI 64 from rfl, pk_rem (by omega) (by decide) (by decide), pk_div (by omega) (by decide) (by decide), ite_in hi (by decide), ite_in hi (by decide), nI_clamp (by omega), lt, lt]
    refine ⟨_, rfl, rfl, rfl, fun j hj => ?_, fun i r hr2 => ?_, ?_⟩
    · rw [sI_I, if_neg hj, sJ_I]
    · rw [sI_A, sJ_J]
      by_cases e : i = K / 64
      · rw [if_pos e, sb_or hr, e]
        congr 1
        exact decide_eq_decide.mpr ⟨fun q => ⟨rfl, q.symm⟩, fun q => q.2.symm⟩
      · rw [if_neg e, decide_eq_false (fun q => e q.1), Bool.or_false]
    · rw [sI_I, if_pos rfl, sJ_I]
      rfl
/-! the search with memory -/
def MR (ln : Nat) (s : MT) (c : St) : Prop := c.1 9 = nI s.1 ∧ c.1 10 = nI s.2.1 ∧ c.1 11 = nI s.2.2.length ∧ ∀ l, Gk ln l → kcd 12 5 l < 82944 → sb (c.2.2.1 (kcd 12 5 l / 64)) (kcd 12 5 l % 64) = decide (l ∈ s.2.2)
def FM (c c' : St) : Prop := (∀ j, ¬ (9 ≤ j ∧ j ≤ 11) → c'.1 j = c.1 j) ∧ c'.2.1 = c.2.1 ∧ c'.2.2.2 = c.2.2.2
theorem FM.rf {c : St} : FM c c := ⟨fun _ _ => rfl, rfl, rfl⟩
theorem FM.tr {a b c : St} (h : FM a b) (g : FM b c) : FM a c := ⟨fun j hj => (g.1 j hj).trans (h.1 j hj), g.2.1.trans h.2.1, g.2.2.trans h.2.2⟩
theorem FM.cl {nw ln : Nat} {wd : Nat → Nat → Nat} {c c' : St} (h : FM c c') (g : CL nw ln wd c) : CL nw ln wd c' := ⟨by rw [h.1 5 (by omega)]; exact g.1, by rw [h.1 6 (by omega)]; exact g.2.1, fun w hw => by rw [h.2.1]; exact g.2.2 w hw⟩
theorem FM.tt {nw ln : Nat} {wd : Nat → Nat → Nat} {n : Nat} {c c' : St} (h : FM c c') (g : TT nw ln wd n c) : TT nw ln wd n c' := fun d hd => by
  obtain ⟨a1, a2, a3⟩ := g d hd
  refine ⟨fun x h1 h2 l hl2 => ?_, fun x h1 h2 q hq => ?_, fun x h1 h2 => ?_⟩
  · rw [h.2.1]; exact a1 x h1 h2 l hl2
  · rw [h.2.1]; exact a2 x h1 h2 q hq
  · rw [h.2.1]; exact a3 x h1 h2
theorem sI_FM {c : St} {q : Nat} {v : Int32} (h : 9 ≤ q ∧ q ≤ 11) : FM c (sI c q v) := ⟨fun j hj => by
  rw [sI_I, if_neg (fun e => hj (by rw [e]; exact h))], rfl, rfl⟩
theorem mem_add {l l' : List Nat} {ks : List (List Nat)} : decide (l' ∈ (if l ∈ ks then ks else ks ++ [l])) = (decide (l' ∈ ks) || decide (l' = l)) := by
  by_cases h : l ∈ ks
  · rw [if_pos h]
    by_cases e : l' = l
    · rw [e, decide_eq_true h]; rfl
    · rw [decide_eq_false e, Bool.or_false]
  · rw [if_neg h]
    simp
def mF (nw ln : Nat) (wd : Nat → Nat → Nat) (k d x : Nat) (w : Nat) (s : MT) : MT × Bool := if isSt nw ln wd (d + 1) (x * nw + w) then mem nw ln wd k (x * nw + w) s else (s, false)
def mfin (l : List Nat) (q : MT × Bool) : MT × Bool := if q.2 then q else ((q.1.1, q.1.2.1, if l ∈ q.1.2.2 then q.1.2.2 else q.1.2.2 ++ [l]), false)
theorem mem_s {nw ln : Nat} {wd : Nat → Nat → Nat} {k d x : Nat} {s : MT} (h : d + (k + 1) = ln) : mem nw ln wd (k + 1) x s = if key nw ln wd d x ∈ s.2.2 then ((s.1 + 1, s.2.1 + 1, s.2.2), false) else mfin (key nw ln wd d x) (mfold (mF nw ln wd k d x) nw (s.1 + 1, s.2)) := by
  have e1 : d = ln - (k + 1) := by omega
  have e2 : ln - (k + 1) + 1 = ln - k := by omega
  have e3 : mF nw ln wd k d x = fun w s => if isSt nw ln wd (ln - k) (x * nw + w) then mem nw ln wd k (x * nw + w) s else (s, false) := by
    unfold mF
    rw [e1, e2]
  rw [e3, e1]
  rfl
theorem kcd_lt12 {nw ln : Nat} {wd : Nat → Nat → Nat} (hW : WL nw ln wd) {d x : Nat} (hd4 : d < ln) (hs : isSt nw ln wd d x = true) : kcd 12 5 (key nw ln wd d x) < 82944 := by
  have hl := hW.2.1
  have hG := key_good hW hd4 hs
  unfold kcd
  rw [show 5 = 1 + 4 by decide, nb_split 4, nb, nb, key_get, if_pos rfl]
  have h1 := nb_lt (B := 12) (n := 4) (f := fun i => (key nw ln wd d x).getD (1 + i) 0) (fun i _ => hG.2 _)
  have h2 : (12 : Nat) ^ 4 = 20736 := by decide
  omega
theorem MR_add {ln : Nat} (hl : ln ≤ 4) {s : MT} {c c' : St} {l0 : List Nat} (h : MR ln s c) (hG : Gk ln l0) (hK : kcd 12 5 l0 < 82944) (a4 : ∀ j, j ≠ 11 → c'.1 j = c.1 j) (a5 : ∀ i r, r < 64 → sb (c'.2.2.1 i) r = (sb (c.2.2.1 i) r || decide (i = kcd 12 5 l0 / 64 ∧ r = kcd 12 5 l0 % 64))) (a6 : c'.1 11 = if sb (c.2.2.1 (kcd 12 5 l0 / 64)) (kcd 12 5 l0 % 64) then c.1 11 else c.1 11 + 1) : MR ln (s.1, s.2.1, if l0 ∈ s.2.2 then s.2.2 else s.2.2 ++ [l0]) c' := by
  obtain ⟨h1, h2, h3, h4⟩ := h
  refine ⟨by rw [a4 9 (by decide)]; exact h1, by rw [a4 10 (by decide)]; exact h2, ?_, fun l hg hk => ?_⟩
  · rw [a6, h4 l0 hG hK, h3]
    by_cases e : l0 ∈ s.2.2
    · rw [decide_eq_true e, if_pos rfl]
      show _ = nI (if l0 ∈ s.2.2 then s.2.2 else s.2.2 ++ [l0]).length
      rw [if_pos e]
    · rw [decide_eq_false e, if_neg (by decide), nI_1]
      show _ = nI (if l0 ∈ s.2.2 then s.2.2 else s.2.2 ++ [l0]).length
      rw [if_neg e, List.length_append]
      rfl
  · rw [a5 _ _ (Nat.mod_lt _ (by decide)), h4 l hg hk]
    show _ = decide (l ∈ (if l0 ∈ s.2.2 then s.2.2 else s.2.2 ++ [l0]))
    rw [mem_add]
    congr 1
    refine decide_eq_decide.mpr ⟨fun q => ?_, fun q => by rw [q]; exact ⟨rfl, rfl⟩⟩
    exact kcd_inj (B := 12) (n := 5) (by decide) (by omega) hg hG (by omega)
theorem expm_c {nw ln : Nat} {wd : Nat → Nat → Nat} (hW : WL nw ln wd) : ∀ (k d x D : Nat) (c : St) (s : MT), d + k = ln → isSt nw ln wd d x = true → CL nw ln wd c → TT nw ln wd ln c → MR ln s c → k < D → ∃ c', f_X2_exploreWithMemory D c (nI d) (nI (pkd ln (hd nw wd d x))) = some (bi (mem nw ln wd k x s).2, c') ∧ MR ln (mem nw ln wd k x s).1 c' ∧ FM c c' := by
  have hn := hW.1
  have hl := hW.2.1
  intro k
  induction k with
  | zero =>
    intro d x D c s hdk hs hC hT hM hD
    obtain ⟨D, rfl⟩ : ∃ D', D = D' + 1 := ⟨D - 1, by omega⟩
    have hF9 : FM c (sI c 9 (c.1 9 + 1)) := sI_FM (by omega)
    have hC9 := hF9.cl hC
    refine ⟨sI c 9 (c.1 9 + 1), ?_, ⟨?_, hM.2.1, hM.2.2.1, hM.2.2.2⟩, hF9⟩
    · rw [f_X2_exploreWithMemory, lt, bind_s (len_c hC9), if_neg (by rw [nI_lt_iff (by omega) (by omega)]; omega)]
      rfl
    · rw [sI_I, if_pos rfl, hM.1, nI_1]
      rfl
  | succ k ih =>
    intro d x D c s hdk hs hC hT hM hD
    obtain ⟨D, rfl⟩ : ∃ D', D = D' + 1 := ⟨D - 1, by omega⟩
    have hdl : d < ln := by omega
    have hF9 : FM c (sI c 9 (c.1 9 + 1)) := sI_FM (by omega)
    have hC9 := hF9.cl hC
    have hT9 := hF9.tt hT
    have hG := key_good hW hdl hs
    have hK := kcd_lt12 hW hdl hs
    have hM9 : MR ln (s.1 + 1, s.2) (sI c 9 (c.1 9 + 1)) := ⟨by rw [sI_I, if_pos rfl, hM.1, nI_1], hM.2.1, hM.2.2.1, hM.2.2.2⟩
    rw [f_X2_exploreWithMemory, lt, bind_s (len_c hC9), if_pos (by rw [nI_lt_iff (by omega) (by omega)]; exact hdl), bind_s (liken_c hW hC9 hT9 hdl hs), bind_s (dhas_c hK), hM9.2.2.2 _ hG hK, mem_s hdk]
    by_cases eK : key nw ln wd d x ∈ s.2.2
    · rw [decide_eq_true eK, bi_t, if_neg (by decide), lt, if_pos eK]
      refine ⟨_, rfl, ⟨hM9.1, ?_, hM9.2.2.1, hM9.2.2.2⟩, hF9.tr (sI_FM (by omega))⟩
      rw [sI_I, if_pos rfl, hM9.2.1, nI_1]
    · obtain ⟨S, s1, s2, s3⟩ := next_c hW hC9 hT9 hdl hs
      rw [decide_eq_false eK, bi_f, if_pos rfl, bind_s s2, if_neg eK]
      have loop : ∀ (n w : Nat) (st : St), w ≤ nw → nw - w < n → FM c st → MR ln (mfold (mF nw ln wd k d x) w (s.1 + 1, s.2)).1 st → ∃ c', f_X2_exploreWithMemory_L73 (f_X2_exploreWithMemory D) n st (nI d) (nI (pkd ln (hd nw wd d x))) (nI (kcd 12 5 (key nw ln wd d x))) (nI S) (bi (mfold (mF nw ln wd k d x) w (s.1 + 1, s.2)).2) (nI w) = some (bi (mfin (key nw ln wd d x) (mfold (mF nw ln wd k d x) nw (s.1 + 1, s.2))).2, c') ∧ MR ln (mfin (key nw ln wd d x) (mfold (mF nw ln wd k d x) nw (s.1 + 1, s.2))).1 c' ∧ FM c c' := by
        intro n
        induction n with
        | zero => intro w st _ h; omega
        | succ n ihn =>
          intro w st hw hnn hF hX
          have hC2 := hF.cl hC
          have hT2 := hF.tt hT
          rw [f_X2_exploreWithMemory_L73, bind_s (siz_c hC2), ite_leN (by omega) (by omega)]
          by_cases e : nw ≤ w
          · have hwn : w = nw := by omega
            rw [hwn] at hX
            rw [if_pos e, hwn]
            unfold mfin
            cases g : (mfold (mF nw ln wd k d x) nw (s.1 + 1, s.2)).2 with
            | false =>
              obtain ⟨c2, b1, b2, b3, b4, b5, b6⟩ := dadd_c (c := st) hK
              rw [bi_f, if_pos rfl, bind_s b1, f_X2_exploreWithMemory_J138, if_pos (Or.inl rfl), if_neg (by decide)]
              refine ⟨c2, rfl, MR_add hl hX hG hK b4 b5 b6, hF.tr ⟨fun j hj => b4 j (by omega), b2, b3⟩⟩
            | true =>
              rw [bi_t, if_neg (by decide), f_X2_exploreWithMemory_J138, if_pos (Or.inr rfl), if_pos rfl, g]
              exact ⟨st, rfl, hX, hF⟩
          · have hwn : w < nw := by omega
            have hb := s3 w hwn
            rw [if_neg e, bit_nI (by omega) (by omega), hb]
            cases g : isSt nw ln wd (d + 1) (x * nw + w) with
            | false =>
              have e4 : mfold (mF nw ln wd k d x) (w + 1) (s.1 + 1, s.2) = mfold (mF nw ln wd k d x) w (s.1 + 1, s.2) := by
                rw [mfold, mF, g, if_neg (by decide), Bool.or_false]
              have q := ihn (w + 1) st (by omega) (by omega) hF (by rw [e4]; exact hX)
              rw [e4] at q
              rw [if_neg (show ¬ (false = true) by decide), nI_0, if_pos rfl, f_X2_exploreWithMemory_J119, lt, nI_1]
              exact q
            | true =>
              obtain ⟨c2, a1, a2, a3⟩ := ih (d + 1) (x * nw + w) D st _ (by omega) g hC2 hT2 hX (by omega)
              have e4 : mfold (mF nw ln wd k d x) (w + 1) (s.1 + 1, s.2) = ((mem nw ln wd k (x * nw + w) (mfold (mF nw ln wd k d x) w (s.1 + 1, s.2)).1).1, (mfold (mF nw ln wd k d x) w (s.1 + 1, s.2)).2 || (mem nw ln wd k (x * nw + w) (mfold (mF nw ln wd k d x) w (s.1 + 1, s.2)).1).2) := by
                rw [mfold, mF, g, if_pos rfl]
              have q := ihn (w + 1) c2 (by omega) (by omega) (hF.tr a3) (by rw [e4]; exact a2)
              rw [e4] at q
              rw [if_pos rfl, ← n1, if_neg (by decide), bind_s (heads_c hW hC2 hT2 hdl hs hwn g), nI_1, bind_s a1]
              cases g2 : (mem nw ln wd k (x * nw + w) (mfold (mF nw ln wd k d x) w (s.1 + 1, s.2)).1).2 with
              | false =>
                rw [g2, Bool.or_false] at q
                rw [bi_f, if_pos rfl, f_X2_exploreWithMemory_J119, lt, nI_1]
                exact q
              | true =>
                rw [g2, Bool.or_true, bi_t] at q
                rw [bi_t, if_neg (show ¬ ((1 : Int32) = 0) by decide), f_X2_exploreWithMemory_J119, lt, nI_1]
                exact q
      have h9 := loop FU 0 (sI c 9 (c.1 9 + 1)) (by omega) (by have := FU_big; omega) hF9 hM9
      rw [show (mfold (mF nw ln wd k d x) 0 (s.1 + 1, s.2)).2 = false from rfl, bi_f, nI_0] at h9
      exact h9
end
