theorem and31 (x : Int32) : ∃ j : Nat, j < 32 ∧ x &&& 31 = nI j := by
  obtain ⟨j, h1, h2⟩ := pk_andE x (m := 31) 5 (by decide)
  exact ⟨j, h1, h2⟩
section LOOP
variable {p : Program} {l : Launch} {e : Env} {s : State} {m : MethodId} {below : List Frame} {meth : Method} {c : Code} {b L : Nat} {V : Ev} {aC aM : Nat → Nat} {xs : Nat → Int32}
set_option maxRecDepth 100000 in
set_option maxHeartbeats 4000000 in
theorem law_loop {Rel : St → St → Prop} (hL9 : L ≤ 2048) (ops : Ops Rel) (hr : meth.sig.returnType = ret) (hlocks : meth.locks = false) (X : LC V p m c s b L xs) :
    ∀ (n i : Nat) (x3 : Int32), i ≤ L → L + 1 ≤ i + n → x3 = nI i → ∀ (C M : St) (H : Heap) (locs : List Loc) (ls : Array Slot), Rel C M → LW V aC aM s.heap.size C M H → va_S (fun q => s.heap.size ≤ q) s.heap H locs → lv_has ls 4 [(0, .ref b), (1, .ref (aC 0)), (2, .ref (aM 0)), (3, .int x3)] → W p l e room_1 s m #[Value.ref b] below meth c H locs (56 + (phi C - 192)) (6347 + 2 * (phi C - 192)) (lw_Z below #[Value.ref b] s) (F0 m 18 ls []) := by
  intro n
  induction n with
  | zero =>
    intro i x3 h1 h2
    exact absurd h2 (by omega)
  | succ n ih =>
    intro i x3 hi hin ex3 C M H locs ls hRel hL hS hl
    have hbd := ops.2.2.2.2.2.2.2.2.2.2.2.2.2.2.2.2.2.2.2.2.2.2.2.2
    have hb1 := hbd C M hRel
    refine lv_iload_n X.1.1 X.1.2.1 dL_law_18 rfl (lv_at hl 3 rfl) ?_
    refine lv_aload_n X.1.1 X.1.2.1 dL_law_19 rfl (lv_at hl 0 rfl) ?_
    refine va_slen (A := fun q => s.heap.size ≤ q) X.1.1 X.1.2.1 X.2.2.2.1 X.2.2.2.2 (Nat.not_le.mpr X.2.2.2.2) hS dL_law_20 ?_
    refine lv_iconst (v := 4) X.1.1 X.1.2.1 dL_law_21 (by decide) ?_
    refine lv_isub X.1.1 X.1.2.1 dL_law_22 ?_
    have e4 : (Int32.ofNat L - 4).toInt = (L : Int) - 4 := pk_sub_toInt (a := L) (b := 4) (by omega) (by omega)
    have e3 : x3.toInt = (i : Int) := by rw [ex3]; exact nI_toInt (by omega)
    refine lv_icmp_gt (tgt := 733) X.1.1 X.1.2.1 dL_law_23 (by decide) (fun c23 => ?_) (fun c23 => ?_)
    · refine lv_iconst (v := 1) X.1.1 X.1.2.1 dL_law_733 (by decide) ?_
      refine va_forget (fun q hq => hS.2.2 q hq) ?_
      refine W.widen (k := 600000) (n := 7302250) (by omega) (by omega) ?_
      exact lw_ret X.1.1 X.1.2.1 hr hlocks dL_law_734
    · have hlt : i + 4 ≤ L := by
        rcases Nat.lt_or_ge L (i + 4) with q | q
        · exact absurd (Int32.lt_iff_toInt_lt.mpr (by rw [e4, e3]; omega)) c23
        · exact q
      have h0 : vp_in x3 L := by rw [ex3]; exact vp_in_nI (by omega) (by omega)
      have h1 : vp_in (x3 + 1) L := by rw [ex3, nI_1]; exact vp_in_nI (by omega) (by omega)
      have h2 : vp_in (x3 + 2) L := by rw [ex3, show (2 : Int32) = nI 2 from rfl, nI_add]; exact vp_in_nI (by omega) (by omega)
      have h3 : vp_in (x3 + 3) L := by rw [ex3, show (3 : Int32) = nI 3 from rfl, nI_add]; exact vp_in_nI (by omega) (by omega)
      have next : ∀ (C M : St) (H : Heap) (locs : List Loc), Rel C M → LW V aC aM s.heap.size C M H → va_S (fun q => s.heap.size ≤ q) s.heap H locs → W p l e room_1 s m #[Value.ref b] below meth c H locs (56 + (phi C - 192)) (6347 + 2 * (phi C - 192)) (lw_Z below #[Value.ref b] s) (F0 m 727 ls []) := fun C M H locs hRel hL hS => by
        obtain ⟨x4, ex4⟩ : ∃ y : Int32, y = x3 + 4 := ⟨_, rfl⟩
        refine lv_iinc (v := x4) (lv' := [(3, .int x4), (0, .ref b), (1, .ref (aC 0)), (2, .ref (aM 0))]) X.1.1 X.1.2.1 dL_law_727 hl (k := 3) rfl (by rw [ex4]; rfl) (by decide) rfl (fun ls hl => ?_)
        refine lv_goto (tgt := 18) X.1.1 X.1.2.1 dL_law_730 (by decide) ?_
        exact ih (i + 4) x4 (by omega) (by omega) (by rw [ex4, ex3, show (4 : Int32) = nI 4 from rfl, nI_add]) C M H locs ls hRel hL hS (lv_sub hl [1, 2, 3, 0] rfl)
      refine lv_aload_n X.1.1 X.1.2.1 dL_law_26 rfl (lv_at hl 0 rfl) ?_
      refine lv_iload_n X.1.1 X.1.2.1 dL_law_27 rfl (lv_at hl 3 rfl) ?_
      refine va_sld (A := fun q => s.heap.size ≤ q) X.1.1 X.1.2.1 X.2.2.2.1 X.2.2.2.2 (Nat.not_le.mpr X.2.2.2.2) hS h0 dL_law_28 ?_
      refine lv_bipush (v := 31) X.1.1 X.1.2.1 dL_law_29 (by decide) ?_
      refine lv_iand X.1.1 X.1.2.1 dL_law_31 ?_
      by_cases c0 : xs x3.toNatClampNeg &&& 31 = 0
      · refine lv_tableIn (tgt := 144) X.1.1 X.1.2.1 dL_law_32 (by rw [c0]; decide) (by rw [c0]; decide) (by rw [c0]; rfl) (by decide) ?_
        exact law_0 ops.1 hbd X hRel hL hS hl h1 h2 h3 next
      by_cases c1 : xs x3.toNatClampNeg &&& 31 = 1
      · refine lv_tableIn (tgt := 167) X.1.1 X.1.2.1 dL_law_32 (by rw [c1]; decide) (by rw [c1]; decide) (by rw [c1]; rfl) (by decide) ?_
        exact law_1 ops.2.1 hbd X hRel hL hS hl h1 h2 h3 next
      by_cases c2 : xs x3.toNatClampNeg &&& 31 = 2
      · refine lv_tableIn (tgt := 180) X.1.1 X.1.2.1 dL_law_32 (by rw [c2]; decide) (by rw [c2]; decide) (by rw [c2]; rfl) (by decide) ?_
        exact law_2 ops.2.2.1 hbd X hRel hL hS hl h1 h2 h3 next
      by_cases c3 : xs x3.toNatClampNeg &&& 31 = 3
      · refine lv_tableIn (tgt := 193) X.1.1 X.1.2.1 dL_law_32 (by rw [c3]; decide) (by rw [c3]; decide) (by rw [c3]; rfl) (by decide) ?_
        exact law_3 ops.2.2.2.1 hbd X hRel hL hS hl h1 h2 h3 next
      by_cases c4 : xs x3.toNatClampNeg &&& 31 = 4
      · refine lv_tableIn (tgt := 206) X.1.1 X.1.2.1 dL_law_32 (by rw [c4]; decide) (by rw [c4]; decide) (by rw [c4]; rfl) (by decide) ?_
        exact law_4 ops.2.2.2.2.1 hbd X hRel hL hS hl h1 h2 h3 next
      by_cases c5 : xs x3.toNatClampNeg &&& 31 = 5
      · refine lv_tableIn (tgt := 229) X.1.1 X.1.2.1 dL_law_32 (by rw [c5]; decide) (by rw [c5]; decide) (by rw [c5]; rfl) (by decide) ?_
        exact law_5 ops.2.2.2.2.2.1 hbd X hRel hL hS hl h1 h2 h3 next
      by_cases c6 : xs x3.toNatClampNeg &&& 31 = 6
      · refine lv_tableIn (tgt := 262) X.1.1 X.1.2.1 dL_law_32 (by rw [c6]; decide) (by rw [c6]; decide) (by rw [c6]; rfl) (by decide) ?_
        exact law_6 ops.2.2.2.2.2.2.1 hbd X hRel hL hS hl h1 h2 h3 next
      by_cases c7 : xs x3.toNatClampNeg &&& 31 = 7
      · refine lv_tableIn (tgt := 285) X.1.1 X.1.2.1 dL_law_32 (by rw [c7]; decide) (by rw [c7]; decide) (by rw [c7]; rfl) (by decide) ?_
        exact law_7 ops.2.2.2.2.2.2.2.1 hbd X hRel hL hS hl h1 h2 h3 next
      by_cases c8 : xs x3.toNatClampNeg &&& 31 = 8
      · refine lv_tableIn (tgt := 318) X.1.1 X.1.2.1 dL_law_32 (by rw [c8]; decide) (by rw [c8]; decide) (by rw [c8]; rfl) (by decide) ?_
        exact law_8 ops.2.2.2.2.2.2.2.2.1 hbd X hRel hL hS hl h1 h2 h3 next
      by_cases c9 : xs x3.toNatClampNeg &&& 31 = 9
      · refine lv_tableIn (tgt := 351) X.1.1 X.1.2.1 dL_law_32 (by rw [c9]; decide) (by rw [c9]; decide) (by rw [c9]; rfl) (by decide) ?_
        exact law_9 ops.2.2.2.2.2.2.2.2.2.1 hbd X hRel hL hS hl h1 h2 h3 next
      by_cases c10 : xs x3.toNatClampNeg &&& 31 = 10
      · refine lv_tableIn (tgt := 384) X.1.1 X.1.2.1 dL_law_32 (by rw [c10]; decide) (by rw [c10]; decide) (by rw [c10]; rfl) (by decide) ?_
        exact law_10 ops.2.2.2.2.2.2.2.2.2.2.1 hbd X hRel hL hS hl h1 h2 h3 next
      by_cases c11 : xs x3.toNatClampNeg &&& 31 = 11
      · refine lv_tableIn (tgt := 407) X.1.1 X.1.2.1 dL_law_32 (by rw [c11]; decide) (by rw [c11]; decide) (by rw [c11]; rfl) (by decide) ?_
        exact law_11 ops.2.2.2.2.2.2.2.2.2.2.2.1 hbd X hRel hL hS hl h1 h2 h3 next
      by_cases c12 : xs x3.toNatClampNeg &&& 31 = 12
      · refine lv_tableIn (tgt := 450) X.1.1 X.1.2.1 dL_law_32 (by rw [c12]; decide) (by rw [c12]; decide) (by rw [c12]; rfl) (by decide) ?_
        exact law_12 ops.2.2.2.2.2.2.2.2.2.2.2.2.1 hbd X hRel hL hS hl h1 h2 h3 next
      by_cases c13 : xs x3.toNatClampNeg &&& 31 = 13
      · refine lv_tableIn (tgt := 473) X.1.1 X.1.2.1 dL_law_32 (by rw [c13]; decide) (by rw [c13]; decide) (by rw [c13]; rfl) (by decide) ?_
        exact law_13 ops.2.2.2.2.2.2.2.2.2.2.2.2.2.1 hbd X hRel hL hS hl h1 h2 h3 next
      by_cases c14 : xs x3.toNatClampNeg &&& 31 = 14
      · refine lv_tableIn (tgt := 496) X.1.1 X.1.2.1 dL_law_32 (by rw [c14]; decide) (by rw [c14]; decide) (by rw [c14]; rfl) (by decide) ?_
        exact law_14 ops.2.2.2.2.2.2.2.2.2.2.2.2.2.2.1 hbd X hRel hL hS hl h1 h2 h3 next
      by_cases c15 : xs x3.toNatClampNeg &&& 31 = 15
      · refine lv_tableIn (tgt := 519) X.1.1 X.1.2.1 dL_law_32 (by rw [c15]; decide) (by rw [c15]; decide) (by rw [c15]; rfl) (by decide) ?_
        exact law_15 ops.2.2.2.2.2.2.2.2.2.2.2.2.2.2.2.1 hbd X hRel hL hS hl h1 h2 h3 next
      by_cases c16 : xs x3.toNatClampNeg &&& 31 = 16
      · refine lv_tableIn (tgt := 552) X.1.1 X.1.2.1 dL_law_32 (by rw [c16]; decide) (by rw [c16]; decide) (by rw [c16]; rfl) (by decide) ?_
        exact law_16 ops.2.2.2.2.2.2.2.2.2.2.2.2.2.2.2.2.1 hbd X hRel hL hS hl h1 h2 h3 next
      by_cases c17 : xs x3.toNatClampNeg &&& 31 = 17
      · refine lv_tableIn (tgt := 575) X.1.1 X.1.2.1 dL_law_32 (by rw [c17]; decide) (by rw [c17]; decide) (by rw [c17]; rfl) (by decide) ?_
        exact law_17 ops.2.2.2.2.2.2.2.2.2.2.2.2.2.2.2.2.2.1 hbd X hRel hL hS hl h1 h2 h3 next
      by_cases c18 : xs x3.toNatClampNeg &&& 31 = 18
      · refine lv_tableIn (tgt := 598) X.1.1 X.1.2.1 dL_law_32 (by rw [c18]; decide) (by rw [c18]; decide) (by rw [c18]; rfl) (by decide) ?_
        exact law_18 ops.2.2.2.2.2.2.2.2.2.2.2.2.2.2.2.2.2.2.1 hbd X hRel hL hS hl h1 h2 h3 next
      by_cases c19 : xs x3.toNatClampNeg &&& 31 = 19
      · refine lv_tableIn (tgt := 611) X.1.1 X.1.2.1 dL_law_32 (by rw [c19]; decide) (by rw [c19]; decide) (by rw [c19]; rfl) (by decide) ?_
        exact law_19 ops.2.2.2.2.2.2.2.2.2.2.2.2.2.2.2.2.2.2.2.1 hbd X hRel hL hS hl h1 h2 h3 next
      by_cases c20 : xs x3.toNatClampNeg &&& 31 = 20
      · refine lv_tableIn (tgt := 634) X.1.1 X.1.2.1 dL_law_32 (by rw [c20]; decide) (by rw [c20]; decide) (by rw [c20]; rfl) (by decide) ?_
        exact law_20 ops.2.2.2.2.2.2.2.2.2.2.2.2.2.2.2.2.2.2.2.2.1 hbd X hRel hL hS hl h1 h2 h3 next
      by_cases c21 : xs x3.toNatClampNeg &&& 31 = 21
      · refine lv_tableIn (tgt := 667) X.1.1 X.1.2.1 dL_law_32 (by rw [c21]; decide) (by rw [c21]; decide) (by rw [c21]; rfl) (by decide) ?_
        exact law_21 ops.2.2.2.2.2.2.2.2.2.2.2.2.2.2.2.2.2.2.2.2.2.1 hbd X hRel hL hS hl h1 h2 h3 next
      by_cases c22 : xs x3.toNatClampNeg &&& 31 = 22
      · refine lv_tableIn (tgt := 690) X.1.1 X.1.2.1 dL_law_32 (by rw [c22]; decide) (by rw [c22]; decide) (by rw [c22]; rfl) (by decide) ?_
        exact law_22 ops.2.2.2.2.2.2.2.2.2.2.2.2.2.2.2.2.2.2.2.2.2.2.1 hbd X hRel hL hS hl h1 h2 h3 next
      by_cases c23 : xs x3.toNatClampNeg &&& 31 = 23
      · refine lv_tableIn (tgt := 713) X.1.1 X.1.2.1 dL_law_32 (by rw [c23]; decide) (by rw [c23]; decide) (by rw [c23]; rfl) (by decide) ?_
        exact law_23 ops.2.2.2.2.2.2.2.2.2.2.2.2.2.2.2.2.2.2.2.2.2.2.2.1 hbd X hRel hL hS hl h1 h2 h3 next
      have n32 : (xs x3.toNatClampNeg &&& 31).toInt < 0 ∨ 23 < (xs x3.toNatClampNeg &&& 31).toInt := by
        have q0 := lv_neT (a := 0) c0 (by decide)
        have q1 := lv_neT (a := 1) c1 (by decide)
        have q2 := lv_neT (a := 2) c2 (by decide)
        have q3 := lv_neT (a := 3) c3 (by decide)
        have q4 := lv_neT (a := 4) c4 (by decide)
        have q5 := lv_neT (a := 5) c5 (by decide)
        have q6 := lv_neT (a := 6) c6 (by decide)
        have q7 := lv_neT (a := 7) c7 (by decide)
        have q8 := lv_neT (a := 8) c8 (by decide)
        have q9 := lv_neT (a := 9) c9 (by decide)
        have q10 := lv_neT (a := 10) c10 (by decide)
        have q11 := lv_neT (a := 11) c11 (by decide)
        have q12 := lv_neT (a := 12) c12 (by decide)
        have q13 := lv_neT (a := 13) c13 (by decide)
        have q14 := lv_neT (a := 14) c14 (by decide)
        have q15 := lv_neT (a := 15) c15 (by decide)
        have q16 := lv_neT (a := 16) c16 (by decide)
        have q17 := lv_neT (a := 17) c17 (by decide)
        have q18 := lv_neT (a := 18) c18 (by decide)
        have q19 := lv_neT (a := 19) c19 (by decide)
        have q20 := lv_neT (a := 20) c20 (by decide)
        have q21 := lv_neT (a := 21) c21 (by decide)
        have q22 := lv_neT (a := 22) c22 (by decide)
        have q23 := lv_neT (a := 23) c23 (by decide)
        omega
      refine lv_tableOut (tgt := 727) X.1.1 X.1.2.1 dL_law_32 n32 (by decide) ?_
      exact next C M H locs hRel hL hS
end LOOP
theorem G_nest {q : String × Nat × MethodName × String} (h : q ∈ nestL) : Cond.methodLinkNest q.1 q.2.1 q.2.2.1 q.2.2.2 ∈ lw_tbl := by
  have hh : ∀ q ∈ nestL, Cond.methodLinkNest q.1 q.2.1 q.2.2.1 q.2.2.2 ∈ lw_tbl := by decide +kernel
  exact hh q h
theorem over_in : Cond.arrayOver (.array .int) ∈ lw_tbl := List.mem_of_getElem? (i := 176) (by decide +kernel)
/-- the arrays' classes that the tables name -/
theorem arr_known {s : State} {args : Array Value} {ty : FieldType} (hne : ∀ C, ty ≠ .object C) (h : (Cond.arrayClass ty).before args s = true) : ∃ cA : ClassId, ArrOfT s cA ty ∧ va_RA s cA ty := by
  obtain ⟨cA, kA, comp, h1, h2, h3⟩ := Cond.arrayClass_spec h
  refine ⟨cA, fun n z => ⟨fun k h => (by cases h), kA, h2, comp, h3⟩, ?_⟩
  cases ty <;> first | exact h1 | exact absurd rfl (hne _)
theorem over_known {s : State} {args : Array Value} (h : (Cond.arrayOver (.array .int)).before args s = true) : ∃ cA : ClassId, ArrOfT s cA (.array .int) ∧ va_RA s cA (.array .int) := by
  obtain ⟨comp, cA, kA, h1, h2, h3, h4⟩ := Cond.arrayOver_specA h
  exact ⟨cA, fun n z => ⟨fun k h => (by cases h), kA, h2, comp, h3⟩, h4⟩
set_option maxHeartbeats 4000000 in
set_option maxRecDepth 100000 in
theorem whole_of {Rel : St → St → Prop} {m0 : St} (ops : Ops Rel) (hcb : f_X8_clearBoard mz = some m0) (hR0 : Rel c0 m0) {p : Program} {e : Env} {s : State} {m : MethodId} {below : List Frame} {meth : Method} {c : Code} (l : Launch) {b L : Nat} {xs : Nat → Int32} (hL : L ≤ 2048) (C0 : lw_At p s m meth c b L xs) : W p l e room_1 s m #[Value.ref b] below meth c s.heap [] 0 0 (lw_Z below #[Value.ref b] s) (entryFrame m ([Value.ref b] : List Value).toArray 4) := by
  obtain ⟨hx, hb, hr, hml, hown, hts, hX, hbl, hlocks, hgv⟩ := id C0
  have hG : ∀ w ∈ G, w.before #[Value.ref b] s = true := fun w hw => hts w (G_tbl hw)
  obtain ⟨k0, i0, hKn0⟩ := u_known (C := RX0) (T := TX0) (N := 3) (n := 3) hG inG_X0 (hG _ ns_X0)
  obtain ⟨k1, i1, hKn1⟩ := u_known (C := RX1) (T := TX1) (N := 2) (n := 2) hG inG_X1 (hG _ ns_X1)
  obtain ⟨k2, i2, hKn2⟩ := u_known (C := RX2) (T := TX2) (N := 13) (n := 13) hG inG_X2 (hG _ ns_X2)
  obtain ⟨k3, i3, hKn3⟩ := u_known (C := RX3) (T := TX3) (N := 4) (n := 4) hG inG_X3 (hG _ ns_X3)
  obtain ⟨k4, i4, hKn4⟩ := u_known (C := RX4) (T := TX4) (N := 2) (n := 2) hG inG_X4 (hG _ ns_X4)
  obtain ⟨k5, i5, hKn5⟩ := u_known (C := RX5) (T := TX5) (N := 2) (n := 2) hG inG_X5 (hG _ ns_X5)
  obtain ⟨k6, i6, hKn6⟩ := u_known (C := RX6) (T := TX6) (N := 4) (n := 4) hG inG_X6 (hG _ ns_X6)
  obtain ⟨k7, i7, hKn7⟩ := u_known (C := RX7) (T := TX7) (N := 9) (n := 9) hG inG_X7 (hG _ ns_X7)
  obtain ⟨k8, i8, hKn8⟩ := u_known (C := RX8) (T := TX8) (N := 31) (n := 31) hG inG_X8 (hG _ ns_X8)
  obtain ⟨dC, dI, hKc⟩ : ∃ (dC : Nat → ClassId) (dI : Nat → Nat → Nat), ∀ (k : Nat) (q : vw_C), vwCl[k]? = some q → u_Kn s q.1 q.2.1 q.2.2 (dC k) (dI k) := by
    refine ⟨fun k => if k = 0 then k0 else if k = 1 then k1 else if k = 2 then k2 else if k = 3 then k3 else if k = 4 then k4 else if k = 5 then k5 else if k = 6 then k6 else if k = 7 then k7 else k8, fun k => if k = 0 then i0 else if k = 1 then i1 else if k = 2 then i2 else if k = 3 then i3 else if k = 4 then i4 else if k = 5 then i5 else if k = 6 then i6 else if k = 7 then i7 else i8, ?_⟩
    intro k q hq
    match k, hq with
    | 0, hq => cases hq; exact hKn0
    | 1, hq => cases hq; exact hKn1
    | 2, hq => cases hq; exact hKn2
    | 3, hq => cases hq; exact hKn3
    | 4, hq => cases hq; exact hKn4
    | 5, hq => cases hq; exact hKn5
    | 6, hq => cases hq; exact hKn6
    | 7, hq => cases hq; exact hKn7
    | 8, hq => cases hq; exact hKn8
    | k + 9, hq => simp [vwCl] at hq
  obtain ⟨cI, gI⟩ := arr_known (fun _ h => by cases h) (hG _ kc_arri)
  obtain ⟨cJ, gJ⟩ := arr_known (fun _ h => by cases h) (hG _ kc_arrj)
  obtain ⟨cZ, gZ⟩ := arr_known (fun _ h => by cases h) (hG _ kc_arrz)
  have hov := hts _ over_in
  obtain ⟨cO, gO⟩ := over_known hov
  obtain ⟨V, eV⟩ : ∃ V : Ev, V = ((dC, dI), cI, cJ, cZ, cO) := ⟨_, rfl⟩
  have hK : va_K V.1 vwCl (tyL V) s := by
    rw [eV]
    refine ⟨hKc, fun k q h => ?_⟩
    match k, h with
    | 0, h => cases h; exact gI
    | 1, h => cases h; exact gJ
    | 2, h => cases h; exact gZ
    | 3, h => cases h; exact gO
    | k + 4, h => simp at h
  have hN : Nst s := fun q hq => va_Nw.of rfl (hts _ (G_nest hq))
  have hO : Ovr s := hov
  have hA : ∀ q : Nat, s.heap.size ≤ q → (fun q : Nat => s.heap.size ≤ q) q := fun _ h => h
  have hS : va_S (fun q : Nat => s.heap.size ≤ q) s.heap s.heap [] := va_S.rf
  have hP : va_P V.1 vwCl [] s.heap := fun k q h => by simp at h
  have hD : va_D (fun q : Nat => s.heap.size ≤ q) [] := ⟨fun i j p q h => by simp at h, fun k q h => by simp at h⟩
  have CF : CallFix p m c cL_law 4 s #[Value.ref b] G RL := ⟨hx, hb, hml, hown, hG⟩
  have XC : Cx V (fun q : Nat => s.heap.size ≤ q) cL_law 4 RL p m c s #[Value.ref b] := ⟨CF, hK, hA, hN⟩
  have hl := lv_entry ([.ref b]) (n := 4) (Nat.le_of_ble_eq_true rfl)
  rw [lg_entry_eq]
  generalize (lg_sl ([.ref b]) ++ List.replicate (4 - (lg_sl ([.ref b])).length) Slot.unset).toArray = ls at hl ⊢
  have hl : lv_has ls 4 [(0, .ref b)] := hl
  refine va_new (ci := 7) (fs := [.null, .null, .null, .null, .null, .int 0, .int 0, .int 0, .int 0]) (C := RX7) (T := TX7) (N := 9) hx hb hG inG_X7 tyX7 tyX7_ok hown (hG _ cl_L_7) (hG _ ns_X7) (hG _ ini_X7) hK hP hD hS hA rfl (fun j hj => by rcases (show j = 0 ∨ j = 1 ∨ j = 2 ∨ j = 3 ∨ j = 4 ∨ j = 5 ∨ j = 6 ∨ j = 7 ∨ j = 8 by omega) with rfl | rfl | rfl | rfl | rfl | rfl | rfl | rfl | rfl <;> rfl) (Nat.le_of_ble_eq_true rfl) (Nat.le_of_ble_eq_true rfl) dL_law_0 (fun h7 H hP hD hS => ?_)
  refine lv_dup hx hb dL_law_3 rfl ?_
  refine va_callv (run_IO (n := 0) (As := []) (rest := [.ref h7]) XC hO (i_C l V _ h7) kc_X7_init im_X7_init ini_X7 rfl (by decide +kernel) ln_L_9 hP hD hS rfl hl.1 rfl (Nat.le_of_ble_eq_true rfl) ⟨Nat.le_of_ble_eq_true rfl, Nat.le_of_ble_eq_true rfl⟩ ⟨Nat.le_of_ble_eq_true rfl, Nat.le_of_ble_eq_true rfl⟩ dL_law_4) hS (fun _ _ h => h) (fun _ h => h) (fun u t H locs ht hvm hp hB _ _ hS => ?_)
  rw [ht] at hB
  obtain ⟨hPc, hDc⟩ := hB
  have hWc := newC_wd hPc hDc
  refine lv_astore_n (lv' := [(1, .ref h7), (0, .ref b)]) hx hb dL_law_7 rfl hl (by decide) rfl (fun ls hl => ?_)
  have hP : va_P V.1 vwCl [] H := fun k q h => by simp at h
  have hD : va_D (fun q : Nat => s.heap.size ≤ q) [] := ⟨fun i j p q h => by simp at h, fun k q h => by simp at h⟩
  obtain ⟨ad', ha, hP7, hD7⟩ := hWc
  have hSz := hS.1
  refine va_new (ci := 8) (fs := [.int 0, .int 0, .null, .null, .null, .int 0, .int 0, .int 0, .null, .int 0, .int 0, .int 0, .null, .null, .null, .null, .null, .null, .null, .int 0, .null, .null, .null, .null, .null, .int 0, .int 0, .int 0, .int 0, .null, .long 0]) (C := RX8) (T := TX8) (N := 31) hx hb hG inG_X8 tyX8 tyX8_ok hown (hG _ cl_L_10) (hG _ ns_X8) (hG _ ini_X8) hK hP7 hD7 hS hA rfl (fun j hj => by rcases (show j = 0 ∨ j = 1 ∨ j = 2 ∨ j = 3 ∨ j = 4 ∨ j = 5 ∨ j = 6 ∨ j = 7 ∨ j = 8 ∨ j = 9 ∨ j = 10 ∨ j = 11 ∨ j = 12 ∨ j = 13 ∨ j = 14 ∨ j = 15 ∨ j = 16 ∨ j = 17 ∨ j = 18 ∨ j = 19 ∨ j = 20 ∨ j = 21 ∨ j = 22 ∨ j = 23 ∨ j = 24 ∨ j = 25 ∨ j = 26 ∨ j = 27 ∨ j = 28 ∨ j = 29 ∨ j = 30 by omega) with rfl | rfl | rfl | rfl | rfl | rfl | rfl | rfl | rfl | rfl | rfl | rfl | rfl | rfl | rfl | rfl | rfl | rfl | rfl | rfl | rfl | rfl | rfl | rfl | rfl | rfl | rfl | rfl | rfl | rfl | rfl <;> rfl) (Nat.le_of_ble_eq_true rfl) (Nat.le_of_ble_eq_true rfl) dL_law_8 (fun h8 H2 hP8 hD8 hS => ?_)
  refine lv_dup hx hb dL_law_11 rfl ?_
  have hPm : va_P V.1 vwCl [(h8, .inr (8, [.int 0, .int 0, .null, .null, .null, .int 0, .int 0, .int 0, .null, .int 0, .int 0, .int 0, .null, .null, .null, .null, .null, .null, .null, .int 0, .null, .null, .null, .null, .null, .int 0, .int 0, .int 0, .int 0, .null, .long 0]))] H2 := fun k q hq => hP8 (38 + k) q (by
    have hlen : (cw ad' (cE V ad' c0) 38).length = 38 := by unfold cw; rw [List.length_map, List.length_range]
    rw [List.getElem?_append_right (by omega), hlen, show 38 + k - 38 = k by omega]; exact hq)
  have hlen : (cw ad' (cE V ad' c0) 38).length = 38 := by unfold cw; rw [List.length_map, List.length_range]
  have hP7 : va_P V.1 vwCl (cw ad' (cE V ad' c0) 38) H2 := fun k q hq => hP8 k q (by
    rw [List.getElem?_append_left (List.getElem?_eq_some_iff.mp hq).1]; exact hq)
  have h8lt : h8 < H2.size := (hPm 0 _ rfl).lt
  have h8ge : s.heap.size ≤ h8 := hD8.2 38 _ (by rw [List.getElem?_append_right (by omega), hlen]; rfl)
  have h8ne : ∀ (k : Nat) (q : Nat × va_E), (cw ad' (cE V ad' c0) 38)[k]? = some q → q.1 ≠ h8 := fun k q hq e9 => by
    have hk := (List.getElem?_eq_some_iff.mp hq).1
    have := hD8.1 k 38 q (h8, _) (by rw [List.getElem?_append_left hk]; exact hq) (by rw [List.getElem?_append_right (by omega), hlen]; rfl) e9
    omega
  have hS2 := hS.1
  refine va_callv (va_runI (As := []) (rest := [.ref h8]) CF (i_M l V (fun q => q = h8 ∨ H2.size ≤ q) h8 hcb) ⟨callB_of 0 CF.2.2.2.2 (G_ok kc_X8_init) rfl rfl rfl (hG _ ini_X8) (hG _ ln_L_12) (by decide +kernel) ⟨Nat.le_of_ble_eq_true rfl, Nat.le_of_ble_eq_true rfl⟩, rfl, hG _ im_X8_init⟩ ⟨PwO_blind, fun U hU hw => ⟨rfl, ⟨by rw [hU]; exact hPm, fun i j p q hi hj _ => by
      have h1 := (List.getElem?_eq_some_iff.mp hi).1
      have h2 := (List.getElem?_eq_some_iff.mp hj).1
      simp only [List.length_singleton] at h1 h2
      omega, fun k q hq => by
      have h1 := (List.getElem?_eq_some_iff.mp hq).1
      simp only [List.length_singleton] at h1
      rw [show k = 0 by omega] at hq
      cases hq
      exact Or.inl rfl⟩, va_K.moved hw.alike hK, fun q hq => Or.inr (by rw [← hU]; exact hq), hN.moved hw, hO.moved hw⟩⟩ rfl rfl hl.1 rfl (lv_room (Nat.le_of_ble_eq_true rfl)) dL_law_12 ⟨Nat.le_of_ble_eq_true rfl, Nat.le_of_ble_eq_true rfl⟩) hS (fun q hq h => by
      rcases h with h | h
      · rw [h]; exact h8ge
      · omega) (fun q h => by
      rcases h with h | h
      · rw [h]; exact h8ge
      · exact Nat.le_trans hS.1 h) (fun v t2 H3 locs3 ht2 hvm2 hp2 hB2 hsz2 hk2 hS => ?_)
  rw [ht2] at hB2
  obtain ⟨aM, eM⟩ : ∃ aM, aM = adM h8 v := ⟨_, rfl⟩
  rw [← eM] at hB2
  have hm8 : aM 0 = h8 := by rw [eM]; rfl
  have hMin : ∀ j, j < 18 → aM j = h8 ∨ H2.size ≤ aM j := fun j hj => hB2.2.2 j _ (cw_at hj)
  have hLW : LW V (adC h7 u) aM s.heap.size c0 m0 H3 := by
    refine ⟨⟨ad', ha, hP7.kept (fun k q hq => hk2 q.1 ((hP7 k q hq).lt) (fun g => ?_)), hD7.1, fun k q hq => ⟨hD7.2 k q hq, fun j hj e9 => ?_⟩⟩, hB2.1, hB2.2.1, fun k q hq => ?_⟩
    · rcases g with g | g
      · exact h8ne k q hq g
      · have := (hP7 k q hq).lt
        omega
    · rcases hMin j hj with g | g
      · exact h8ne k q hq (e9.trans g)
      · have := (hP7 k q hq).lt
        omega
    · rcases hB2.2.2 k q hq with g | g
      · rw [g]; exact h8ge
      · exact Nat.le_trans hS2 g
  refine lv_astore_n (lv' := [(2, .ref h8), (1, .ref h7), (0, .ref b)]) hx hb dL_law_15 rfl hl (by decide) rfl (fun ls hl => ?_)
  refine lv_iconst (v := 0) hx hb dL_law_16 (by decide) ?_
  refine lv_istore_n (lv' := [(3, .int 0), (2, .ref h8), (1, .ref h7), (0, .ref b)]) hx hb dL_law_17 rfl hl (by decide) rfl (fun ls hl => ?_)
  refine W.widen (k := 56 + (phi c0 - 192)) (n := 6347 + 2 * (phi c0 - 192)) (Nat.le_of_ble_eq_true rfl) (Nat.le_of_ble_eq_true rfl) ?_
  have hl : lv_has ls 4 [(0, .ref b), (1, .ref (adC h7 u 0)), (2, .ref (aM 0)), (3, .int 0)] := by
    rw [hm8]; exact lv_sub hl [3, 2, 1, 0] rfl
  exact law_loop hL ops hr hlocks ⟨CF, hK, hN, hX, hbl⟩ (L + 1) 0 0 (Nat.zero_le L) (by omega) nI_0.symm c0 m0 H3 _ ls hR0 hLW hS hl
