section GW
variable {p : Program} {l : Launch} {e : Env} {s : State} {m : MethodId} {args : Array Value} {below : List Frame} {meth : Method} {c : Code} {V : Ev} {A : Nat → Prop} {ad : Nat → Nat} {Wd : St → Heap → Prop}

-- WordSquaresModel.within
noncomputable def f_X8_within_J14 : Option Int32 := some 0
set_option maxRecDepth 100000 in
theorem f_X8_within_J14_w {st : St} {res : Int32} (X : Cx V A cX8_within 3 RX8 p m c s args) (hr : meth.sig.returnType = (some .boolean)) (hlk : meth.locks = false)  (H : Heap) (locs : List Loc) (ls : Array Slot)  (hf : f_X8_within_J14  = some res) (hW : Wd st H) (hS : va_S A s.heap H locs) (hl : lv_has ls 3 []) : W p l e (rmF 0 0 0 0) s m args below meth c H locs 0 0 (MQ below (Qwi A Wd res st) args s 0 0 A) (F0 m 14 ls []) := by
  
  unfold f_X8_within_J14 at hf
  refine lv_iconst (v := 0) X.hx X.hb dX8_within_14 (by decide) ?_
  exact rt_z X hr hlk hW hS (Or.inl rfl) (Option.some.inj hf) (Nat.le_refl _) (Nat.le_refl _) dX8_within_15
noncomputable def f_X8_within (a0 : Int32) (a1 : Int32) (a2 : Int32) : Option Int32 := if a0 < a1 then f_X8_within_J14 else if a2 < a0 then f_X8_within_J14 else some 1
set_option maxRecDepth 100000 in
theorem w_X8_within (l : Launch) (V : Ev) (A : Nat → Prop) (Wd : St → Heap → Prop) (st : St) {a0 : Int32} {a1 : Int32} {a2 : Int32} {res : Int32} (hf : f_X8_within a0 a1 a2 = some res) : Cn l yX8_within cX8_within 3 (some .boolean) 0 0 0 0 V A Wd st [.int a0, .int a1, .int a2] (Qwi A Wd res st) := by
  refine cn_of RX8 (by decide) rfl (fun p e s m below meth c ls X hr hlk hW hS hl => ?_) (Nat.le_of_ble_eq_true rfl)
  have hl : lv_has ls 3 [(0, .int a0), (1, .int a1), (2, .int a2)] := hl
  unfold f_X8_within at hf
  refine lv_iload_n X.hx X.hb dX8_within_0 rfl (lv_at hl 0 rfl) ?_
  refine lv_iload_n X.hx X.hb dX8_within_1 rfl (lv_at hl 1 rfl) ?_
  refine lv_icmp_lt (tgt := 14) X.hx X.hb dX8_within_2 (by decide) (fun c2 => ?_) (fun c2 => ?_)
  · replace hf := ite_t c2 hf
    exact f_X8_within_J14_w X hr hlk  _ _ _  hf hW hS (lv_sub hl [] rfl)
  · replace hf := ite_f c2 hf
    refine lv_iload_n X.hx X.hb dX8_within_5 rfl (lv_at hl 0 rfl) ?_
    refine lv_iload_n X.hx X.hb dX8_within_6 rfl (lv_at hl 2 rfl) ?_
    refine lv_icmp_gt (tgt := 14) X.hx X.hb dX8_within_7 (by decide) (fun c7 => ?_) (fun c7 => ?_)
    · replace hf := ite_t c7 hf
      exact f_X8_within_J14_w X hr hlk  _ _ _  hf hW hS (lv_sub hl [] rfl)
    · replace hf := ite_f c7 hf
      refine lv_iconst (v := 1) X.hx X.hb dX8_within_10 (by decide) ?_
      refine lv_goto (tgt := 15) X.hx X.hb dX8_within_11 (by decide) ?_
      exact rt_z X hr hlk hW hS (Or.inr rfl) (Option.some.inj hf) (Nat.le_refl _) (Nat.le_refl _) dX8_within_15
-- WordSquaresModel.clearBoard
noncomputable def f_X8_clearBoard_L2 : Nat → St → Int32 → Option St
  | 0, _, _ => none
  | fu + 1, st, x1 => if 4 ≤ x1 then some st else if inb x1 4 = true then lt (sA st 3 x1.toNatClampNeg (-1)) fun s13 => lt (x1 + 1) fun w14 => (f_X8_clearBoard_L2 fu) s13 w14 else none
set_option maxRecDepth 100000 in
theorem f_X8_clearBoard_L2_w {res : St} (X : Cx V A cX8_clearBoard 2 RX8 p m c s args) (hr : meth.sig.returnType = none) (hlk : meth.locks = false)  : ∀ (n9 : Nat) (st : St) (x1 : Int32) (H : Heap) (locs : List Loc) (ls : Array Slot), f_X8_clearBoard_L2 n9 st x1 = some res → (WdM V ad A) st H → va_S A s.heap H locs → lv_has ls 2 [(0, .ref (ad 0)), (1, .int x1)] → W p l e (rmF 0 0 0 0) s m args below meth c H locs 0 0 (MQ below (Qwv A (WdM V ad A) res) args s 0 0 A) (F0 m 2 ls []) := by
  intro n9
  induction n9 with
  | zero =>
    intro st x1 H locs ls hf
    exact absurd hf (by unfold f_X8_clearBoard_L2; exact fun h => by cases h)
  | succ n9 hr2 =>
    intro st x1 H locs ls hf hW hS hl
    
    unfold f_X8_clearBoard_L2 at hf
    refine lv_iload_n X.hx X.hb dX8_clearBoard_2 rfl (lv_at hl 1 rfl) ?_
    refine lv_iconst (v := 4) X.hx X.hb dX8_clearBoard_3 (by decide) ?_
    refine lv_icmp_ge (tgt := 20) X.hx X.hb dX8_clearBoard_4 (by decide) (fun c4 => ?_) (fun c4 => ?_)
    · replace hf := ite_t c4 hf
      exact rt_v X hr hlk (by rw [← Option.some.inj hf]; exact hW) hS (Nat.le_refl _) (Nat.le_refl _) dX8_clearBoard_20
    · replace hf := ite_f c4 hf
      refine lv_aload_n X.hx X.hb dX8_clearBoard_7 rfl (lv_at hl 0 rfl) ?_
      refine gX8_laid X hW dX8_clearBoard_8 ?_
      refine lv_iload_n X.hx X.hb dX8_clearBoard_11 rfl (lv_at hl 1 rfl) ?_
      refine lv_iconst (v := (-1)) X.hx X.hb dX8_clearBoard_12 (by decide) ?_
      obtain ⟨h13, hf⟩ := ite_n hf
      obtain ⟨s13, e13, hf⟩ := lt_e hf
      refine aM_st X hW hS isM_3 rfl h13 dX8_clearBoard_13 (fun H locs hW hS => ?_)
      rw [← e13] at hW
      obtain ⟨w14, e14, hf⟩ := lt_e hf
      refine lv_iinc (v := w14) (lv' := [(1, .int w14), (0, .ref (ad 0))]) X.hx X.hb dX8_clearBoard_14 hl (k := 1) rfl (by rw [e14]; rfl) (by decide) rfl (fun ls hl => ?_)
      refine lv_goto (tgt := 2) X.hx X.hb dX8_clearBoard_17 (by decide) ?_
      exact hr2 _ _ _ _ _  hf hW hS (lv_sub hl [1, 0] rfl)
noncomputable def f_X8_clearBoard (st : St) : Option St := f_X8_clearBoard_L2 FU st 0
set_option maxRecDepth 100000 in
theorem w_X8_clearBoard (l : Launch) (V : Ev) (A : Nat → Prop) (ad : Nat → Nat) {st : St} {res : St} (hf : f_X8_clearBoard st = some res) : Cn l yX8_clearBoard cX8_clearBoard 2 none 0 0 0 0 V A (WdM V ad A) st [.ref (ad 0)] (Qwv A (WdM V ad A) res) := by
  refine cn_of RX8 (by decide) rfl (fun p e s m below meth c ls X hr hlk hW hS hl => ?_) (Nat.le_of_ble_eq_true rfl)
  have hl : lv_has ls 2 [(0, .ref (ad 0))] := hl
  unfold f_X8_clearBoard at hf
  refine lv_iconst (v := 0) X.hx X.hb dX8_clearBoard_0 (by decide) ?_
  refine lv_istore_n (lv' := [(1, .int 0), (0, .ref (ad 0))]) X.hx X.hb dX8_clearBoard_1 rfl hl (by decide) rfl (fun ls hl => ?_)
  exact f_X8_clearBoard_L2_w X hr hlk FU _ _ _ _ _  hf hW hS (lv_sub hl [1, 0] rfl)
-- WordSquaresModel.letter
noncomputable def f_X8_letter (st : St) (a1 : Int32) : Option (Int32 × St) := (f_X8_within a1 32 126).bind fun b5 => if b5 = 0 then some ((-102), st) else if (st.1 4) = 60 then some ((-104), st) else if inb (st.1 4) 60 = true then lt (sA st 4 (st.1 4).toNatClampNeg a1) fun s35 => lt (sI s35 4 ((s35.1 4) + 1)) fun s43 => some (s43.1 4, s43) else none
set_option maxRecDepth 100000 in
theorem w_X8_letter (l : Launch) (V : Ev) (A : Nat → Prop) (ad : Nat → Nat) {st : St} {a1 : Int32} {res : (Int32 × St)} (hf : f_X8_letter st a1 = some res) : Cn l yX8_letter cX8_letter 2 (some .int) 1 22 0 0 V A (WdM V ad A) st [.ref (ad 0), .int a1] (Qwi A (WdM V ad A) res.1 res.2) := by
  refine cn_of RX8 (by decide) rfl (fun p e s m below meth c ls X hr hlk hW hS hl => ?_) (Nat.le_of_ble_eq_true rfl)
  have hl : lv_has ls 2 [(0, .ref (ad 0)), (1, .int a1)] := hl
  unfold f_X8_letter at hf
  refine lv_iload_n X.hx X.hb dX8_letter_0 rfl (lv_at hl 1 rfl) ?_
  refine lv_bipush (v := 32) X.hx X.hb dX8_letter_1 (by decide) ?_
  refine lv_bipush (v := 126) X.hx X.hb dX8_letter_3 (by decide) ?_
  obtain ⟨b5, h5, hf⟩ := bnd hf
  refine cl_i (run_S (As := [.int a1, .int 32, .int 126]) (rest := []) X (w_X8_within l V A (WdM V ad A) st h5) mw_X8_within ln_X8_65 hW hS rfl hl.1 rfl (Nat.le_of_ble_eq_true rfl) ⟨Nat.le_of_ble_eq_true rfl, Nat.le_of_ble_eq_true rfl⟩ ⟨Nat.le_refl _, Nat.le_refl _⟩ dX8_letter_5) hS (fun H locs hW hS => ?_)
  refine lv_if_ne (tgt := 14) X.hx X.hb dX8_letter_8 (by decide) (fun c8 => ?_) (fun c8 => ?_)
  · replace hf := ite_f c8 hf
    refine lv_aload_n X.hx X.hb dX8_letter_14 rfl (lv_at hl 0 rfl) ?_
    refine gX8_pageLength X hW dX8_letter_15 ?_
    refine lv_bipush (v := 60) X.hx X.hb dX8_letter_18 (by decide) ?_
    refine lv_icmp_ne (tgt := 26) X.hx X.hb dX8_letter_20 (by decide) (fun c20 => ?_) (fun c20 => ?_)
    · replace hf := ite_f c20 hf
      refine lv_aload_n X.hx X.hb dX8_letter_26 rfl (lv_at hl 0 rfl) ?_
      refine gX8_page X hW dX8_letter_27 ?_
      refine lv_aload_n X.hx X.hb dX8_letter_30 rfl (lv_at hl 0 rfl) ?_
      refine gX8_pageLength X hW dX8_letter_31 ?_
      refine lv_iload_n X.hx X.hb dX8_letter_34 rfl (lv_at hl 1 rfl) ?_
      obtain ⟨h35, hf⟩ := ite_n hf
      obtain ⟨s35, e35, hf⟩ := lt_e hf
      refine aM_st X hW hS isM_4 rfl h35 dX8_letter_35 (fun H locs hW hS => ?_)
      rw [← e35] at hW
      refine lv_aload_n X.hx X.hb dX8_letter_36 rfl (lv_at hl 0 rfl) ?_
      refine lv_dup X.hx X.hb dX8_letter_37 rfl ?_
      refine gX8_pageLength X hW dX8_letter_38 ?_
      refine lv_iconst (v := 1) X.hx X.hb dX8_letter_41 (by decide) ?_
      refine lv_iadd X.hx X.hb dX8_letter_42 ?_
      obtain ⟨s43, e43, hf⟩ := lt_e hf
      refine pX8_pageLength X hW hS dX8_letter_43 (fun H locs hW hS => ?_)
      rw [← e43] at hW
      refine lv_aload_n X.hx X.hb dX8_letter_46 rfl (lv_at hl 0 rfl) ?_
      refine gX8_pageLength X hW dX8_letter_47 ?_
      exact rt_i X hr hlk (by rw [← Option.some.inj hf]; exact hW) hS (by rw [← Option.some.inj hf]) (Nat.le_refl _) (Nat.le_refl _) dX8_letter_50
    · replace hf := ite_t c20 hf
      refine lv_bipush (v := (-104)) X.hx X.hb dX8_letter_23 (by decide) ?_
      exact rt_i X hr hlk (by rw [← Option.some.inj hf]; exact hW) hS (by rw [← Option.some.inj hf]) (Nat.le_refl _) (Nat.le_refl _) dX8_letter_25
  · replace hf := ite_t c8 hf
    refine lv_bipush (v := (-102)) X.hx X.hb dX8_letter_11 (by decide) ?_
    exact rt_i X hr hlk (by rw [← Option.some.inj hf]; exact hW) hS (by rw [← Option.some.inj hf]) (Nat.le_refl _) (Nat.le_refl _) dX8_letter_13
-- WordSquaresModel.blank
noncomputable def f_X8_blank (st : St) : Option (Int32 × St) := lt (st.1 4) fun w4 => lt (sI st 4 0) fun s7 => some (w4, s7)
set_option maxRecDepth 100000 in
theorem w_X8_blank (l : Launch) (V : Ev) (A : Nat → Prop) (ad : Nat → Nat) {st : St} {res : (Int32 × St)} (hf : f_X8_blank st = some res) : Cn l yX8_blank cX8_blank 2 (some .int) 0 0 0 0 V A (WdM V ad A) st [.ref (ad 0)] (Qwi A (WdM V ad A) res.1 res.2) := by
  refine cn_of RX8 (by decide) rfl (fun p e s m below meth c ls X hr hlk hW hS hl => ?_) (Nat.le_of_ble_eq_true rfl)
  have hl : lv_has ls 2 [(0, .ref (ad 0))] := hl
  unfold f_X8_blank at hf
  refine lv_aload_n X.hx X.hb dX8_blank_0 rfl (lv_at hl 0 rfl) ?_
  refine gX8_pageLength X hW dX8_blank_1 ?_
  obtain ⟨w4, e4, hf⟩ := lt_e hf
  refine lv_nm e4 ?_
  refine lv_istore_n (lv' := [(1, .int w4), (0, .ref (ad 0))]) X.hx X.hb dX8_blank_4 rfl hl (by decide) rfl (fun ls hl => ?_)
  refine lv_aload_n X.hx X.hb dX8_blank_5 rfl (lv_at hl 1 rfl) ?_
  refine lv_iconst (v := 0) X.hx X.hb dX8_blank_6 (by decide) ?_
  obtain ⟨s7, e7, hf⟩ := lt_e hf
  refine pX8_pageLength X hW hS dX8_blank_7 (fun H locs hW hS => ?_)
  rw [← e7] at hW
  refine lv_iload_n X.hx X.hb dX8_blank_10 rfl (lv_at hl 0 rfl) ?_
  exact rt_i X hr hlk (by rw [← Option.some.inj hf]; exact hW) hS (by rw [← Option.some.inj hf]) (Nat.le_refl _) (Nat.le_refl _) dX8_blank_11
-- WordSquaresModel.isTwice
noncomputable def f_X8_isTwice_J63 (st : St) (r4 : Int32 → Int32 → Option Int32) (r17 : Int32 → Int32 → Int32 → Int32 → Option Int32) (x1 : Int32) (x2 : Int32) (x4 : Int32) (t0 : Int32) : Option Int32 := lt (x4 + 1) fun w64 => r17 x1 x2 t0 w64
set_option maxRecDepth 100000 in
theorem f_X8_isTwice_J63_w {st : St} {r4 : Int32 → Int32 → Option Int32} {r17 : Int32 → Int32 → Int32 → Int32 → Option Int32} {res : Int32} (X : Cx V A cX8_isTwice 5 RX8 p m c s args) (hr : meth.sig.returnType = (some .boolean)) (hlk : meth.locks = false) (hr4 : ∀ (x1 : Int32) (x2 : Int32) (H : Heap) (locs : List Loc) (ls : Array Slot), r4 x1 x2 = some res → (WdM V ad A) st H → va_S A s.heap H locs → lv_has ls 5 [(0, .ref (ad 0)), (1, .int x1), (2, .int x2)] → W p l e (rmF 0 0 0 0) s m args below meth c H locs 0 0 (MQ below (Qwi A (WdM V ad A) res st) args s 0 0 A) (F0 m 4 ls [])) (hr17 : ∀ (x1 : Int32) (x2 : Int32) (x3 : Int32) (x4 : Int32) (H : Heap) (locs : List Loc) (ls : Array Slot), r17 x1 x2 x3 x4 = some res → (WdM V ad A) st H → va_S A s.heap H locs → lv_has ls 5 [(0, .ref (ad 0)), (1, .int x1), (2, .int x2), (3, .int x3), (4, .int x4)] → W p l e (rmF 0 0 0 0) s m args below meth c H locs 0 0 (MQ below (Qwi A (WdM V ad A) res st) args s 0 0 A) (F0 m 17 ls [])) (x1 : Int32) (x2 : Int32) (x4 : Int32) (t0 : Int32) (H : Heap) (locs : List Loc) (ls : Array Slot)  (hf : f_X8_isTwice_J63 st r4 r17 x1 x2 x4 t0 = some res) (hW : (WdM V ad A) st H) (hS : va_S A s.heap H locs) (hl : lv_has ls 5 [(0, .ref (ad 0)), (1, .int x1), (2, .int x2), (4, .int x4)]) : W p l e (rmF 0 0 0 0) s m args below meth c H locs 0 0 (MQ below (Qwi A (WdM V ad A) res st) args s 0 0 A) (F0 m 63 ls [.int t0]) := by
  
  unfold f_X8_isTwice_J63 at hf
  refine lv_istore_n (lv' := [(3, .int t0), (0, .ref (ad 0)), (1, .int x1), (2, .int x2), (4, .int x4)]) X.hx X.hb dX8_isTwice_63 rfl hl (by decide) rfl (fun ls hl => ?_)
  obtain ⟨w64, e64, hf⟩ := lt_e hf
  refine lv_iinc (v := w64) (lv' := [(4, .int w64), (3, .int t0), (0, .ref (ad 0)), (1, .int x1), (2, .int x2)]) X.hx X.hb dX8_isTwice_64 hl (k := 4) rfl (by rw [e64]; rfl) (by decide) rfl (fun ls hl => ?_)
  refine lv_goto (tgt := 17) X.hx X.hb dX8_isTwice_67 (by decide) ?_
  exact hr17 _ _ _ _ _ _ _  hf hW hS (lv_sub hl [2, 3, 4, 1, 0] rfl)
noncomputable def f_X8_isTwice_J62 (st : St) (r4 : Int32 → Int32 → Option Int32) (r17 : Int32 → Int32 → Int32 → Int32 → Option Int32) (x1 : Int32) (x2 : Int32) (x4 : Int32) : Option Int32 := f_X8_isTwice_J63 st r4 r17 x1 x2 x4 0
set_option maxRecDepth 100000 in
theorem f_X8_isTwice_J62_w {st : St} {r4 : Int32 → Int32 → Option Int32} {r17 : Int32 → Int32 → Int32 → Int32 → Option Int32} {res : Int32} (X : Cx V A cX8_isTwice 5 RX8 p m c s args) (hr : meth.sig.returnType = (some .boolean)) (hlk : meth.locks = false) (hr4 : ∀ (x1 : Int32) (x2 : Int32) (H : Heap) (locs : List Loc) (ls : Array Slot), r4 x1 x2 = some res → (WdM V ad A) st H → va_S A s.heap H locs → lv_has ls 5 [(0, .ref (ad 0)), (1, .int x1), (2, .int x2)] → W p l e (rmF 0 0 0 0) s m args below meth c H locs 0 0 (MQ below (Qwi A (WdM V ad A) res st) args s 0 0 A) (F0 m 4 ls [])) (hr17 : ∀ (x1 : Int32) (x2 : Int32) (x3 : Int32) (x4 : Int32) (H : Heap) (locs : List Loc) (ls : Array Slot), r17 x1 x2 x3 x4 = some res → (WdM V ad A) st H → va_S A s.heap H locs → lv_has ls 5 [(0, .ref (ad 0)), (1, .int x1), (2, .int x2), (3, .int x3), (4, .int x4)] → W p l e (rmF 0 0 0 0) s m args below meth c H locs 0 0 (MQ below (Qwi A (WdM V ad A) res st) args s 0 0 A) (F0 m 17 ls [])) (x1 : Int32) (x2 : Int32) (x4 : Int32) (H : Heap) (locs : List Loc) (ls : Array Slot)  (hf : f_X8_isTwice_J62 st r4 r17 x1 x2 x4 = some res) (hW : (WdM V ad A) st H) (hS : va_S A s.heap H locs) (hl : lv_has ls 5 [(0, .ref (ad 0)), (1, .int x1), (2, .int x2), (4, .int x4)]) : W p l e (rmF 0 0 0 0) s m args below meth c H locs 0 0 (MQ below (Qwi A (WdM V ad A) res st) args s 0 0 A) (F0 m 62 ls []) := by
  
  unfold f_X8_isTwice_J62 at hf
  refine lv_iconst (v := 0) X.hx X.hb dX8_isTwice_62 (by decide) ?_
  exact f_X8_isTwice_J63_w X hr hlk hr4 hr17 _ _ _ _ _ _ _  hf hW hS (lv_sub hl [0, 1, 2, 3] rfl)
noncomputable def f_X8_isTwice_J83 (st : St) (r4 : Int32 → Int32 → Option Int32) (x2 : Int32) (t0 : Int32) : Option Int32 := lt (x2 + 1) fun w84 => r4 t0 w84
set_option maxRecDepth 100000 in
theorem f_X8_isTwice_J83_w {st : St} {r4 : Int32 → Int32 → Option Int32} {res : Int32} (X : Cx V A cX8_isTwice 5 RX8 p m c s args) (hr : meth.sig.returnType = (some .boolean)) (hlk : meth.locks = false) (hr4 : ∀ (x1 : Int32) (x2 : Int32) (H : Heap) (locs : List Loc) (ls : Array Slot), r4 x1 x2 = some res → (WdM V ad A) st H → va_S A s.heap H locs → lv_has ls 5 [(0, .ref (ad 0)), (1, .int x1), (2, .int x2)] → W p l e (rmF 0 0 0 0) s m args below meth c H locs 0 0 (MQ below (Qwi A (WdM V ad A) res st) args s 0 0 A) (F0 m 4 ls [])) (x2 : Int32) (t0 : Int32) (H : Heap) (locs : List Loc) (ls : Array Slot)  (hf : f_X8_isTwice_J83 st r4 x2 t0 = some res) (hW : (WdM V ad A) st H) (hS : va_S A s.heap H locs) (hl : lv_has ls 5 [(0, .ref (ad 0)), (2, .int x2)]) : W p l e (rmF 0 0 0 0) s m args below meth c H locs 0 0 (MQ below (Qwi A (WdM V ad A) res st) args s 0 0 A) (F0 m 83 ls [.int t0]) := by
  
  unfold f_X8_isTwice_J83 at hf
  refine lv_istore_n (lv' := [(1, .int t0), (0, .ref (ad 0)), (2, .int x2)]) X.hx X.hb dX8_isTwice_83 rfl hl (by decide) rfl (fun ls hl => ?_)
  obtain ⟨w84, e84, hf⟩ := lt_e hf
  refine lv_iinc (v := w84) (lv' := [(2, .int w84), (1, .int t0), (0, .ref (ad 0))]) X.hx X.hb dX8_isTwice_84 hl (k := 2) rfl (by rw [e84]; rfl) (by decide) rfl (fun ls hl => ?_)
  refine lv_goto (tgt := 4) X.hx X.hb dX8_isTwice_87 (by decide) ?_
  exact hr4 _ _ _ _ _  hf hW hS (lv_sub hl [2, 1, 0] rfl)
noncomputable def f_X8_isTwice_J78 (st : St) (r4 : Int32 → Int32 → Option Int32) (x2 : Int32) : Option Int32 := f_X8_isTwice_J83 st r4 x2 1
set_option maxRecDepth 100000 in
theorem f_X8_isTwice_J78_w {st : St} {r4 : Int32 → Int32 → Option Int32} {res : Int32} (X : Cx V A cX8_isTwice 5 RX8 p m c s args) (hr : meth.sig.returnType = (some .boolean)) (hlk : meth.locks = false) (hr4 : ∀ (x1 : Int32) (x2 : Int32) (H : Heap) (locs : List Loc) (ls : Array Slot), r4 x1 x2 = some res → (WdM V ad A) st H → va_S A s.heap H locs → lv_has ls 5 [(0, .ref (ad 0)), (1, .int x1), (2, .int x2)] → W p l e (rmF 0 0 0 0) s m args below meth c H locs 0 0 (MQ below (Qwi A (WdM V ad A) res st) args s 0 0 A) (F0 m 4 ls [])) (x2 : Int32) (H : Heap) (locs : List Loc) (ls : Array Slot)  (hf : f_X8_isTwice_J78 st r4 x2 = some res) (hW : (WdM V ad A) st H) (hS : va_S A s.heap H locs) (hl : lv_has ls 5 [(0, .ref (ad 0)), (2, .int x2)]) : W p l e (rmF 0 0 0 0) s m args below meth c H locs 0 0 (MQ below (Qwi A (WdM V ad A) res st) args s 0 0 A) (F0 m 78 ls []) := by
  
  unfold f_X8_isTwice_J78 at hf
  refine lv_iconst (v := 1) X.hx X.hb dX8_isTwice_78 (by decide) ?_
  refine lv_goto (tgt := 83) X.hx X.hb dX8_isTwice_79 (by decide) ?_
  exact f_X8_isTwice_J83_w X hr hlk hr4 _ _ _ _ _  hf hW hS (lv_sub hl [0, 1] rfl)
noncomputable def f_X8_isTwice_L17 (st : St) (r4 : Int32 → Int32 → Option Int32) : Nat → Int32 → Int32 → Int32 → Int32 → Option Int32
  | 0, _, _, _, _ => none
  | fu + 1, x1, x2, x3, x4 => if (st.1 7) ≤ x4 then if x1 = 0 then if x3 = 0 then f_X8_isTwice_J83 st r4 x2 0 else f_X8_isTwice_J78 st r4 x2 else f_X8_isTwice_J78 st r4 x2 else if x3 = 0 then f_X8_isTwice_J62 st r4 ((f_X8_isTwice_L17 st r4 fu)) x1 x2 x4 else if inb ((4 * x2) + x4) 48 = true then if inb ((4 * (st.1 5)) + x4) 48 = true then if (st.2.1 5 ((4 * x2) + x4).toNatClampNeg) = (st.2.1 5 ((4 * (st.1 5)) + x4).toNatClampNeg) then f_X8_isTwice_J63 st r4 ((f_X8_isTwice_L17 st r4 fu)) x1 x2 x4 1 else f_X8_isTwice_J62 st r4 ((f_X8_isTwice_L17 st r4 fu)) x1 x2 x4 else none else none
set_option maxRecDepth 100000 in
theorem f_X8_isTwice_L17_w {st : St} {r4 : Int32 → Int32 → Option Int32} {res : Int32} (X : Cx V A cX8_isTwice 5 RX8 p m c s args) (hr : meth.sig.returnType = (some .boolean)) (hlk : meth.locks = false) (hr4 : ∀ (x1 : Int32) (x2 : Int32) (H : Heap) (locs : List Loc) (ls : Array Slot), r4 x1 x2 = some res → (WdM V ad A) st H → va_S A s.heap H locs → lv_has ls 5 [(0, .ref (ad 0)), (1, .int x1), (2, .int x2)] → W p l e (rmF 0 0 0 0) s m args below meth c H locs 0 0 (MQ below (Qwi A (WdM V ad A) res st) args s 0 0 A) (F0 m 4 ls [])) : ∀ (n9 : Nat) (x1 : Int32) (x2 : Int32) (x3 : Int32) (x4 : Int32) (H : Heap) (locs : List Loc) (ls : Array Slot), f_X8_isTwice_L17 st r4 n9 x1 x2 x3 x4 = some res → (WdM V ad A) st H → va_S A s.heap H locs → lv_has ls 5 [(0, .ref (ad 0)), (1, .int x1), (2, .int x2), (3, .int x3), (4, .int x4)] → W p l e (rmF 0 0 0 0) s m args below meth c H locs 0 0 (MQ below (Qwi A (WdM V ad A) res st) args s 0 0 A) (F0 m 17 ls []) := by
  intro n9
  induction n9 with
  | zero =>
    intro x1 x2 x3 x4 H locs ls hf
    exact absurd hf (by unfold f_X8_isTwice_L17; exact fun h => by cases h)
  | succ n9 hr17 =>
    intro x1 x2 x3 x4 H locs ls hf hW hS hl
    
    unfold f_X8_isTwice_L17 at hf
    refine lv_iload X.hx X.hb dX8_isTwice_17 (lv_at hl 4 rfl) ?_
    refine lv_aload_n X.hx X.hb dX8_isTwice_19 rfl (lv_at hl 0 rfl) ?_
    refine gX8_newLength X hW dX8_isTwice_20 ?_
    refine lv_icmp_ge (tgt := 70) X.hx X.hb dX8_isTwice_23 (by decide) (fun c23 => ?_) (fun c23 => ?_)
    · replace hf := ite_t c23 hf
      refine lv_iload_n X.hx X.hb dX8_isTwice_70 rfl (lv_at hl 1 rfl) ?_
      refine lv_if_ne (tgt := 78) X.hx X.hb dX8_isTwice_71 (by decide) (fun c71 => ?_) (fun c71 => ?_)
      · replace hf := ite_f c71 hf
        exact f_X8_isTwice_J78_w X hr hlk hr4 _ _ _ _  hf hW hS (lv_sub hl [0, 2] rfl)
      · replace hf := ite_t c71 hf
        refine lv_iload_n X.hx X.hb dX8_isTwice_74 rfl (lv_at hl 3 rfl) ?_
        refine lv_if_eq (tgt := 82) X.hx X.hb dX8_isTwice_75 (by decide) (fun c75 => ?_) (fun c75 => ?_)
        · replace hf := ite_t c75 hf
          refine lv_iconst (v := 0) X.hx X.hb dX8_isTwice_82 (by decide) ?_
          exact f_X8_isTwice_J83_w X hr hlk hr4 _ _ _ _ _  hf hW hS (lv_sub hl [0, 2] rfl)
        · replace hf := ite_f c75 hf
          exact f_X8_isTwice_J78_w X hr hlk hr4 _ _ _ _  hf hW hS (lv_sub hl [0, 2] rfl)
    · replace hf := ite_f c23 hf
      refine lv_iload_n X.hx X.hb dX8_isTwice_26 rfl (lv_at hl 3 rfl) ?_
      refine lv_if_eq (tgt := 62) X.hx X.hb dX8_isTwice_27 (by decide) (fun c27 => ?_) (fun c27 => ?_)
      · replace hf := ite_t c27 hf
        exact f_X8_isTwice_J62_w X hr hlk hr4 hr17 _ _ _ _ _ _  hf hW hS (lv_sub hl [0, 1, 2, 4] rfl)
      · replace hf := ite_f c27 hf
        refine lv_aload_n X.hx X.hb dX8_isTwice_30 rfl (lv_at hl 0 rfl) ?_
        refine gX8_newLetters X hW dX8_isTwice_31 ?_
        refine lv_iconst (v := 4) X.hx X.hb dX8_isTwice_34 (by decide) ?_
        refine lv_iload_n X.hx X.hb dX8_isTwice_35 rfl (lv_at hl 2 rfl) ?_
        refine lv_imul X.hx X.hb dX8_isTwice_36 ?_
        refine lv_iload X.hx X.hb dX8_isTwice_37 (lv_at hl 4 rfl) ?_
        refine lv_iadd X.hx X.hb dX8_isTwice_39 ?_
        obtain ⟨h40, hf⟩ := ite_n hf
        refine aM_ld X hW isM_5 rfl h40 dX8_isTwice_40 ?_
        refine lv_aload_n X.hx X.hb dX8_isTwice_41 rfl (lv_at hl 0 rfl) ?_
        refine gX8_newLetters X hW dX8_isTwice_42 ?_
        refine lv_iconst (v := 4) X.hx X.hb dX8_isTwice_45 (by decide) ?_
        refine lv_aload_n X.hx X.hb dX8_isTwice_46 rfl (lv_at hl 0 rfl) ?_
        refine gX8_newWords X hW dX8_isTwice_47 ?_
        refine lv_imul X.hx X.hb dX8_isTwice_50 ?_
        refine lv_iload X.hx X.hb dX8_isTwice_51 (lv_at hl 4 rfl) ?_
        refine lv_iadd X.hx X.hb dX8_isTwice_53 ?_
        obtain ⟨h54, hf⟩ := ite_n hf
        refine aM_ld X hW isM_5 rfl h54 dX8_isTwice_54 ?_
        refine lv_icmp_ne (tgt := 62) X.hx X.hb dX8_isTwice_55 (by decide) (fun c55 => ?_) (fun c55 => ?_)
        · replace hf := ite_f c55 hf
          exact f_X8_isTwice_J62_w X hr hlk hr4 hr17 _ _ _ _ _ _  hf hW hS (lv_sub hl [0, 1, 2, 4] rfl)
        · replace hf := ite_t c55 hf
          refine lv_iconst (v := 1) X.hx X.hb dX8_isTwice_58 (by decide) ?_
          refine lv_goto (tgt := 63) X.hx X.hb dX8_isTwice_59 (by decide) ?_
          exact f_X8_isTwice_J63_w X hr hlk hr4 hr17 _ _ _ _ _ _ _  hf hW hS (lv_sub hl [0, 1, 2, 4] rfl)
noncomputable def f_X8_isTwice_L4 (st : St) : Nat → Int32 → Int32 → Option Int32
  | 0, _, _ => none
  | fu + 1, x1, x2 => if (st.1 5) ≤ x2 then if x1 = 0 ∨ x1 = 1 then some x1 else none else f_X8_isTwice_L17 st ((f_X8_isTwice_L4 st fu)) FU x1 x2 1 0
set_option maxRecDepth 100000 in
theorem f_X8_isTwice_L4_w {st : St} {res : Int32} (X : Cx V A cX8_isTwice 5 RX8 p m c s args) (hr : meth.sig.returnType = (some .boolean)) (hlk : meth.locks = false)  : ∀ (n9 : Nat) (x1 : Int32) (x2 : Int32) (H : Heap) (locs : List Loc) (ls : Array Slot), f_X8_isTwice_L4 st n9 x1 x2 = some res → (WdM V ad A) st H → va_S A s.heap H locs → lv_has ls 5 [(0, .ref (ad 0)), (1, .int x1), (2, .int x2)] → W p l e (rmF 0 0 0 0) s m args below meth c H locs 0 0 (MQ below (Qwi A (WdM V ad A) res st) args s 0 0 A) (F0 m 4 ls []) := by
  intro n9
  induction n9 with
  | zero =>
    intro x1 x2 H locs ls hf
    exact absurd hf (by unfold f_X8_isTwice_L4; exact fun h => by cases h)
  | succ n9 hr4 =>
    intro x1 x2 H locs ls hf hW hS hl
    
    unfold f_X8_isTwice_L4 at hf
    refine lv_iload_n X.hx X.hb dX8_isTwice_4 rfl (lv_at hl 2 rfl) ?_
    refine lv_aload_n X.hx X.hb dX8_isTwice_5 rfl (lv_at hl 0 rfl) ?_
    refine gX8_newWords X hW dX8_isTwice_6 ?_
    refine lv_icmp_ge (tgt := 90) X.hx X.hb dX8_isTwice_9 (by decide) (fun c9 => ?_) (fun c9 => ?_)
    · replace hf := ite_t c9 hf
      refine lv_iload_n X.hx X.hb dX8_isTwice_90 rfl (lv_at hl 1 rfl) ?_
      obtain ⟨h91, hf⟩ := ite_n hf
      exact rt_z X hr hlk hW hS h91 (Option.some.inj hf) (Nat.le_refl _) (Nat.le_refl _) dX8_isTwice_91
    · replace hf := ite_f c9 hf
      refine lv_iconst (v := 1) X.hx X.hb dX8_isTwice_12 (by decide) ?_
      refine lv_istore_n (lv' := [(3, .int 1), (0, .ref (ad 0)), (1, .int x1), (2, .int x2)]) X.hx X.hb dX8_isTwice_13 rfl hl (by decide) rfl (fun ls hl => ?_)
      refine lv_iconst (v := 0) X.hx X.hb dX8_isTwice_14 (by decide) ?_
      refine lv_istore (lv' := [(4, .int 0), (3, .int 1), (0, .ref (ad 0)), (1, .int x1), (2, .int x2)]) X.hx X.hb dX8_isTwice_15 hl (by decide) rfl (fun ls hl => ?_)
      exact f_X8_isTwice_L17_w X hr hlk hr4 FU _ _ _ _ _ _ _  hf hW hS (lv_sub hl [2, 3, 4, 1, 0] rfl)
noncomputable def f_X8_isTwice (st : St) : Option Int32 := f_X8_isTwice_L4 st FU 0 0
set_option maxRecDepth 100000 in
theorem w_X8_isTwice (l : Launch) (V : Ev) (A : Nat → Prop) (ad : Nat → Nat) {st : St} {res : Int32} (hf : f_X8_isTwice st = some res) : Cn l yX8_isTwice cX8_isTwice 5 (some .boolean) 0 0 0 0 V A (WdM V ad A) st [.ref (ad 0)] (Qwi A (WdM V ad A) res st) := by
  refine cn_of RX8 (by decide) rfl (fun p e s m below meth c ls X hr hlk hW hS hl => ?_) (Nat.le_of_ble_eq_true rfl)
  have hl : lv_has ls 5 [(0, .ref (ad 0))] := hl
  unfold f_X8_isTwice at hf
  refine lv_iconst (v := 0) X.hx X.hb dX8_isTwice_0 (by decide) ?_
  refine lv_istore_n (lv' := [(1, .int 0), (0, .ref (ad 0))]) X.hx X.hb dX8_isTwice_1 rfl hl (by decide) rfl (fun ls hl => ?_)
  refine lv_iconst (v := 0) X.hx X.hb dX8_isTwice_2 (by decide) ?_
  refine lv_istore_n (lv' := [(2, .int 0), (1, .int 0), (0, .ref (ad 0))]) X.hx X.hb dX8_isTwice_3 rfl hl (by decide) rfl (fun ls hl => ?_)
  exact f_X8_isTwice_L4_w X hr hlk FU _ _ _ _ _  hf hW hS (lv_sub hl [2, 1, 0] rfl)
-- WordSquaresModel.takesComma
noncomputable def f_X8_takesComma_J55 (st : St) : Option (Int32 × St) := some (0, st)
set_option maxRecDepth 100000 in
theorem f_X8_takesComma_J55_w {res : (Int32 × St)} (X : Cx V A cX8_takesComma 2 RX8 p m c s args) (hr : meth.sig.returnType = (some .boolean)) (hlk : meth.locks = false)  (st : St) (H : Heap) (locs : List Loc) (ls : Array Slot)  (hf : f_X8_takesComma_J55 st = some res) (hW : (WdM V ad A) st H) (hS : va_S A s.heap H locs) (hl : lv_has ls 2 []) : W p l e (rmF 0 0 0 0) s m args below meth c H locs 0 0 (MQ below (Qwi A (WdM V ad A) res.1 res.2) args s 0 0 A) (F0 m 55 ls []) := by
  
  unfold f_X8_takesComma_J55 at hf
  refine lv_iconst (v := 0) X.hx X.hb dX8_takesComma_55 (by decide) ?_
  exact rt_z X hr hlk (by rw [← Option.some.inj hf]; exact hW) hS (Or.inl rfl) (by rw [← Option.some.inj hf]) (Nat.le_refl _) (Nat.le_refl _) dX8_takesComma_56
noncomputable def f_X8_takesComma_J39 (st : St) (t0 : Int32) : Option (Int32 × St) := if t0 = 0 then f_X8_takesComma_J55 st else if ((st.1 5) + 1) = 12 then f_X8_takesComma_J55 st else lt (sI st 7 (st.1 6)) fun s62 => lt (sI s62 5 ((s62.1 5) + 1)) fun s72 => lt (sI s72 6 0) fun s77 => some (1, s77)
set_option maxRecDepth 100000 in
theorem f_X8_takesComma_J39_w {res : (Int32 × St)} (X : Cx V A cX8_takesComma 2 RX8 p m c s args) (hr : meth.sig.returnType = (some .boolean)) (hlk : meth.locks = false)  (st : St) (t0 : Int32) (H : Heap) (locs : List Loc) (ls : Array Slot)  (hf : f_X8_takesComma_J39 st t0 = some res) (hW : (WdM V ad A) st H) (hS : va_S A s.heap H locs) (hl : lv_has ls 2 [(0, .ref (ad 0))]) : W p l e (rmF 0 0 0 0) s m args below meth c H locs 0 0 (MQ below (Qwi A (WdM V ad A) res.1 res.2) args s 0 0 A) (F0 m 39 ls [.int t0]) := by
  
  unfold f_X8_takesComma_J39 at hf
  refine lv_istore_n (lv' := [(1, .int t0), (0, .ref (ad 0))]) X.hx X.hb dX8_takesComma_39 rfl hl (by decide) rfl (fun ls hl => ?_)
  refine lv_iload_n X.hx X.hb dX8_takesComma_40 rfl (lv_at hl 0 rfl) ?_
  refine lv_if_eq (tgt := 55) X.hx X.hb dX8_takesComma_41 (by decide) (fun c41 => ?_) (fun c41 => ?_)
  · replace hf := ite_t c41 hf
    exact f_X8_takesComma_J55_w X hr hlk _ _ _ _  hf hW hS (lv_sub hl [] rfl)
  · replace hf := ite_f c41 hf
    refine lv_aload_n X.hx X.hb dX8_takesComma_44 rfl (lv_at hl 1 rfl) ?_
    refine gX8_newWords X hW dX8_takesComma_45 ?_
    refine lv_iconst (v := 1) X.hx X.hb dX8_takesComma_48 (by decide) ?_
    refine lv_iadd X.hx X.hb dX8_takesComma_49 ?_
    refine lv_bipush (v := 12) X.hx X.hb dX8_takesComma_50 (by decide) ?_
    refine lv_icmp_ne (tgt := 57) X.hx X.hb dX8_takesComma_52 (by decide) (fun c52 => ?_) (fun c52 => ?_)
    · replace hf := ite_f c52 hf
      refine lv_aload_n X.hx X.hb dX8_takesComma_57 rfl (lv_at hl 1 rfl) ?_
      refine lv_aload_n X.hx X.hb dX8_takesComma_58 rfl (lv_at hl 1 rfl) ?_
      refine gX8_newAt X hW dX8_takesComma_59 ?_
      obtain ⟨s62, e62, hf⟩ := lt_e hf
      refine pX8_newLength X hW hS dX8_takesComma_62 (fun H locs hW hS => ?_)
      rw [← e62] at hW
      refine lv_aload_n X.hx X.hb dX8_takesComma_65 rfl (lv_at hl 1 rfl) ?_
      refine lv_dup X.hx X.hb dX8_takesComma_66 rfl ?_
      refine gX8_newWords X hW dX8_takesComma_67 ?_
      refine lv_iconst (v := 1) X.hx X.hb dX8_takesComma_70 (by decide) ?_
      refine lv_iadd X.hx X.hb dX8_takesComma_71 ?_
      obtain ⟨s72, e72, hf⟩ := lt_e hf
      refine pX8_newWords X hW hS dX8_takesComma_72 (fun H locs hW hS => ?_)
      rw [← e72] at hW
      refine lv_aload_n X.hx X.hb dX8_takesComma_75 rfl (lv_at hl 1 rfl) ?_
      refine lv_iconst (v := 0) X.hx X.hb dX8_takesComma_76 (by decide) ?_
      obtain ⟨s77, e77, hf⟩ := lt_e hf
      refine pX8_newAt X hW hS dX8_takesComma_77 (fun H locs hW hS => ?_)
      rw [← e77] at hW
      refine lv_iconst (v := 1) X.hx X.hb dX8_takesComma_80 (by decide) ?_
      exact rt_z X hr hlk (by rw [← Option.some.inj hf]; exact hW) hS (Or.inr rfl) (by rw [← Option.some.inj hf]) (Nat.le_refl _) (Nat.le_refl _) dX8_takesComma_81
    · replace hf := ite_t c52 hf
      exact f_X8_takesComma_J55_w X hr hlk _ _ _ _  hf hW hS (lv_sub hl [] rfl)
noncomputable def f_X8_takesComma (st : St) : Option (Int32 × St) := if (st.1 7) = 0 then if (st.1 6) < 2 then f_X8_takesComma_J39 st 0 else f_X8_takesComma_J39 st 1 else if (st.1 6) = (st.1 7) then f_X8_takesComma_J39 st 1 else f_X8_takesComma_J39 st 0
set_option maxRecDepth 100000 in
theorem w_X8_takesComma (l : Launch) (V : Ev) (A : Nat → Prop) (ad : Nat → Nat) {st : St} {res : (Int32 × St)} (hf : f_X8_takesComma st = some res) : Cn l yX8_takesComma cX8_takesComma 2 (some .boolean) 0 0 0 0 V A (WdM V ad A) st [.ref (ad 0)] (Qwi A (WdM V ad A) res.1 res.2) := by
  refine cn_of RX8 (by decide) rfl (fun p e s m below meth c ls X hr hlk hW hS hl => ?_) (Nat.le_of_ble_eq_true rfl)
  have hl : lv_has ls 2 [(0, .ref (ad 0))] := hl
  unfold f_X8_takesComma at hf
  refine lv_aload_n X.hx X.hb dX8_takesComma_0 rfl (lv_at hl 0 rfl) ?_
  refine gX8_newLength X hW dX8_takesComma_1 ?_
  refine lv_if_ne (tgt := 23) X.hx X.hb dX8_takesComma_4 (by decide) (fun c4 => ?_) (fun c4 => ?_)
  · replace hf := ite_f c4 hf
    refine lv_aload_n X.hx X.hb dX8_takesComma_23 rfl (lv_at hl 0 rfl) ?_
    refine gX8_newAt X hW dX8_takesComma_24 ?_
    refine lv_aload_n X.hx X.hb dX8_takesComma_27 rfl (lv_at hl 0 rfl) ?_
    refine gX8_newLength X hW dX8_takesComma_28 ?_
    refine lv_icmp_ne (tgt := 38) X.hx X.hb dX8_takesComma_31 (by decide) (fun c31 => ?_) (fun c31 => ?_)
    · replace hf := ite_f c31 hf
      refine lv_iconst (v := 0) X.hx X.hb dX8_takesComma_38 (by decide) ?_
      exact f_X8_takesComma_J39_w X hr hlk _ _ _ _ _  hf hW hS (lv_sub hl [0] rfl)
    · replace hf := ite_t c31 hf
      refine lv_iconst (v := 1) X.hx X.hb dX8_takesComma_34 (by decide) ?_
      refine lv_goto (tgt := 39) X.hx X.hb dX8_takesComma_35 (by decide) ?_
      exact f_X8_takesComma_J39_w X hr hlk _ _ _ _ _  hf hW hS (lv_sub hl [0] rfl)
  · replace hf := ite_t c4 hf
    refine lv_aload_n X.hx X.hb dX8_takesComma_7 rfl (lv_at hl 0 rfl) ?_
    refine gX8_newAt X hW dX8_takesComma_8 ?_
    refine lv_iconst (v := 2) X.hx X.hb dX8_takesComma_11 (by decide) ?_
    refine lv_icmp_lt (tgt := 19) X.hx X.hb dX8_takesComma_12 (by decide) (fun c12 => ?_) (fun c12 => ?_)
    · replace hf := ite_t c12 hf
      refine lv_iconst (v := 0) X.hx X.hb dX8_takesComma_19 (by decide) ?_
      refine lv_goto (tgt := 39) X.hx X.hb dX8_takesComma_20 (by decide) ?_
      exact f_X8_takesComma_J39_w X hr hlk _ _ _ _ _  hf hW hS (lv_sub hl [0] rfl)
    · replace hf := ite_f c12 hf
      refine lv_iconst (v := 1) X.hx X.hb dX8_takesComma_15 (by decide) ?_
      refine lv_goto (tgt := 39) X.hx X.hb dX8_takesComma_16 (by decide) ?_
      exact f_X8_takesComma_J39_w X hr hlk _ _ _ _ _  hf hW hS (lv_sub hl [0] rfl)
-- WordSquaresModel.takes
noncomputable def f_X8_takes_J44 (st : St) : Option (Int32 × St) := some (0, st)
set_option maxRecDepth 100000 in
theorem f_X8_takes_J44_w {res : (Int32 × St)} (X : Cx V A cX8_takes 2 RX8 p m c s args) (hr : meth.sig.returnType = (some .boolean)) (hlk : meth.locks = false)  (st : St) (H : Heap) (locs : List Loc) (ls : Array Slot)  (hf : f_X8_takes_J44 st = some res) (hW : (WdM V ad A) st H) (hS : va_S A s.heap H locs) (hl : lv_has ls 2 []) : W p l e (rmF 1 24 0 0) s m args below meth c H locs 0 0 (MQ below (Qwi A (WdM V ad A) res.1 res.2) args s 0 0 A) (F0 m 44 ls []) := by
  
  unfold f_X8_takes_J44 at hf
  refine lv_iconst (v := 0) X.hx X.hb dX8_takes_44 (by decide) ?_
  exact rt_z X hr hlk (by rw [← Option.some.inj hf]; exact hW) hS (Or.inl rfl) (by rw [← Option.some.inj hf]) (Nat.le_refl _) (Nat.le_refl _) dX8_takes_45
noncomputable def f_X8_takes_J98 (st : St) : Option (Int32 × St) := some (1, st)
set_option maxRecDepth 100000 in
theorem f_X8_takes_J98_w {res : (Int32 × St)} (X : Cx V A cX8_takes 2 RX8 p m c s args) (hr : meth.sig.returnType = (some .boolean)) (hlk : meth.locks = false)  (st : St) (H : Heap) (locs : List Loc) (ls : Array Slot)  (hf : f_X8_takes_J98 st = some res) (hW : (WdM V ad A) st H) (hS : va_S A s.heap H locs) (hl : lv_has ls 2 []) : W p l e (rmF 1 24 0 0) s m args below meth c H locs 0 0 (MQ below (Qwi A (WdM V ad A) res.1 res.2) args s 0 0 A) (F0 m 98 ls []) := by
  
  unfold f_X8_takes_J98 at hf
  refine lv_iconst (v := 1) X.hx X.hb dX8_takes_98 (by decide) ?_
  refine lv_goto (tgt := 103) X.hx X.hb dX8_takes_99 (by decide) ?_
  exact rt_z X hr hlk (by rw [← Option.some.inj hf]; exact hW) hS (Or.inr rfl) (by rw [← Option.some.inj hf]) (Nat.le_refl _) (Nat.le_refl _) dX8_takes_103
noncomputable def f_X8_takes_J41 (st : St) (x1 : Int32) (t0 : Int32) (t1 : Int32) : Option (Int32 × St) := if t1 = t0 then f_X8_takes_J44 st else if inb ((4 * (st.1 5)) + (st.1 6)) 48 = true then lt (sA st 5 ((4 * (st.1 5)) + (st.1 6)).toNatClampNeg x1) fun s62 => lt (sI s62 6 ((s62.1 6) + 1)) fun s70 => if (s70.1 7) = 0 then f_X8_takes_J98 s70 else if (s70.1 6) < (s70.1 7) then f_X8_takes_J98 s70 else (f_X8_isTwice s70).bind fun b92 => if b92 = 0 then f_X8_takes_J98 s70 else some (0, s70) else none
set_option maxRecDepth 100000 in
theorem f_X8_takes_J41_w {res : (Int32 × St)} (X : Cx V A cX8_takes 2 RX8 p m c s args) (hr : meth.sig.returnType = (some .boolean)) (hlk : meth.locks = false)  (st : St) (x1 : Int32) (t0 : Int32) (t1 : Int32) (H : Heap) (locs : List Loc) (ls : Array Slot)  (hf : f_X8_takes_J41 st x1 t0 t1 = some res) (hW : (WdM V ad A) st H) (hS : va_S A s.heap H locs) (hl : lv_has ls 2 [(0, .ref (ad 0)), (1, .int x1)]) : W p l e (rmF 1 24 0 0) s m args below meth c H locs 0 0 (MQ below (Qwi A (WdM V ad A) res.1 res.2) args s 0 0 A) (F0 m 41 ls [.int t0, .int t1]) := by
  
  unfold f_X8_takes_J41 at hf
  refine lv_icmp_ne (tgt := 46) X.hx X.hb dX8_takes_41 (by decide) (fun c41 => ?_) (fun c41 => ?_)
  · replace hf := ite_f c41 hf
    refine lv_aload_n X.hx X.hb dX8_takes_46 rfl (lv_at hl 0 rfl) ?_
    refine gX8_newLetters X hW dX8_takes_47 ?_
    refine lv_iconst (v := 4) X.hx X.hb dX8_takes_50 (by decide) ?_
    refine lv_aload_n X.hx X.hb dX8_takes_51 rfl (lv_at hl 0 rfl) ?_
    refine gX8_newWords X hW dX8_takes_52 ?_
    refine lv_imul X.hx X.hb dX8_takes_55 ?_
    refine lv_aload_n X.hx X.hb dX8_takes_56 rfl (lv_at hl 0 rfl) ?_
    refine gX8_newAt X hW dX8_takes_57 ?_
    refine lv_iadd X.hx X.hb dX8_takes_60 ?_
    refine lv_iload_n X.hx X.hb dX8_takes_61 rfl (lv_at hl 1 rfl) ?_
    obtain ⟨h62, hf⟩ := ite_n hf
    obtain ⟨s62, e62, hf⟩ := lt_e hf
    refine aM_st X hW hS isM_5 rfl h62 dX8_takes_62 (fun H locs hW hS => ?_)
    rw [← e62] at hW
    refine lv_aload_n X.hx X.hb dX8_takes_63 rfl (lv_at hl 0 rfl) ?_
    refine lv_dup X.hx X.hb dX8_takes_64 rfl ?_
    refine gX8_newAt X hW dX8_takes_65 ?_
    refine lv_iconst (v := 1) X.hx X.hb dX8_takes_68 (by decide) ?_
    refine lv_iadd X.hx X.hb dX8_takes_69 ?_
    obtain ⟨s70, e70, hf⟩ := lt_e hf
    refine pX8_newAt X hW hS dX8_takes_70 (fun H locs hW hS => ?_)
    rw [← e70] at hW
    refine lv_aload_n X.hx X.hb dX8_takes_73 rfl (lv_at hl 0 rfl) ?_
    refine gX8_newLength X hW dX8_takes_74 ?_
    refine lv_if_eq (tgt := 98) X.hx X.hb dX8_takes_77 (by decide) (fun c77 => ?_) (fun c77 => ?_)
    · replace hf := ite_t c77 hf
      exact f_X8_takes_J98_w X hr hlk _ _ _ _  hf hW hS (lv_sub hl [] rfl)
    · replace hf := ite_f c77 hf
      refine lv_aload_n X.hx X.hb dX8_takes_80 rfl (lv_at hl 0 rfl) ?_
      refine gX8_newAt X hW dX8_takes_81 ?_
      refine lv_aload_n X.hx X.hb dX8_takes_84 rfl (lv_at hl 0 rfl) ?_
      refine gX8_newLength X hW dX8_takes_85 ?_
      refine lv_icmp_lt (tgt := 98) X.hx X.hb dX8_takes_88 (by decide) (fun c88 => ?_) (fun c88 => ?_)
      · replace hf := ite_t c88 hf
        exact f_X8_takes_J98_w X hr hlk _ _ _ _  hf hW hS (lv_sub hl [] rfl)
      · replace hf := ite_f c88 hf
        refine lv_aload_n X.hx X.hb dX8_takes_91 rfl (lv_at hl 0 rfl) ?_
        obtain ⟨b92, h92, hf⟩ := bnd hf
        refine cl_i (run_V (As := []) (rest := []) X (w_X8_isTwice l V A ad h92) mw_X8_isTwice ln_X8_86 (rcX8 X hW) hW hS rfl hl.1 rfl (Nat.le_of_ble_eq_true rfl) ⟨Nat.le_of_ble_eq_true rfl, Nat.le_of_ble_eq_true rfl⟩ ⟨Nat.le_refl _, Nat.le_refl _⟩ dX8_takes_92) hS (fun H locs hW hS => ?_)
        refine lv_if_ne (tgt := 102) X.hx X.hb dX8_takes_95 (by decide) (fun c95 => ?_) (fun c95 => ?_)
        · replace hf := ite_f c95 hf
          refine lv_iconst (v := 0) X.hx X.hb dX8_takes_102 (by decide) ?_
          exact rt_z X hr hlk (by rw [← Option.some.inj hf]; exact hW) hS (Or.inl rfl) (by rw [← Option.some.inj hf]) (Nat.le_refl _) (Nat.le_refl _) dX8_takes_103
        · replace hf := ite_t c95 hf
          exact f_X8_takes_J98_w X hr hlk _ _ _ _  hf hW hS (lv_sub hl [] rfl)
  · replace hf := ite_t c41 hf
    exact f_X8_takes_J44_w X hr hlk _ _ _ _  hf hW hS (lv_sub hl [] rfl)
noncomputable def f_X8_takes (st : St) (a1 : Int32) : Option (Int32 × St) := if a1 = 44 then (f_X8_takesComma st).bind fun b7 => if b7.1 = 0 ∨ b7.1 = 1 then some (b7.1, b7.2) else none else (f_X8_within a1 97 122).bind fun b16 => if b16 = 0 then f_X8_takes_J44 st else if (st.1 7) = 0 then f_X8_takes_J41 st a1 4 (st.1 6) else f_X8_takes_J41 st a1 (st.1 7) (st.1 6)
set_option maxRecDepth 100000 in
theorem w_X8_takes (l : Launch) (V : Ev) (A : Nat → Prop) (ad : Nat → Nat) {st : St} {a1 : Int32} {res : (Int32 × St)} (hf : f_X8_takes st a1 = some res) : Cn l yX8_takes cX8_takes 2 (some .boolean) 1 24 0 0 V A (WdM V ad A) st [.ref (ad 0), .int a1] (Qwi A (WdM V ad A) res.1 res.2) := by
  refine cn_of RX8 (by decide) rfl (fun p e s m below meth c ls X hr hlk hW hS hl => ?_) (Nat.le_of_ble_eq_true rfl)
  have hl : lv_has ls 2 [(0, .ref (ad 0)), (1, .int a1)] := hl
  unfold f_X8_takes at hf
  refine lv_iload_n X.hx X.hb dX8_takes_0 rfl (lv_at hl 1 rfl) ?_
  refine lv_bipush (v := 44) X.hx X.hb dX8_takes_1 (by decide) ?_
  refine lv_icmp_ne (tgt := 11) X.hx X.hb dX8_takes_3 (by decide) (fun c3 => ?_) (fun c3 => ?_)
  · replace hf := ite_f c3 hf
    refine lv_iload_n X.hx X.hb dX8_takes_11 rfl (lv_at hl 1 rfl) ?_
    refine lv_bipush (v := 97) X.hx X.hb dX8_takes_12 (by decide) ?_
    refine lv_bipush (v := 122) X.hx X.hb dX8_takes_14 (by decide) ?_
    obtain ⟨b16, h16, hf⟩ := bnd hf
    refine cl_i (run_S (As := [.int a1, .int 97, .int 122]) (rest := []) X (w_X8_within l V A (WdM V ad A) st h16) mw_X8_within ln_X8_65 hW hS rfl hl.1 rfl (Nat.le_of_ble_eq_true rfl) ⟨Nat.le_of_ble_eq_true rfl, Nat.le_of_ble_eq_true rfl⟩ ⟨Nat.le_refl _, Nat.le_refl _⟩ dX8_takes_16) hS (fun H locs hW hS => ?_)
    refine lv_if_eq (tgt := 44) X.hx X.hb dX8_takes_19 (by decide) (fun c19 => ?_) (fun c19 => ?_)
    · replace hf := ite_t c19 hf
      exact f_X8_takes_J44_w X hr hlk _ _ _ _  hf hW hS (lv_sub hl [] rfl)
    · replace hf := ite_f c19 hf
      refine lv_aload_n X.hx X.hb dX8_takes_22 rfl (lv_at hl 0 rfl) ?_
      refine gX8_newAt X hW dX8_takes_23 ?_
      refine lv_aload_n X.hx X.hb dX8_takes_26 rfl (lv_at hl 0 rfl) ?_
      refine gX8_newLength X hW dX8_takes_27 ?_
      refine lv_if_ne (tgt := 37) X.hx X.hb dX8_takes_30 (by decide) (fun c30 => ?_) (fun c30 => ?_)
      · replace hf := ite_f c30 hf
        refine lv_aload_n X.hx X.hb dX8_takes_37 rfl (lv_at hl 0 rfl) ?_
        refine gX8_newLength X hW dX8_takes_38 ?_
        exact f_X8_takes_J41_w X hr hlk _ _ _ _ _ _ _  hf hW hS (lv_sub hl [0, 1] rfl)
      · replace hf := ite_t c30 hf
        refine lv_iconst (v := 4) X.hx X.hb dX8_takes_33 (by decide) ?_
        refine lv_goto (tgt := 41) X.hx X.hb dX8_takes_34 (by decide) ?_
        exact f_X8_takes_J41_w X hr hlk _ _ _ _ _ _ _  hf hW hS (lv_sub hl [0, 1] rfl)
  · replace hf := ite_t c3 hf
    refine lv_aload_n X.hx X.hb dX8_takes_6 rfl (lv_at hl 0 rfl) ?_
    obtain ⟨b7, h7, hf⟩ := bnd hf
    refine cl_i (run_V (As := []) (rest := []) X (w_X8_takesComma l V A ad h7) mw_X8_takesComma ln_X8_82 (rcX8 X hW) hW hS rfl hl.1 rfl (Nat.le_of_ble_eq_true rfl) ⟨Nat.le_of_ble_eq_true rfl, Nat.le_of_ble_eq_true rfl⟩ ⟨Nat.le_refl _, Nat.le_refl _⟩ dX8_takes_7) hS (fun H locs hW hS => ?_)
    obtain ⟨h10, hf⟩ := ite_n hf
    exact rt_z X hr hlk (by rw [← Option.some.inj hf]; exact hW) hS h10 (by rw [← Option.some.inj hf]) (Nat.le_refl _) (Nat.le_refl _) dX8_takes_10
-- WordSquaresModel.read
noncomputable def f_X8_read_J44 (st : St) (x1 : Int32) : Option (Int32 × St) := some (x1, st)
set_option maxRecDepth 100000 in
theorem f_X8_read_J44_w {res : (Int32 × St)} (X : Cx V A cX8_read 2 RX8 p m c s args) (hr : meth.sig.returnType = (some .int)) (hlk : meth.locks = false)  (st : St) (x1 : Int32) (H : Heap) (locs : List Loc) (ls : Array Slot)  (hf : f_X8_read_J44 st x1 = some res) (hW : (WdM V ad A) st H) (hS : va_S A s.heap H locs) (hl : lv_has ls 2 [(1, .int x1)]) : W p l e (rmF 2 45 0 0) s m args below meth c H locs 0 0 (MQ below (Qwi A (WdM V ad A) res.1 res.2) args s 0 0 A) (F0 m 44 ls []) := by
  
  unfold f_X8_read_J44 at hf
  refine lv_iload_n X.hx X.hb dX8_read_44 rfl (lv_at hl 0 rfl) ?_
  exact rt_i X hr hlk (by rw [← Option.some.inj hf]; exact hW) hS (by rw [← Option.some.inj hf]) (Nat.le_refl _) (Nat.le_refl _) dX8_read_45
noncomputable def f_X8_read_L17 : Nat → St → Int32 → Option (Int32 × St)
  | 0, _, _ => none
  | fu + 1, st, x1 => if (st.1 4) ≤ x1 then f_X8_read_J44 st x1 else if inb x1 60 = true then (f_X8_takes st (st.2.1 4 x1.toNatClampNeg)).bind fun b32 => if b32.1 = 0 then f_X8_read_J44 b32.2 x1 else lt (x1 + 1) fun w38 => (f_X8_read_L17 fu) b32.2 w38 else none
set_option maxRecDepth 100000 in
theorem f_X8_read_L17_w {res : (Int32 × St)} (X : Cx V A cX8_read 2 RX8 p m c s args) (hr : meth.sig.returnType = (some .int)) (hlk : meth.locks = false)  : ∀ (n9 : Nat) (st : St) (x1 : Int32) (H : Heap) (locs : List Loc) (ls : Array Slot), f_X8_read_L17 n9 st x1 = some res → (WdM V ad A) st H → va_S A s.heap H locs → lv_has ls 2 [(0, .ref (ad 0)), (1, .int x1)] → W p l e (rmF 2 45 0 0) s m args below meth c H locs 0 0 (MQ below (Qwi A (WdM V ad A) res.1 res.2) args s 0 0 A) (F0 m 17 ls []) := by
  intro n9
  induction n9 with
  | zero =>
    intro st x1 H locs ls hf
    exact absurd hf (by unfold f_X8_read_L17; exact fun h => by cases h)
  | succ n9 hr17 =>
    intro st x1 H locs ls hf hW hS hl
    
    unfold f_X8_read_L17 at hf
    refine lv_iload_n X.hx X.hb dX8_read_17 rfl (lv_at hl 1 rfl) ?_
    refine lv_aload_n X.hx X.hb dX8_read_18 rfl (lv_at hl 0 rfl) ?_
    refine gX8_pageLength X hW dX8_read_19 ?_
    refine lv_icmp_ge (tgt := 44) X.hx X.hb dX8_read_22 (by decide) (fun c22 => ?_) (fun c22 => ?_)
    · replace hf := ite_t c22 hf
      exact f_X8_read_J44_w X hr hlk _ _ _ _ _  hf hW hS (lv_sub hl [1] rfl)
    · replace hf := ite_f c22 hf
      refine lv_aload_n X.hx X.hb dX8_read_25 rfl (lv_at hl 0 rfl) ?_
      refine lv_aload_n X.hx X.hb dX8_read_26 rfl (lv_at hl 0 rfl) ?_
      refine gX8_page X hW dX8_read_27 ?_
      refine lv_iload_n X.hx X.hb dX8_read_30 rfl (lv_at hl 1 rfl) ?_
      obtain ⟨h31, hf⟩ := ite_n hf
      refine aM_ld X hW isM_4 rfl h31 dX8_read_31 ?_
      obtain ⟨b32, h32, hf⟩ := bnd hf
      refine cl_i (run_V (As := [.int (st.2.1 4 x1.toNatClampNeg)]) (rest := []) X (w_X8_takes l V A ad h32) mw_X8_takes ln_X8_89 (rcX8 X hW) hW hS rfl hl.1 rfl (Nat.le_of_ble_eq_true rfl) ⟨Nat.le_of_ble_eq_true rfl, Nat.le_of_ble_eq_true rfl⟩ ⟨Nat.le_refl _, Nat.le_refl _⟩ dX8_read_32) hS (fun H locs hW hS => ?_)
      refine lv_if_eq (tgt := 44) X.hx X.hb dX8_read_35 (by decide) (fun c35 => ?_) (fun c35 => ?_)
      · replace hf := ite_t c35 hf
        exact f_X8_read_J44_w X hr hlk _ _ _ _ _  hf hW hS (lv_sub hl [1] rfl)
      · replace hf := ite_f c35 hf
        obtain ⟨w38, e38, hf⟩ := lt_e hf
        refine lv_iinc (v := w38) (lv' := [(1, .int w38), (0, .ref (ad 0))]) X.hx X.hb dX8_read_38 hl (k := 1) rfl (by rw [e38]; rfl) (by decide) rfl (fun ls hl => ?_)
        refine lv_goto (tgt := 17) X.hx X.hb dX8_read_41 (by decide) ?_
        exact hr17 _ _ _ _ _  hf hW hS (lv_sub hl [1, 0] rfl)
noncomputable def f_X8_read (st : St) : Option (Int32 × St) := lt (sI st 5 0) fun s2 => lt (sI s2 6 0) fun s7 => lt (sI s7 7 0) fun s12 => f_X8_read_L17 FU s12 0
set_option maxRecDepth 100000 in
theorem w_X8_read (l : Launch) (V : Ev) (A : Nat → Prop) (ad : Nat → Nat) {st : St} {res : (Int32 × St)} (hf : f_X8_read st = some res) : Cn l yX8_read cX8_read 2 (some .int) 2 45 0 0 V A (WdM V ad A) st [.ref (ad 0)] (Qwi A (WdM V ad A) res.1 res.2) := by
  refine cn_of RX8 (by decide) rfl (fun p e s m below meth c ls X hr hlk hW hS hl => ?_) (Nat.le_of_ble_eq_true rfl)
  have hl : lv_has ls 2 [(0, .ref (ad 0))] := hl
  unfold f_X8_read at hf
  refine lv_aload_n X.hx X.hb dX8_read_0 rfl (lv_at hl 0 rfl) ?_
  refine lv_iconst (v := 0) X.hx X.hb dX8_read_1 (by decide) ?_
  obtain ⟨s2, e2, hf⟩ := lt_e hf
  refine pX8_newWords X hW hS dX8_read_2 (fun H locs hW hS => ?_)
  rw [← e2] at hW
  refine lv_aload_n X.hx X.hb dX8_read_5 rfl (lv_at hl 0 rfl) ?_
  refine lv_iconst (v := 0) X.hx X.hb dX8_read_6 (by decide) ?_
  obtain ⟨s7, e7, hf⟩ := lt_e hf
  refine pX8_newAt X hW hS dX8_read_7 (fun H locs hW hS => ?_)
  rw [← e7] at hW
  refine lv_aload_n X.hx X.hb dX8_read_10 rfl (lv_at hl 0 rfl) ?_
  refine lv_iconst (v := 0) X.hx X.hb dX8_read_11 (by decide) ?_
  obtain ⟨s12, e12, hf⟩ := lt_e hf
  refine pX8_newLength X hW hS dX8_read_12 (fun H locs hW hS => ?_)
  rw [← e12] at hW
  refine lv_iconst (v := 0) X.hx X.hb dX8_read_15 (by decide) ?_
  refine lv_istore_n (lv' := [(1, .int 0), (0, .ref (ad 0))]) X.hx X.hb dX8_read_16 rfl hl (by decide) rfl (fun ls hl => ?_)
  exact f_X8_read_L17_w X hr hlk FU _ _ _ _ _  hf hW hS (lv_sub hl [1, 0] rfl)
-- WordSquaresModel.fault
noncomputable def f_X8_fault (st : St) : Option (Int32 × St) := (f_X8_read st).bind fun b1 => some (b1.1, b1.2)
set_option maxRecDepth 100000 in
theorem w_X8_fault (l : Launch) (V : Ev) (A : Nat → Prop) (ad : Nat → Nat) {st : St} {res : (Int32 × St)} (hf : f_X8_fault st = some res) : Cn l yX8_fault cX8_fault 1 (some .int) 3 66 0 0 V A (WdM V ad A) st [.ref (ad 0)] (Qwi A (WdM V ad A) res.1 res.2) := by
  refine cn_of RX8 (by decide) rfl (fun p e s m below meth c ls X hr hlk hW hS hl => ?_) (Nat.le_of_ble_eq_true rfl)
  have hl : lv_has ls 1 [(0, .ref (ad 0))] := hl
  unfold f_X8_fault at hf
  refine lv_aload_n X.hx X.hb dX8_fault_0 rfl (lv_at hl 0 rfl) ?_
  obtain ⟨b1, h1, hf⟩ := bnd hf
  refine cl_i (run_V (As := []) (rest := []) X (w_X8_read l V A ad h1) mw_X8_read ln_X8_93 (rcX8 X hW) hW hS rfl hl.1 rfl (Nat.le_of_ble_eq_true rfl) ⟨Nat.le_of_ble_eq_true rfl, Nat.le_of_ble_eq_true rfl⟩ ⟨Nat.le_refl _, Nat.le_refl _⟩ dX8_fault_1) hS (fun H locs hW hS => ?_)
  exact rt_i X hr hlk (by rw [← Option.some.inj hf]; exact hW) hS (by rw [← Option.some.inj hf]) (Nat.le_refl _) (Nat.le_refl _) dX8_fault_4
-- WordSquaresModel.isThere
noncomputable def f_X8_isThere_J62 (st : St) (r4 : Int32 → Int32 → Int32 → Option Int32) (r18 : Int32 → Int32 → Int32 → Int32 → Int32 → Option Int32) (x1 : Int32) (x2 : Int32) (x3 : Int32) (x5 : Int32) (t0 : Int32) : Option Int32 := lt (x5 + 1) fun w64 => r18 x1 x2 x3 t0 w64
set_option maxRecDepth 100000 in
theorem f_X8_isThere_J62_w {st : St} {r4 : Int32 → Int32 → Int32 → Option Int32} {r18 : Int32 → Int32 → Int32 → Int32 → Int32 → Option Int32} {res : Int32} (X : Cx V A cX8_isThere 6 RX8 p m c s args) (hr : meth.sig.returnType = (some .boolean)) (hlk : meth.locks = false) (hr4 : ∀ (x1 : Int32) (x2 : Int32) (x3 : Int32) (H : Heap) (locs : List Loc) (ls : Array Slot), r4 x1 x2 x3 = some res → (WdM V ad A) st H → va_S A s.heap H locs → lv_has ls 6 [(0, .ref (ad 0)), (1, .int x1), (2, .int x2), (3, .int x3)] → W p l e (rmF 0 0 0 0) s m args below meth c H locs 0 0 (MQ below (Qwi A (WdM V ad A) res st) args s 0 0 A) (F0 m 4 ls [])) (hr18 : ∀ (x1 : Int32) (x2 : Int32) (x3 : Int32) (x4 : Int32) (x5 : Int32) (H : Heap) (locs : List Loc) (ls : Array Slot), r18 x1 x2 x3 x4 x5 = some res → (WdM V ad A) st H → va_S A s.heap H locs → lv_has ls 6 [(0, .ref (ad 0)), (1, .int x1), (2, .int x2), (3, .int x3), (4, .int x4), (5, .int x5)] → W p l e (rmF 0 0 0 0) s m args below meth c H locs 0 0 (MQ below (Qwi A (WdM V ad A) res st) args s 0 0 A) (F0 m 18 ls [])) (x1 : Int32) (x2 : Int32) (x3 : Int32) (x5 : Int32) (t0 : Int32) (H : Heap) (locs : List Loc) (ls : Array Slot)  (hf : f_X8_isThere_J62 st r4 r18 x1 x2 x3 x5 t0 = some res) (hW : (WdM V ad A) st H) (hS : va_S A s.heap H locs) (hl : lv_has ls 6 [(0, .ref (ad 0)), (1, .int x1), (2, .int x2), (3, .int x3), (5, .int x5)]) : W p l e (rmF 0 0 0 0) s m args below meth c H locs 0 0 (MQ below (Qwi A (WdM V ad A) res st) args s 0 0 A) (F0 m 62 ls [.int t0]) := by
  
  unfold f_X8_isThere_J62 at hf
  refine lv_istore (lv' := [(4, .int t0), (0, .ref (ad 0)), (1, .int x1), (2, .int x2), (3, .int x3), (5, .int x5)]) X.hx X.hb dX8_isThere_62 hl (by decide) rfl (fun ls hl => ?_)
  obtain ⟨w64, e64, hf⟩ := lt_e hf
  refine lv_iinc (v := w64) (lv' := [(5, .int w64), (4, .int t0), (0, .ref (ad 0)), (1, .int x1), (2, .int x2), (3, .int x3)]) X.hx X.hb dX8_isThere_64 hl (k := 5) rfl (by rw [e64]; rfl) (by decide) rfl (fun ls hl => ?_)
  refine lv_goto (tgt := 18) X.hx X.hb dX8_isThere_67 (by decide) ?_
  exact hr18 _ _ _ _ _ _ _ _  hf hW hS (lv_sub hl [2, 3, 4, 5, 1, 0] rfl)
noncomputable def f_X8_isThere_J61 (st : St) (r4 : Int32 → Int32 → Int32 → Option Int32) (r18 : Int32 → Int32 → Int32 → Int32 → Int32 → Option Int32) (x1 : Int32) (x2 : Int32) (x3 : Int32) (x5 : Int32) : Option Int32 := f_X8_isThere_J62 st r4 r18 x1 x2 x3 x5 0
set_option maxRecDepth 100000 in
theorem f_X8_isThere_J61_w {st : St} {r4 : Int32 → Int32 → Int32 → Option Int32} {r18 : Int32 → Int32 → Int32 → Int32 → Int32 → Option Int32} {res : Int32} (X : Cx V A cX8_isThere 6 RX8 p m c s args) (hr : meth.sig.returnType = (some .boolean)) (hlk : meth.locks = false) (hr4 : ∀ (x1 : Int32) (x2 : Int32) (x3 : Int32) (H : Heap) (locs : List Loc) (ls : Array Slot), r4 x1 x2 x3 = some res → (WdM V ad A) st H → va_S A s.heap H locs → lv_has ls 6 [(0, .ref (ad 0)), (1, .int x1), (2, .int x2), (3, .int x3)] → W p l e (rmF 0 0 0 0) s m args below meth c H locs 0 0 (MQ below (Qwi A (WdM V ad A) res st) args s 0 0 A) (F0 m 4 ls [])) (hr18 : ∀ (x1 : Int32) (x2 : Int32) (x3 : Int32) (x4 : Int32) (x5 : Int32) (H : Heap) (locs : List Loc) (ls : Array Slot), r18 x1 x2 x3 x4 x5 = some res → (WdM V ad A) st H → va_S A s.heap H locs → lv_has ls 6 [(0, .ref (ad 0)), (1, .int x1), (2, .int x2), (3, .int x3), (4, .int x4), (5, .int x5)] → W p l e (rmF 0 0 0 0) s m args below meth c H locs 0 0 (MQ below (Qwi A (WdM V ad A) res st) args s 0 0 A) (F0 m 18 ls [])) (x1 : Int32) (x2 : Int32) (x3 : Int32) (x5 : Int32) (H : Heap) (locs : List Loc) (ls : Array Slot)  (hf : f_X8_isThere_J61 st r4 r18 x1 x2 x3 x5 = some res) (hW : (WdM V ad A) st H) (hS : va_S A s.heap H locs) (hl : lv_has ls 6 [(0, .ref (ad 0)), (1, .int x1), (2, .int x2), (3, .int x3), (5, .int x5)]) : W p l e (rmF 0 0 0 0) s m args below meth c H locs 0 0 (MQ below (Qwi A (WdM V ad A) res st) args s 0 0 A) (F0 m 61 ls []) := by
  
  unfold f_X8_isThere_J61 at hf
  refine lv_iconst (v := 0) X.hx X.hb dX8_isThere_61 (by decide) ?_
  exact f_X8_isThere_J62_w X hr hlk hr4 hr18 _ _ _ _ _ _ _ _  hf hW hS (lv_sub hl [0, 1, 2, 3, 4] rfl)
noncomputable def f_X8_isThere_J84 (st : St) (r4 : Int32 → Int32 → Int32 → Option Int32) (x1 : Int32) (x3 : Int32) (t0 : Int32) : Option Int32 := lt (x3 + 1) fun w85 => r4 x1 t0 w85
set_option maxRecDepth 100000 in
theorem f_X8_isThere_J84_w {st : St} {r4 : Int32 → Int32 → Int32 → Option Int32} {res : Int32} (X : Cx V A cX8_isThere 6 RX8 p m c s args) (hr : meth.sig.returnType = (some .boolean)) (hlk : meth.locks = false) (hr4 : ∀ (x1 : Int32) (x2 : Int32) (x3 : Int32) (H : Heap) (locs : List Loc) (ls : Array Slot), r4 x1 x2 x3 = some res → (WdM V ad A) st H → va_S A s.heap H locs → lv_has ls 6 [(0, .ref (ad 0)), (1, .int x1), (2, .int x2), (3, .int x3)] → W p l e (rmF 0 0 0 0) s m args below meth c H locs 0 0 (MQ below (Qwi A (WdM V ad A) res st) args s 0 0 A) (F0 m 4 ls [])) (x1 : Int32) (x3 : Int32) (t0 : Int32) (H : Heap) (locs : List Loc) (ls : Array Slot)  (hf : f_X8_isThere_J84 st r4 x1 x3 t0 = some res) (hW : (WdM V ad A) st H) (hS : va_S A s.heap H locs) (hl : lv_has ls 6 [(0, .ref (ad 0)), (1, .int x1), (3, .int x3)]) : W p l e (rmF 0 0 0 0) s m args below meth c H locs 0 0 (MQ below (Qwi A (WdM V ad A) res st) args s 0 0 A) (F0 m 84 ls [.int t0]) := by
  
  unfold f_X8_isThere_J84 at hf
  refine lv_istore_n (lv' := [(2, .int t0), (0, .ref (ad 0)), (1, .int x1), (3, .int x3)]) X.hx X.hb dX8_isThere_84 rfl hl (by decide) rfl (fun ls hl => ?_)
  obtain ⟨w85, e85, hf⟩ := lt_e hf
  refine lv_iinc (v := w85) (lv' := [(3, .int w85), (2, .int t0), (0, .ref (ad 0)), (1, .int x1)]) X.hx X.hb dX8_isThere_85 hl (k := 3) rfl (by rw [e85]; rfl) (by decide) rfl (fun ls hl => ?_)
  refine lv_goto (tgt := 4) X.hx X.hb dX8_isThere_88 (by decide) ?_
  exact hr4 _ _ _ _ _ _  hf hW hS (lv_sub hl [2, 3, 1, 0] rfl)
noncomputable def f_X8_isThere_J79 (st : St) (r4 : Int32 → Int32 → Int32 → Option Int32) (x1 : Int32) (x3 : Int32) : Option Int32 := f_X8_isThere_J84 st r4 x1 x3 1
set_option maxRecDepth 100000 in
theorem f_X8_isThere_J79_w {st : St} {r4 : Int32 → Int32 → Int32 → Option Int32} {res : Int32} (X : Cx V A cX8_isThere 6 RX8 p m c s args) (hr : meth.sig.returnType = (some .boolean)) (hlk : meth.locks = false) (hr4 : ∀ (x1 : Int32) (x2 : Int32) (x3 : Int32) (H : Heap) (locs : List Loc) (ls : Array Slot), r4 x1 x2 x3 = some res → (WdM V ad A) st H → va_S A s.heap H locs → lv_has ls 6 [(0, .ref (ad 0)), (1, .int x1), (2, .int x2), (3, .int x3)] → W p l e (rmF 0 0 0 0) s m args below meth c H locs 0 0 (MQ below (Qwi A (WdM V ad A) res st) args s 0 0 A) (F0 m 4 ls [])) (x1 : Int32) (x3 : Int32) (H : Heap) (locs : List Loc) (ls : Array Slot)  (hf : f_X8_isThere_J79 st r4 x1 x3 = some res) (hW : (WdM V ad A) st H) (hS : va_S A s.heap H locs) (hl : lv_has ls 6 [(0, .ref (ad 0)), (1, .int x1), (3, .int x3)]) : W p l e (rmF 0 0 0 0) s m args below meth c H locs 0 0 (MQ below (Qwi A (WdM V ad A) res st) args s 0 0 A) (F0 m 79 ls []) := by
  
  unfold f_X8_isThere_J79 at hf
  refine lv_iconst (v := 1) X.hx X.hb dX8_isThere_79 (by decide) ?_
  refine lv_goto (tgt := 84) X.hx X.hb dX8_isThere_80 (by decide) ?_
  exact f_X8_isThere_J84_w X hr hlk hr4 _ _ _ _ _ _  hf hW hS (lv_sub hl [0, 1, 2] rfl)
noncomputable def f_X8_isThere_L18 (st : St) (r4 : Int32 → Int32 → Int32 → Option Int32) : Nat → Int32 → Int32 → Int32 → Int32 → Int32 → Option Int32
  | 0, _, _, _, _, _ => none
  | fu + 1, x1, x2, x3, x4, x5 => if (st.1 0) ≤ x5 then if x2 = 0 then if x4 = 0 then f_X8_isThere_J84 st r4 x1 x3 0 else f_X8_isThere_J79 st r4 x1 x3 else f_X8_isThere_J79 st r4 x1 x3 else if x4 = 0 then f_X8_isThere_J61 st r4 ((f_X8_isThere_L18 st r4 fu)) x1 x2 x3 x5 else if inb ((4 * x3) + x5) 48 = true then if inb ((4 * x1) + x5) 48 = true then if (st.2.1 1 ((4 * x3) + x5).toNatClampNeg) = (st.2.1 5 ((4 * x1) + x5).toNatClampNeg) then f_X8_isThere_J62 st r4 ((f_X8_isThere_L18 st r4 fu)) x1 x2 x3 x5 1 else f_X8_isThere_J61 st r4 ((f_X8_isThere_L18 st r4 fu)) x1 x2 x3 x5 else none else none
set_option maxRecDepth 100000 in
theorem f_X8_isThere_L18_w {st : St} {r4 : Int32 → Int32 → Int32 → Option Int32} {res : Int32} (X : Cx V A cX8_isThere 6 RX8 p m c s args) (hr : meth.sig.returnType = (some .boolean)) (hlk : meth.locks = false) (hr4 : ∀ (x1 : Int32) (x2 : Int32) (x3 : Int32) (H : Heap) (locs : List Loc) (ls : Array Slot), r4 x1 x2 x3 = some res → (WdM V ad A) st H → va_S A s.heap H locs → lv_has ls 6 [(0, .ref (ad 0)), (1, .int x1), (2, .int x2), (3, .int x3)] → W p l e (rmF 0 0 0 0) s m args below meth c H locs 0 0 (MQ below (Qwi A (WdM V ad A) res st) args s 0 0 A) (F0 m 4 ls [])) : ∀ (n9 : Nat) (x1 : Int32) (x2 : Int32) (x3 : Int32) (x4 : Int32) (x5 : Int32) (H : Heap) (locs : List Loc) (ls : Array Slot), f_X8_isThere_L18 st r4 n9 x1 x2 x3 x4 x5 = some res → (WdM V ad A) st H → va_S A s.heap H locs → lv_has ls 6 [(0, .ref (ad 0)), (1, .int x1), (2, .int x2), (3, .int x3), (4, .int x4), (5, .int x5)] → W p l e (rmF 0 0 0 0) s m args below meth c H locs 0 0 (MQ below (Qwi A (WdM V ad A) res st) args s 0 0 A) (F0 m 18 ls []) := by
  intro n9
  induction n9 with
  | zero =>
    intro x1 x2 x3 x4 x5 H locs ls hf
    exact absurd hf (by unfold f_X8_isThere_L18; exact fun h => by cases h)
  | succ n9 hr18 =>
    intro x1 x2 x3 x4 x5 H locs ls hf hW hS hl
    
    unfold f_X8_isThere_L18 at hf
    refine lv_iload X.hx X.hb dX8_isThere_18 (lv_at hl 5 rfl) ?_
    refine lv_aload_n X.hx X.hb dX8_isThere_20 rfl (lv_at hl 0 rfl) ?_
    refine gX8_length X hW dX8_isThere_21 ?_
    refine lv_icmp_ge (tgt := 70) X.hx X.hb dX8_isThere_24 (by decide) (fun c24 => ?_) (fun c24 => ?_)
    · replace hf := ite_t c24 hf
      refine lv_iload_n X.hx X.hb dX8_isThere_70 rfl (lv_at hl 2 rfl) ?_
      refine lv_if_ne (tgt := 79) X.hx X.hb dX8_isThere_71 (by decide) (fun c71 => ?_) (fun c71 => ?_)
      · replace hf := ite_f c71 hf
        exact f_X8_isThere_J79_w X hr hlk hr4 _ _ _ _ _  hf hW hS (lv_sub hl [0, 1, 3] rfl)
      · replace hf := ite_t c71 hf
        refine lv_iload X.hx X.hb dX8_isThere_74 (lv_at hl 4 rfl) ?_
        refine lv_if_eq (tgt := 83) X.hx X.hb dX8_isThere_76 (by decide) (fun c76 => ?_) (fun c76 => ?_)
        · replace hf := ite_t c76 hf
          refine lv_iconst (v := 0) X.hx X.hb dX8_isThere_83 (by decide) ?_
          exact f_X8_isThere_J84_w X hr hlk hr4 _ _ _ _ _ _  hf hW hS (lv_sub hl [0, 1, 3] rfl)
        · replace hf := ite_f c76 hf
          exact f_X8_isThere_J79_w X hr hlk hr4 _ _ _ _ _  hf hW hS (lv_sub hl [0, 1, 3] rfl)
    · replace hf := ite_f c24 hf
      refine lv_iload X.hx X.hb dX8_isThere_27 (lv_at hl 4 rfl) ?_
      refine lv_if_eq (tgt := 61) X.hx X.hb dX8_isThere_29 (by decide) (fun c29 => ?_) (fun c29 => ?_)
      · replace hf := ite_t c29 hf
        exact f_X8_isThere_J61_w X hr hlk hr4 hr18 _ _ _ _ _ _ _  hf hW hS (lv_sub hl [0, 1, 2, 3, 5] rfl)
      · replace hf := ite_f c29 hf
        refine lv_aload_n X.hx X.hb dX8_isThere_32 rfl (lv_at hl 0 rfl) ?_
        refine gX8_letters X hW dX8_isThere_33 ?_
        refine lv_iconst (v := 4) X.hx X.hb dX8_isThere_36 (by decide) ?_
        refine lv_iload_n X.hx X.hb dX8_isThere_37 rfl (lv_at hl 3 rfl) ?_
        refine lv_imul X.hx X.hb dX8_isThere_38 ?_
        refine lv_iload X.hx X.hb dX8_isThere_39 (lv_at hl 5 rfl) ?_
        refine lv_iadd X.hx X.hb dX8_isThere_41 ?_
        obtain ⟨h42, hf⟩ := ite_n hf
        refine aM_ld X hW isM_1 rfl h42 dX8_isThere_42 ?_
        refine lv_aload_n X.hx X.hb dX8_isThere_43 rfl (lv_at hl 0 rfl) ?_
        refine gX8_newLetters X hW dX8_isThere_44 ?_
        refine lv_iconst (v := 4) X.hx X.hb dX8_isThere_47 (by decide) ?_
        refine lv_iload_n X.hx X.hb dX8_isThere_48 rfl (lv_at hl 1 rfl) ?_
        refine lv_imul X.hx X.hb dX8_isThere_49 ?_
        refine lv_iload X.hx X.hb dX8_isThere_50 (lv_at hl 5 rfl) ?_
        refine lv_iadd X.hx X.hb dX8_isThere_52 ?_
        obtain ⟨h53, hf⟩ := ite_n hf
        refine aM_ld X hW isM_5 rfl h53 dX8_isThere_53 ?_
        refine lv_icmp_ne (tgt := 61) X.hx X.hb dX8_isThere_54 (by decide) (fun c54 => ?_) (fun c54 => ?_)
        · replace hf := ite_f c54 hf
          exact f_X8_isThere_J61_w X hr hlk hr4 hr18 _ _ _ _ _ _ _  hf hW hS (lv_sub hl [0, 1, 2, 3, 5] rfl)
        · replace hf := ite_t c54 hf
          refine lv_iconst (v := 1) X.hx X.hb dX8_isThere_57 (by decide) ?_
          refine lv_goto (tgt := 62) X.hx X.hb dX8_isThere_58 (by decide) ?_
          exact f_X8_isThere_J62_w X hr hlk hr4 hr18 _ _ _ _ _ _ _ _  hf hW hS (lv_sub hl [0, 1, 2, 3, 5] rfl)
noncomputable def f_X8_isThere_L4 (st : St) : Nat → Int32 → Int32 → Int32 → Option Int32
  | 0, _, _, _ => none
  | fu + 1, x1, x2, x3 => if (st.1 1) ≤ x3 then if x2 = 0 ∨ x2 = 1 then some x2 else none else f_X8_isThere_L18 st ((f_X8_isThere_L4 st fu)) FU x1 x2 x3 1 0
set_option maxRecDepth 100000 in
theorem f_X8_isThere_L4_w {st : St} {res : Int32} (X : Cx V A cX8_isThere 6 RX8 p m c s args) (hr : meth.sig.returnType = (some .boolean)) (hlk : meth.locks = false)  : ∀ (n9 : Nat) (x1 : Int32) (x2 : Int32) (x3 : Int32) (H : Heap) (locs : List Loc) (ls : Array Slot), f_X8_isThere_L4 st n9 x1 x2 x3 = some res → (WdM V ad A) st H → va_S A s.heap H locs → lv_has ls 6 [(0, .ref (ad 0)), (1, .int x1), (2, .int x2), (3, .int x3)] → W p l e (rmF 0 0 0 0) s m args below meth c H locs 0 0 (MQ below (Qwi A (WdM V ad A) res st) args s 0 0 A) (F0 m 4 ls []) := by
  intro n9
  induction n9 with
  | zero =>
    intro x1 x2 x3 H locs ls hf
    exact absurd hf (by unfold f_X8_isThere_L4; exact fun h => by cases h)
  | succ n9 hr4 =>
    intro x1 x2 x3 H locs ls hf hW hS hl
    
    unfold f_X8_isThere_L4 at hf
    refine lv_iload_n X.hx X.hb dX8_isThere_4 rfl (lv_at hl 3 rfl) ?_
    refine lv_aload_n X.hx X.hb dX8_isThere_5 rfl (lv_at hl 0 rfl) ?_
    refine gX8_words X hW dX8_isThere_6 ?_
    refine lv_icmp_ge (tgt := 91) X.hx X.hb dX8_isThere_9 (by decide) (fun c9 => ?_) (fun c9 => ?_)
    · replace hf := ite_t c9 hf
      refine lv_iload_n X.hx X.hb dX8_isThere_91 rfl (lv_at hl 2 rfl) ?_
      obtain ⟨h92, hf⟩ := ite_n hf
      exact rt_z X hr hlk hW hS h92 (Option.some.inj hf) (Nat.le_refl _) (Nat.le_refl _) dX8_isThere_92
    · replace hf := ite_f c9 hf
      refine lv_iconst (v := 1) X.hx X.hb dX8_isThere_12 (by decide) ?_
      refine lv_istore (lv' := [(4, .int 1), (0, .ref (ad 0)), (1, .int x1), (2, .int x2), (3, .int x3)]) X.hx X.hb dX8_isThere_13 hl (by decide) rfl (fun ls hl => ?_)
      refine lv_iconst (v := 0) X.hx X.hb dX8_isThere_15 (by decide) ?_
      refine lv_istore (lv' := [(5, .int 0), (4, .int 1), (0, .ref (ad 0)), (1, .int x1), (2, .int x2), (3, .int x3)]) X.hx X.hb dX8_isThere_16 hl (by decide) rfl (fun ls hl => ?_)
      exact f_X8_isThere_L18_w X hr hlk hr4 FU _ _ _ _ _ _ _ _  hf hW hS (lv_sub hl [2, 3, 4, 5, 1, 0] rfl)
noncomputable def f_X8_isThere (st : St) (a1 : Int32) : Option Int32 := f_X8_isThere_L4 st FU a1 0 0
set_option maxRecDepth 100000 in
theorem w_X8_isThere (l : Launch) (V : Ev) (A : Nat → Prop) (ad : Nat → Nat) {st : St} {a1 : Int32} {res : Int32} (hf : f_X8_isThere st a1 = some res) : Cn l yX8_isThere cX8_isThere 6 (some .boolean) 0 0 0 0 V A (WdM V ad A) st [.ref (ad 0), .int a1] (Qwi A (WdM V ad A) res st) := by
  refine cn_of RX8 (by decide) rfl (fun p e s m below meth c ls X hr hlk hW hS hl => ?_) (Nat.le_of_ble_eq_true rfl)
  have hl : lv_has ls 6 [(0, .ref (ad 0)), (1, .int a1)] := hl
  unfold f_X8_isThere at hf
  refine lv_iconst (v := 0) X.hx X.hb dX8_isThere_0 (by decide) ?_
  refine lv_istore_n (lv' := [(2, .int 0), (0, .ref (ad 0)), (1, .int a1)]) X.hx X.hb dX8_isThere_1 rfl hl (by decide) rfl (fun ls hl => ?_)
  refine lv_iconst (v := 0) X.hx X.hb dX8_isThere_2 (by decide) ?_
  refine lv_istore_n (lv' := [(3, .int 0), (2, .int 0), (0, .ref (ad 0)), (1, .int a1)]) X.hx X.hb dX8_isThere_3 rfl hl (by decide) rfl (fun ls hl => ?_)
  exact f_X8_isThere_L4_w X hr hlk FU _ _ _ _ _ _  hf hW hS (lv_sub hl [2, 3, 1, 0] rfl)
-- WordSquaresModel.isAhead
noncomputable def f_X8_isAhead_L2 (st : St) : Nat → Int32 → Int32 → Int32 → Option Int32
  | 0, _, _, _ => none
  | fu + 1, x1, x2, x3 => if (st.1 0) ≤ x3 then some 0 else if inb ((4 * x1) + x3) 48 = true then if inb ((4 * x2) + x3) 48 = true then lt ((st.2.1 5 ((4 * x1) + x3).toNatClampNeg) - (st.2.1 1 ((4 * x2) + x3).toNatClampNeg)) fun w31 => if w31 = 0 then lt (x3 + 1) fun w49 => (f_X8_isAhead_L2 st fu) x1 x2 w49 else if 0 ≤ w31 then some 0 else some 1 else none else none
set_option maxRecDepth 100000 in
theorem f_X8_isAhead_L2_w {st : St} {res : Int32} (X : Cx V A cX8_isAhead 5 RX8 p m c s args) (hr : meth.sig.returnType = (some .boolean)) (hlk : meth.locks = false)  : ∀ (n9 : Nat) (x1 : Int32) (x2 : Int32) (x3 : Int32) (H : Heap) (locs : List Loc) (ls : Array Slot), f_X8_isAhead_L2 st n9 x1 x2 x3 = some res → (WdM V ad A) st H → va_S A s.heap H locs → lv_has ls 5 [(0, .ref (ad 0)), (1, .int x1), (2, .int x2), (3, .int x3)] → W p l e (rmF 0 0 0 0) s m args below meth c H locs 0 0 (MQ below (Qwi A (WdM V ad A) res st) args s 0 0 A) (F0 m 2 ls []) := by
  intro n9
  induction n9 with
  | zero =>
    intro x1 x2 x3 H locs ls hf
    exact absurd hf (by unfold f_X8_isAhead_L2; exact fun h => by cases h)
  | succ n9 hr2 =>
    intro x1 x2 x3 H locs ls hf hW hS hl
    
    unfold f_X8_isAhead_L2 at hf
    refine lv_iload_n X.hx X.hb dX8_isAhead_2 rfl (lv_at hl 3 rfl) ?_
    refine lv_aload_n X.hx X.hb dX8_isAhead_3 rfl (lv_at hl 0 rfl) ?_
    refine gX8_length X hW dX8_isAhead_4 ?_
    refine lv_icmp_ge (tgt := 55) X.hx X.hb dX8_isAhead_7 (by decide) (fun c7 => ?_) (fun c7 => ?_)
    · replace hf := ite_t c7 hf
      refine lv_iconst (v := 0) X.hx X.hb dX8_isAhead_55 (by decide) ?_
      exact rt_z X hr hlk hW hS (Or.inl rfl) (Option.some.inj hf) (Nat.le_refl _) (Nat.le_refl _) dX8_isAhead_56
    · replace hf := ite_f c7 hf
      refine lv_aload_n X.hx X.hb dX8_isAhead_10 rfl (lv_at hl 0 rfl) ?_
      refine gX8_newLetters X hW dX8_isAhead_11 ?_
      refine lv_iconst (v := 4) X.hx X.hb dX8_isAhead_14 (by decide) ?_
      refine lv_iload_n X.hx X.hb dX8_isAhead_15 rfl (lv_at hl 1 rfl) ?_
      refine lv_imul X.hx X.hb dX8_isAhead_16 ?_
      refine lv_iload_n X.hx X.hb dX8_isAhead_17 rfl (lv_at hl 3 rfl) ?_
      refine lv_iadd X.hx X.hb dX8_isAhead_18 ?_
      obtain ⟨h19, hf⟩ := ite_n hf
      refine aM_ld X hW isM_5 rfl h19 dX8_isAhead_19 ?_
      refine lv_aload_n X.hx X.hb dX8_isAhead_20 rfl (lv_at hl 0 rfl) ?_
      refine gX8_letters X hW dX8_isAhead_21 ?_
      refine lv_iconst (v := 4) X.hx X.hb dX8_isAhead_24 (by decide) ?_
      refine lv_iload_n X.hx X.hb dX8_isAhead_25 rfl (lv_at hl 2 rfl) ?_
      refine lv_imul X.hx X.hb dX8_isAhead_26 ?_
      refine lv_iload_n X.hx X.hb dX8_isAhead_27 rfl (lv_at hl 3 rfl) ?_
      refine lv_iadd X.hx X.hb dX8_isAhead_28 ?_
      obtain ⟨h29, hf⟩ := ite_n hf
      refine aM_ld X hW isM_1 rfl h29 dX8_isAhead_29 ?_
      refine lv_isub X.hx X.hb dX8_isAhead_30 ?_
      obtain ⟨w31, e31, hf⟩ := lt_e hf
      refine lv_nm e31 ?_
      refine lv_istore (lv' := [(4, .int w31), (0, .ref (ad 0)), (1, .int x1), (2, .int x2), (3, .int x3)]) X.hx X.hb dX8_isAhead_31 hl (by decide) rfl (fun ls hl => ?_)
      refine lv_iload X.hx X.hb dX8_isAhead_33 (lv_at hl 0 rfl) ?_
      refine lv_if_eq (tgt := 49) X.hx X.hb dX8_isAhead_35 (by decide) (fun c35 => ?_) (fun c35 => ?_)
      · replace hf := ite_t c35 hf
        obtain ⟨w49, e49, hf⟩ := lt_e hf
        refine lv_iinc (v := w49) (lv' := [(3, .int w49), (4, .int w31), (0, .ref (ad 0)), (1, .int x1), (2, .int x2)]) X.hx X.hb dX8_isAhead_49 hl (k := 4) rfl (by rw [e49]; rfl) (by decide) rfl (fun ls hl => ?_)
        refine lv_goto (tgt := 2) X.hx X.hb dX8_isAhead_52 (by decide) ?_
        exact hr2 _ _ _ _ _ _  hf hW hS (lv_sub hl [2, 3, 4, 0] rfl)
      · replace hf := ite_f c35 hf
        refine lv_iload X.hx X.hb dX8_isAhead_38 (lv_at hl 0 rfl) ?_
        refine lv_if_ge (tgt := 47) X.hx X.hb dX8_isAhead_40 (by decide) (fun c40 => ?_) (fun c40 => ?_)
        · replace hf := ite_t c40 hf
          refine lv_iconst (v := 0) X.hx X.hb dX8_isAhead_47 (by decide) ?_
          exact rt_z X hr hlk hW hS (Or.inl rfl) (Option.some.inj hf) (Nat.le_refl _) (Nat.le_refl _) dX8_isAhead_48
        · replace hf := ite_f c40 hf
          refine lv_iconst (v := 1) X.hx X.hb dX8_isAhead_43 (by decide) ?_
          refine lv_goto (tgt := 48) X.hx X.hb dX8_isAhead_44 (by decide) ?_
          exact rt_z X hr hlk hW hS (Or.inr rfl) (Option.some.inj hf) (Nat.le_refl _) (Nat.le_refl _) dX8_isAhead_48
noncomputable def f_X8_isAhead (st : St) (a1 : Int32) (a2 : Int32) : Option Int32 := f_X8_isAhead_L2 st FU a1 a2 0
set_option maxRecDepth 100000 in
theorem w_X8_isAhead (l : Launch) (V : Ev) (A : Nat → Prop) (ad : Nat → Nat) {st : St} {a1 : Int32} {a2 : Int32} {res : Int32} (hf : f_X8_isAhead st a1 a2 = some res) : Cn l yX8_isAhead cX8_isAhead 5 (some .boolean) 0 0 0 0 V A (WdM V ad A) st [.ref (ad 0), .int a1, .int a2] (Qwi A (WdM V ad A) res st) := by
  refine cn_of RX8 (by decide) rfl (fun p e s m below meth c ls X hr hlk hW hS hl => ?_) (Nat.le_of_ble_eq_true rfl)
  have hl : lv_has ls 5 [(0, .ref (ad 0)), (1, .int a1), (2, .int a2)] := hl
  unfold f_X8_isAhead at hf
  refine lv_iconst (v := 0) X.hx X.hb dX8_isAhead_0 (by decide) ?_
  refine lv_istore_n (lv' := [(3, .int 0), (0, .ref (ad 0)), (1, .int a1), (2, .int a2)]) X.hx X.hb dX8_isAhead_1 rfl hl (by decide) rfl (fun ls hl => ?_)
  exact f_X8_isAhead_L2_w X hr hlk FU _ _ _ _ _ _  hf hW hS (lv_sub hl [1, 2, 3, 0] rfl)
-- WordSquaresModel.move
noncomputable def f_X8_move_L14 : Nat → St → Int32 → Int32 → Int32 → Option St
  | 0, _, _, _, _ => none
  | fu + 1, st, x1, x2, x3 => if 4 ≤ x3 then some st else if inb ((4 * x1) + x3) 48 = true then if inb ((4 * x2) + x3) 48 = true then lt (sA st 1 ((4 * x2) + x3).toNatClampNeg (st.2.1 1 ((4 * x1) + x3).toNatClampNeg)) fun s38 => lt (x3 + 1) fun w39 => (f_X8_move_L14 fu) s38 x1 x2 w39 else none else none
set_option maxRecDepth 100000 in
theorem f_X8_move_L14_w {res : St} (X : Cx V A cX8_move 4 RX8 p m c s args) (hr : meth.sig.returnType = none) (hlk : meth.locks = false)  : ∀ (n9 : Nat) (st : St) (x1 : Int32) (x2 : Int32) (x3 : Int32) (H : Heap) (locs : List Loc) (ls : Array Slot), f_X8_move_L14 n9 st x1 x2 x3 = some res → (WdM V ad A) st H → va_S A s.heap H locs → lv_has ls 4 [(0, .ref (ad 0)), (1, .int x1), (2, .int x2), (3, .int x3)] → W p l e (rmF 0 0 0 0) s m args below meth c H locs 0 0 (MQ below (Qwv A (WdM V ad A) res) args s 0 0 A) (F0 m 14 ls []) := by
  intro n9
  induction n9 with
  | zero =>
    intro st x1 x2 x3 H locs ls hf
    exact absurd hf (by unfold f_X8_move_L14; exact fun h => by cases h)
  | succ n9 hr14 =>
    intro st x1 x2 x3 H locs ls hf hW hS hl
    
    unfold f_X8_move_L14 at hf
    refine lv_iload_n X.hx X.hb dX8_move_14 rfl (lv_at hl 3 rfl) ?_
    refine lv_iconst (v := 4) X.hx X.hb dX8_move_15 (by decide) ?_
    refine lv_icmp_ge (tgt := 45) X.hx X.hb dX8_move_16 (by decide) (fun c16 => ?_) (fun c16 => ?_)
    · replace hf := ite_t c16 hf
      exact rt_v X hr hlk (by rw [← Option.some.inj hf]; exact hW) hS (Nat.le_refl _) (Nat.le_refl _) dX8_move_45
    · replace hf := ite_f c16 hf
      refine lv_aload_n X.hx X.hb dX8_move_19 rfl (lv_at hl 0 rfl) ?_
      refine gX8_letters X hW dX8_move_20 ?_
      refine lv_iconst (v := 4) X.hx X.hb dX8_move_23 (by decide) ?_
      refine lv_iload_n X.hx X.hb dX8_move_24 rfl (lv_at hl 2 rfl) ?_
      refine lv_imul X.hx X.hb dX8_move_25 ?_
      refine lv_iload_n X.hx X.hb dX8_move_26 rfl (lv_at hl 3 rfl) ?_
      refine lv_iadd X.hx X.hb dX8_move_27 ?_
      refine lv_aload_n X.hx X.hb dX8_move_28 rfl (lv_at hl 0 rfl) ?_
      refine gX8_letters X hW dX8_move_29 ?_
      refine lv_iconst (v := 4) X.hx X.hb dX8_move_32 (by decide) ?_
      refine lv_iload_n X.hx X.hb dX8_move_33 rfl (lv_at hl 1 rfl) ?_
      refine lv_imul X.hx X.hb dX8_move_34 ?_
      refine lv_iload_n X.hx X.hb dX8_move_35 rfl (lv_at hl 3 rfl) ?_
      refine lv_iadd X.hx X.hb dX8_move_36 ?_
      obtain ⟨h37, hf⟩ := ite_n hf
      refine aM_ld X hW isM_1 rfl h37 dX8_move_37 ?_
      obtain ⟨h38, hf⟩ := ite_n hf
      obtain ⟨s38, e38, hf⟩ := lt_e hf
      refine aM_st X hW hS isM_1 rfl h38 dX8_move_38 (fun H locs hW hS => ?_)
      rw [← e38] at hW
      obtain ⟨w39, e39, hf⟩ := lt_e hf
      refine lv_iinc (v := w39) (lv' := [(3, .int w39), (0, .ref (ad 0)), (1, .int x1), (2, .int x2)]) X.hx X.hb dX8_move_39 hl (k := 3) rfl (by rw [e39]; rfl) (by decide) rfl (fun ls hl => ?_)
      refine lv_goto (tgt := 14) X.hx X.hb dX8_move_42 (by decide) ?_
      exact hr14 _ _ _ _ _ _ _  hf hW hS (lv_sub hl [1, 2, 3, 0] rfl)
noncomputable def f_X8_move (st : St) (a1 : Int32) (a2 : Int32) : Option St := if inb a1 12 = true then if inb a2 12 = true then lt (sA st 2 a2.toNatClampNeg (st.2.1 2 a1.toNatClampNeg)) fun s11 => f_X8_move_L14 FU s11 a1 a2 0 else none else none
set_option maxRecDepth 100000 in
theorem w_X8_move (l : Launch) (V : Ev) (A : Nat → Prop) (ad : Nat → Nat) {st : St} {a1 : Int32} {a2 : Int32} {res : St} (hf : f_X8_move st a1 a2 = some res) : Cn l yX8_move cX8_move 4 none 0 0 0 0 V A (WdM V ad A) st [.ref (ad 0), .int a1, .int a2] (Qwv A (WdM V ad A) res) := by
  refine cn_of RX8 (by decide) rfl (fun p e s m below meth c ls X hr hlk hW hS hl => ?_) (Nat.le_of_ble_eq_true rfl)
  have hl : lv_has ls 4 [(0, .ref (ad 0)), (1, .int a1), (2, .int a2)] := hl
  unfold f_X8_move at hf
  refine lv_aload_n X.hx X.hb dX8_move_0 rfl (lv_at hl 0 rfl) ?_
  refine gX8_weights X hW dX8_move_1 ?_
  refine lv_iload_n X.hx X.hb dX8_move_4 rfl (lv_at hl 2 rfl) ?_
  refine lv_aload_n X.hx X.hb dX8_move_5 rfl (lv_at hl 0 rfl) ?_
  refine gX8_weights X hW dX8_move_6 ?_
  refine lv_iload_n X.hx X.hb dX8_move_9 rfl (lv_at hl 1 rfl) ?_
  obtain ⟨h10, hf⟩ := ite_n hf
  refine aM_ld X hW isM_2 rfl h10 dX8_move_10 ?_
  obtain ⟨h11, hf⟩ := ite_n hf
  obtain ⟨s11, e11, hf⟩ := lt_e hf
  refine aM_st X hW hS isM_2 rfl h11 dX8_move_11 (fun H locs hW hS => ?_)
  rw [← e11] at hW
  refine lv_iconst (v := 0) X.hx X.hb dX8_move_12 (by decide) ?_
  refine lv_istore_n (lv' := [(3, .int 0), (0, .ref (ad 0)), (1, .int a1), (2, .int a2)]) X.hx X.hb dX8_move_13 rfl hl (by decide) rfl (fun ls hl => ?_)
  exact f_X8_move_L14_w X hr hlk FU _ _ _ _ _ _ _  hf hW hS (lv_sub hl [1, 2, 3, 0] rfl)
-- WordSquaresModel.comes
noncomputable def f_X8_comes_L43 : Nat → St → Int32 → Int32 → Int32 → Option St
  | 0, _, _, _, _ => none
  | fu + 1, st, x1, x2, x3 => if 4 ≤ x3 then lt (sI st 1 ((st.1 1) + 1)) fun s81 => some s81 else if inb ((4 * x1) + x3) 48 = true then if inb ((4 * x2) + x3) 48 = true then lt (sA st 1 ((4 * x2) + x3).toNatClampNeg (st.2.1 5 ((4 * x1) + x3).toNatClampNeg)) fun s67 => lt (x3 + 1) fun w68 => (f_X8_comes_L43 fu) s67 x1 x2 w68 else none else none
set_option maxRecDepth 100000 in
theorem f_X8_comes_L43_w {res : St} (X : Cx V A cX8_comes 4 RX8 p m c s args) (hr : meth.sig.returnType = none) (hlk : meth.locks = false)  : ∀ (n9 : Nat) (st : St) (x1 : Int32) (x2 : Int32) (x3 : Int32) (H : Heap) (locs : List Loc) (ls : Array Slot), f_X8_comes_L43 n9 st x1 x2 x3 = some res → (WdM V ad A) st H → va_S A s.heap H locs → lv_has ls 4 [(0, .ref (ad 0)), (1, .int x1), (2, .int x2), (3, .int x3)] → W p l e (rmF 1 24 0 0) s m args below meth c H locs 0 0 (MQ below (Qwv A (WdM V ad A) res) args s 0 0 A) (F0 m 43 ls []) := by
  intro n9
  induction n9 with
  | zero =>
    intro st x1 x2 x3 H locs ls hf
    exact absurd hf (by unfold f_X8_comes_L43; exact fun h => by cases h)
  | succ n9 hr43 =>
    intro st x1 x2 x3 H locs ls hf hW hS hl
    
    unfold f_X8_comes_L43 at hf
    refine lv_iload_n X.hx X.hb dX8_comes_43 rfl (lv_at hl 3 rfl) ?_
    refine lv_iconst (v := 4) X.hx X.hb dX8_comes_44 (by decide) ?_
    refine lv_icmp_ge (tgt := 74) X.hx X.hb dX8_comes_45 (by decide) (fun c45 => ?_) (fun c45 => ?_)
    · replace hf := ite_t c45 hf
      refine lv_aload_n X.hx X.hb dX8_comes_74 rfl (lv_at hl 0 rfl) ?_
      refine lv_dup X.hx X.hb dX8_comes_75 rfl ?_
      refine gX8_words X hW dX8_comes_76 ?_
      refine lv_iconst (v := 1) X.hx X.hb dX8_comes_79 (by decide) ?_
      refine lv_iadd X.hx X.hb dX8_comes_80 ?_
      obtain ⟨s81, e81, hf⟩ := lt_e hf
      refine pX8_words X hW hS dX8_comes_81 (fun H locs hW hS => ?_)
      rw [← e81] at hW
      exact rt_v X hr hlk (by rw [← Option.some.inj hf]; exact hW) hS (Nat.le_refl _) (Nat.le_refl _) dX8_comes_84
    · replace hf := ite_f c45 hf
      refine lv_aload_n X.hx X.hb dX8_comes_48 rfl (lv_at hl 0 rfl) ?_
      refine gX8_letters X hW dX8_comes_49 ?_
      refine lv_iconst (v := 4) X.hx X.hb dX8_comes_52 (by decide) ?_
      refine lv_iload_n X.hx X.hb dX8_comes_53 rfl (lv_at hl 2 rfl) ?_
      refine lv_imul X.hx X.hb dX8_comes_54 ?_
      refine lv_iload_n X.hx X.hb dX8_comes_55 rfl (lv_at hl 3 rfl) ?_
      refine lv_iadd X.hx X.hb dX8_comes_56 ?_
      refine lv_aload_n X.hx X.hb dX8_comes_57 rfl (lv_at hl 0 rfl) ?_
      refine gX8_newLetters X hW dX8_comes_58 ?_
      refine lv_iconst (v := 4) X.hx X.hb dX8_comes_61 (by decide) ?_
      refine lv_iload_n X.hx X.hb dX8_comes_62 rfl (lv_at hl 1 rfl) ?_
      refine lv_imul X.hx X.hb dX8_comes_63 ?_
      refine lv_iload_n X.hx X.hb dX8_comes_64 rfl (lv_at hl 3 rfl) ?_
      refine lv_iadd X.hx X.hb dX8_comes_65 ?_
      obtain ⟨h66, hf⟩ := ite_n hf
      refine aM_ld X hW isM_5 rfl h66 dX8_comes_66 ?_
      obtain ⟨h67, hf⟩ := ite_n hf
      obtain ⟨s67, e67, hf⟩ := lt_e hf
      refine aM_st X hW hS isM_1 rfl h67 dX8_comes_67 (fun H locs hW hS => ?_)
      rw [← e67] at hW
      obtain ⟨w68, e68, hf⟩ := lt_e hf
      refine lv_iinc (v := w68) (lv' := [(3, .int w68), (0, .ref (ad 0)), (1, .int x1), (2, .int x2)]) X.hx X.hb dX8_comes_68 hl (k := 3) rfl (by rw [e68]; rfl) (by decide) rfl (fun ls hl => ?_)
      refine lv_goto (tgt := 43) X.hx X.hb dX8_comes_71 (by decide) ?_
      exact hr43 _ _ _ _ _ _ _  hf hW hS (lv_sub hl [1, 2, 3, 0] rfl)
noncomputable def f_X8_comes_J34 (st : St) (x1 : Int32) (x2 : Int32) : Option St := if inb x2 12 = true then lt (sA st 2 x2.toNatClampNeg 1) fun s40 => f_X8_comes_L43 FU s40 x1 x2 0 else none
set_option maxRecDepth 100000 in
theorem f_X8_comes_J34_w {res : St} (X : Cx V A cX8_comes 4 RX8 p m c s args) (hr : meth.sig.returnType = none) (hlk : meth.locks = false)  (st : St) (x1 : Int32) (x2 : Int32) (H : Heap) (locs : List Loc) (ls : Array Slot)  (hf : f_X8_comes_J34 st x1 x2 = some res) (hW : (WdM V ad A) st H) (hS : va_S A s.heap H locs) (hl : lv_has ls 4 [(0, .ref (ad 0)), (1, .int x1), (2, .int x2)]) : W p l e (rmF 1 24 0 0) s m args below meth c H locs 0 0 (MQ below (Qwv A (WdM V ad A) res) args s 0 0 A) (F0 m 34 ls []) := by
  
  unfold f_X8_comes_J34 at hf
  refine lv_aload_n X.hx X.hb dX8_comes_34 rfl (lv_at hl 0 rfl) ?_
  refine gX8_weights X hW dX8_comes_35 ?_
  refine lv_iload_n X.hx X.hb dX8_comes_38 rfl (lv_at hl 2 rfl) ?_
  refine lv_iconst (v := 1) X.hx X.hb dX8_comes_39 (by decide) ?_
  obtain ⟨h40, hf⟩ := ite_n hf
  obtain ⟨s40, e40, hf⟩ := lt_e hf
  refine aM_st X hW hS isM_2 rfl h40 dX8_comes_40 (fun H locs hW hS => ?_)
  rw [← e40] at hW
  refine lv_iconst (v := 0) X.hx X.hb dX8_comes_41 (by decide) ?_
  refine lv_istore_n (lv' := [(3, .int 0), (0, .ref (ad 0)), (1, .int x1), (2, .int x2)]) X.hx X.hb dX8_comes_42 rfl hl (by decide) rfl (fun ls hl => ?_)
  exact f_X8_comes_L43_w X hr hlk FU _ _ _ _ _ _ _  hf hW hS (lv_sub hl [1, 2, 3, 0] rfl)
noncomputable def f_X8_comes_L5 : Nat → St → Int32 → Int32 → Option St
  | 0, _, _, _ => none
  | fu + 1, st, x1, x2 => if x2 ≤ 0 then f_X8_comes_J34 st x1 x2 else (f_X8_isAhead st x1 (x2 - 1)).bind fun b14 => if b14 = 0 then f_X8_comes_J34 st x1 x2 else (f_X8_move st (x2 - 1) x2).bind fun b25 => lt (x2 + (-1)) fun w28 => (f_X8_comes_L5 fu) b25 x1 w28
set_option maxRecDepth 100000 in
theorem f_X8_comes_L5_w {res : St} (X : Cx V A cX8_comes 4 RX8 p m c s args) (hr : meth.sig.returnType = none) (hlk : meth.locks = false)  : ∀ (n9 : Nat) (st : St) (x1 : Int32) (x2 : Int32) (H : Heap) (locs : List Loc) (ls : Array Slot), f_X8_comes_L5 n9 st x1 x2 = some res → (WdM V ad A) st H → va_S A s.heap H locs → lv_has ls 4 [(0, .ref (ad 0)), (1, .int x1), (2, .int x2)] → W p l e (rmF 1 24 0 0) s m args below meth c H locs 0 0 (MQ below (Qwv A (WdM V ad A) res) args s 0 0 A) (F0 m 5 ls []) := by
  intro n9
  induction n9 with
  | zero =>
    intro st x1 x2 H locs ls hf
    exact absurd hf (by unfold f_X8_comes_L5; exact fun h => by cases h)
  | succ n9 hr5 =>
    intro st x1 x2 H locs ls hf hW hS hl
    
    unfold f_X8_comes_L5 at hf
    refine lv_iload_n X.hx X.hb dX8_comes_5 rfl (lv_at hl 2 rfl) ?_
    refine lv_if_le (tgt := 34) X.hx X.hb dX8_comes_6 (by decide) (fun c6 => ?_) (fun c6 => ?_)
    · replace hf := ite_t c6 hf
      exact f_X8_comes_J34_w X hr hlk _ _ _ _ _ _  hf hW hS (lv_sub hl [0, 1, 2] rfl)
    · replace hf := ite_f c6 hf
      refine lv_aload_n X.hx X.hb dX8_comes_9 rfl (lv_at hl 0 rfl) ?_
      refine lv_iload_n X.hx X.hb dX8_comes_10 rfl (lv_at hl 1 rfl) ?_
      refine lv_iload_n X.hx X.hb dX8_comes_11 rfl (lv_at hl 2 rfl) ?_
      refine lv_iconst (v := 1) X.hx X.hb dX8_comes_12 (by decide) ?_
      refine lv_isub X.hx X.hb dX8_comes_13 ?_
      obtain ⟨b14, h14, hf⟩ := bnd hf
      refine cl_i (run_V (As := [.int x1, .int (x2 - 1)]) (rest := []) X (w_X8_isAhead l V A ad h14) mw_X8_isAhead ln_X8_103 (rcX8 X hW) hW hS rfl hl.1 rfl (Nat.le_of_ble_eq_true rfl) ⟨Nat.le_of_ble_eq_true rfl, Nat.le_of_ble_eq_true rfl⟩ ⟨Nat.le_refl _, Nat.le_refl _⟩ dX8_comes_14) hS (fun H locs hW hS => ?_)
      refine lv_if_eq (tgt := 34) X.hx X.hb dX8_comes_17 (by decide) (fun c17 => ?_) (fun c17 => ?_)
      · replace hf := ite_t c17 hf
        exact f_X8_comes_J34_w X hr hlk _ _ _ _ _ _  hf hW hS (lv_sub hl [0, 1, 2] rfl)
      · replace hf := ite_f c17 hf
        refine lv_aload_n X.hx X.hb dX8_comes_20 rfl (lv_at hl 0 rfl) ?_
        refine lv_iload_n X.hx X.hb dX8_comes_21 rfl (lv_at hl 2 rfl) ?_
        refine lv_iconst (v := 1) X.hx X.hb dX8_comes_22 (by decide) ?_
        refine lv_isub X.hx X.hb dX8_comes_23 ?_
        refine lv_iload_n X.hx X.hb dX8_comes_24 rfl (lv_at hl 2 rfl) ?_
        obtain ⟨b25, h25, hf⟩ := bnd hf
        refine cl_v (run_V (As := [.int (x2 - 1), .int x2]) (rest := []) X (w_X8_move l V A ad h25) mw_X8_move ln_X8_107 (rcX8 X hW) hW hS rfl hl.1 rfl (Nat.le_of_ble_eq_true rfl) ⟨Nat.le_of_ble_eq_true rfl, Nat.le_of_ble_eq_true rfl⟩ ⟨Nat.le_refl _, Nat.le_refl _⟩ dX8_comes_25) hS (fun H locs hW hS => ?_)
        obtain ⟨w28, e28, hf⟩ := lt_e hf
        refine lv_iinc (v := w28) (lv' := [(2, .int w28), (0, .ref (ad 0)), (1, .int x1)]) X.hx X.hb dX8_comes_28 hl (k := 2) rfl (by rw [e28]; rfl) (by decide) rfl (fun ls hl => ?_)
        refine lv_goto (tgt := 5) X.hx X.hb dX8_comes_31 (by decide) ?_
        exact hr5 _ _ _ _ _ _  hf hW hS (lv_sub hl [1, 2, 0] rfl)
noncomputable def f_X8_comes (st : St) (a1 : Int32) : Option St := lt (st.1 1) fun w4 => f_X8_comes_L5 FU st a1 w4
set_option maxRecDepth 100000 in
theorem w_X8_comes (l : Launch) (V : Ev) (A : Nat → Prop) (ad : Nat → Nat) {st : St} {a1 : Int32} {res : St} (hf : f_X8_comes st a1 = some res) : Cn l yX8_comes cX8_comes 4 none 1 24 0 0 V A (WdM V ad A) st [.ref (ad 0), .int a1] (Qwv A (WdM V ad A) res) := by
  refine cn_of RX8 (by decide) rfl (fun p e s m below meth c ls X hr hlk hW hS hl => ?_) (Nat.le_of_ble_eq_true rfl)
  have hl : lv_has ls 4 [(0, .ref (ad 0)), (1, .int a1)] := hl
  unfold f_X8_comes at hf
  refine lv_aload_n X.hx X.hb dX8_comes_0 rfl (lv_at hl 0 rfl) ?_
  refine gX8_words X hW dX8_comes_1 ?_
  obtain ⟨w4, e4, hf⟩ := lt_e hf
  refine lv_nm e4 ?_
  refine lv_istore_n (lv' := [(2, .int w4), (0, .ref (ad 0)), (1, .int a1)]) X.hx X.hb dX8_comes_4 rfl hl (by decide) rfl (fun ls hl => ?_)
  exact f_X8_comes_L5_w X hr hlk FU _ _ _ _ _ _  hf hW hS (lv_sub hl [1, 2, 0] rfl)
-- WordSquaresModel.isNew
noncomputable def f_X8_isNew_J55 (st : St) (r26 : Int32 → Int32 → Int32 → Option Int32) (x1 : Int32) (x3 : Int32) (t0 : Int32) : Option Int32 := lt (x3 + 1) fun w56 => r26 x1 t0 w56
set_option maxRecDepth 100000 in
theorem f_X8_isNew_J55_w {st : St} {r26 : Int32 → Int32 → Int32 → Option Int32} {res : Int32} (X : Cx V A cX8_isNew 4 RX8 p m c s args) (hr : meth.sig.returnType = (some .boolean)) (hlk : meth.locks = false) (hr26 : ∀ (x1 : Int32) (x2 : Int32) (x3 : Int32) (H : Heap) (locs : List Loc) (ls : Array Slot), r26 x1 x2 x3 = some res → (WdM V ad A) st H → va_S A s.heap H locs → lv_has ls 4 [(0, .ref (ad 0)), (1, .int x1), (2, .int x2), (3, .int x3)] → W p l e (rmF 1 25 0 0) s m args below meth c H locs 0 0 (MQ below (Qwi A (WdM V ad A) res st) args s 0 0 A) (F0 m 26 ls [])) (x1 : Int32) (x3 : Int32) (t0 : Int32) (H : Heap) (locs : List Loc) (ls : Array Slot)  (hf : f_X8_isNew_J55 st r26 x1 x3 t0 = some res) (hW : (WdM V ad A) st H) (hS : va_S A s.heap H locs) (hl : lv_has ls 4 [(0, .ref (ad 0)), (1, .int x1), (3, .int x3)]) : W p l e (rmF 1 25 0 0) s m args below meth c H locs 0 0 (MQ below (Qwi A (WdM V ad A) res st) args s 0 0 A) (F0 m 55 ls [.int t0]) := by
  
  unfold f_X8_isNew_J55 at hf
  refine lv_istore_n (lv' := [(2, .int t0), (0, .ref (ad 0)), (1, .int x1), (3, .int x3)]) X.hx X.hb dX8_isNew_55 rfl hl (by decide) rfl (fun ls hl => ?_)
  obtain ⟨w56, e56, hf⟩ := lt_e hf
  refine lv_iinc (v := w56) (lv' := [(3, .int w56), (2, .int t0), (0, .ref (ad 0)), (1, .int x1)]) X.hx X.hb dX8_isNew_56 hl (k := 3) rfl (by rw [e56]; rfl) (by decide) rfl (fun ls hl => ?_)
  refine lv_goto (tgt := 26) X.hx X.hb dX8_isNew_59 (by decide) ?_
  exact hr26 _ _ _ _ _ _  hf hW hS (lv_sub hl [2, 3, 1, 0] rfl)
noncomputable def f_X8_isNew_J50 (st : St) (r26 : Int32 → Int32 → Int32 → Option Int32) (x1 : Int32) (x3 : Int32) : Option Int32 := f_X8_isNew_J55 st r26 x1 x3 1
set_option maxRecDepth 100000 in
theorem f_X8_isNew_J50_w {st : St} {r26 : Int32 → Int32 → Int32 → Option Int32} {res : Int32} (X : Cx V A cX8_isNew 4 RX8 p m c s args) (hr : meth.sig.returnType = (some .boolean)) (hlk : meth.locks = false) (hr26 : ∀ (x1 : Int32) (x2 : Int32) (x3 : Int32) (H : Heap) (locs : List Loc) (ls : Array Slot), r26 x1 x2 x3 = some res → (WdM V ad A) st H → va_S A s.heap H locs → lv_has ls 4 [(0, .ref (ad 0)), (1, .int x1), (2, .int x2), (3, .int x3)] → W p l e (rmF 1 25 0 0) s m args below meth c H locs 0 0 (MQ below (Qwi A (WdM V ad A) res st) args s 0 0 A) (F0 m 26 ls [])) (x1 : Int32) (x3 : Int32) (H : Heap) (locs : List Loc) (ls : Array Slot)  (hf : f_X8_isNew_J50 st r26 x1 x3 = some res) (hW : (WdM V ad A) st H) (hS : va_S A s.heap H locs) (hl : lv_has ls 4 [(0, .ref (ad 0)), (1, .int x1), (3, .int x3)]) : W p l e (rmF 1 25 0 0) s m args below meth c H locs 0 0 (MQ below (Qwi A (WdM V ad A) res st) args s 0 0 A) (F0 m 50 ls []) := by
  
  unfold f_X8_isNew_J50 at hf
  refine lv_iconst (v := 1) X.hx X.hb dX8_isNew_50 (by decide) ?_
  refine lv_goto (tgt := 55) X.hx X.hb dX8_isNew_51 (by decide) ?_
  exact f_X8_isNew_J55_w X hr hlk hr26 _ _ _ _ _ _  hf hW hS (lv_sub hl [0, 1, 2] rfl)
noncomputable def f_X8_isNew_J54 (st : St) (r26 : Int32 → Int32 → Int32 → Option Int32) (x1 : Int32) (x3 : Int32) : Option Int32 := f_X8_isNew_J55 st r26 x1 x3 0
set_option maxRecDepth 100000 in
theorem f_X8_isNew_J54_w {st : St} {r26 : Int32 → Int32 → Int32 → Option Int32} {res : Int32} (X : Cx V A cX8_isNew 4 RX8 p m c s args) (hr : meth.sig.returnType = (some .boolean)) (hlk : meth.locks = false) (hr26 : ∀ (x1 : Int32) (x2 : Int32) (x3 : Int32) (H : Heap) (locs : List Loc) (ls : Array Slot), r26 x1 x2 x3 = some res → (WdM V ad A) st H → va_S A s.heap H locs → lv_has ls 4 [(0, .ref (ad 0)), (1, .int x1), (2, .int x2), (3, .int x3)] → W p l e (rmF 1 25 0 0) s m args below meth c H locs 0 0 (MQ below (Qwi A (WdM V ad A) res st) args s 0 0 A) (F0 m 26 ls [])) (x1 : Int32) (x3 : Int32) (H : Heap) (locs : List Loc) (ls : Array Slot)  (hf : f_X8_isNew_J54 st r26 x1 x3 = some res) (hW : (WdM V ad A) st H) (hS : va_S A s.heap H locs) (hl : lv_has ls 4 [(0, .ref (ad 0)), (1, .int x1), (3, .int x3)]) : W p l e (rmF 1 25 0 0) s m args below meth c H locs 0 0 (MQ below (Qwi A (WdM V ad A) res st) args s 0 0 A) (F0 m 54 ls []) := by
  
  unfold f_X8_isNew_J54 at hf
  refine lv_iconst (v := 0) X.hx X.hb dX8_isNew_54 (by decide) ?_
  exact f_X8_isNew_J55_w X hr hlk hr26 _ _ _ _ _ _  hf hW hS (lv_sub hl [0, 1, 2] rfl)
noncomputable def f_X8_isNew_L26 (st : St) : Nat → Int32 → Int32 → Int32 → Option Int32
  | 0, _, _, _ => none
  | fu + 1, x1, x2, x3 => if x1 ≤ x3 then if x2 = 0 ∨ x2 = 1 then some x2 else none else if x2 = 0 then f_X8_isNew_J54 st ((f_X8_isNew_L26 st fu)) x1 x3 else if (st.1 1) = 0 then f_X8_isNew_J50 st ((f_X8_isNew_L26 st fu)) x1 x3 else (f_X8_isThere st x3).bind fun b44 => if b44 = 0 then f_X8_isNew_J50 st ((f_X8_isNew_L26 st fu)) x1 x3 else f_X8_isNew_J54 st ((f_X8_isNew_L26 st fu)) x1 x3
set_option maxRecDepth 100000 in
theorem f_X8_isNew_L26_w {st : St} {res : Int32} (X : Cx V A cX8_isNew 4 RX8 p m c s args) (hr : meth.sig.returnType = (some .boolean)) (hlk : meth.locks = false)  : ∀ (n9 : Nat) (x1 : Int32) (x2 : Int32) (x3 : Int32) (H : Heap) (locs : List Loc) (ls : Array Slot), f_X8_isNew_L26 st n9 x1 x2 x3 = some res → (WdM V ad A) st H → va_S A s.heap H locs → lv_has ls 4 [(0, .ref (ad 0)), (1, .int x1), (2, .int x2), (3, .int x3)] → W p l e (rmF 1 25 0 0) s m args below meth c H locs 0 0 (MQ below (Qwi A (WdM V ad A) res st) args s 0 0 A) (F0 m 26 ls []) := by
  intro n9
  induction n9 with
  | zero =>
    intro x1 x2 x3 H locs ls hf
    exact absurd hf (by unfold f_X8_isNew_L26; exact fun h => by cases h)
  | succ n9 hr26 =>
    intro x1 x2 x3 H locs ls hf hW hS hl
    
    unfold f_X8_isNew_L26 at hf
    refine lv_iload_n X.hx X.hb dX8_isNew_26 rfl (lv_at hl 3 rfl) ?_
    refine lv_iload_n X.hx X.hb dX8_isNew_27 rfl (lv_at hl 1 rfl) ?_
    refine lv_icmp_ge (tgt := 62) X.hx X.hb dX8_isNew_28 (by decide) (fun c28 => ?_) (fun c28 => ?_)
    · replace hf := ite_t c28 hf
      refine lv_iload_n X.hx X.hb dX8_isNew_62 rfl (lv_at hl 2 rfl) ?_
      obtain ⟨h63, hf⟩ := ite_n hf
      exact rt_z X hr hlk hW hS h63 (Option.some.inj hf) (Nat.le_refl _) (Nat.le_refl _) dX8_isNew_63
    · replace hf := ite_f c28 hf
      refine lv_iload_n X.hx X.hb dX8_isNew_31 rfl (lv_at hl 2 rfl) ?_
      refine lv_if_eq (tgt := 54) X.hx X.hb dX8_isNew_32 (by decide) (fun c32 => ?_) (fun c32 => ?_)
      · replace hf := ite_t c32 hf
        exact f_X8_isNew_J54_w X hr hlk hr26 _ _ _ _ _  hf hW hS (lv_sub hl [0, 1, 3] rfl)
      · replace hf := ite_f c32 hf
        refine lv_aload_n X.hx X.hb dX8_isNew_35 rfl (lv_at hl 0 rfl) ?_
        refine gX8_words X hW dX8_isNew_36 ?_
        refine lv_if_eq (tgt := 50) X.hx X.hb dX8_isNew_39 (by decide) (fun c39 => ?_) (fun c39 => ?_)
        · replace hf := ite_t c39 hf
          exact f_X8_isNew_J50_w X hr hlk hr26 _ _ _ _ _  hf hW hS (lv_sub hl [0, 1, 3] rfl)
        · replace hf := ite_f c39 hf
          refine lv_aload_n X.hx X.hb dX8_isNew_42 rfl (lv_at hl 0 rfl) ?_
          refine lv_iload_n X.hx X.hb dX8_isNew_43 rfl (lv_at hl 3 rfl) ?_
          obtain ⟨b44, h44, hf⟩ := bnd hf
          refine cl_i (run_V (As := [.int x3]) (rest := []) X (w_X8_isThere l V A ad h44) mw_X8_isThere ln_X8_111 (rcX8 X hW) hW hS rfl hl.1 rfl (Nat.le_of_ble_eq_true rfl) ⟨Nat.le_of_ble_eq_true rfl, Nat.le_of_ble_eq_true rfl⟩ ⟨Nat.le_refl _, Nat.le_refl _⟩ dX8_isNew_44) hS (fun H locs hW hS => ?_)
          refine lv_if_ne (tgt := 54) X.hx X.hb dX8_isNew_47 (by decide) (fun c47 => ?_) (fun c47 => ?_)
          · replace hf := ite_f c47 hf
            exact f_X8_isNew_J54_w X hr hlk hr26 _ _ _ _ _  hf hW hS (lv_sub hl [0, 1, 3] rfl)
          · replace hf := ite_t c47 hf
            exact f_X8_isNew_J50_w X hr hlk hr26 _ _ _ _ _  hf hW hS (lv_sub hl [0, 1, 3] rfl)
noncomputable def f_X8_isNew_J23 (st : St) (x1 : Int32) (t0 : Int32) : Option Int32 := f_X8_isNew_L26 st FU x1 t0 0
set_option maxRecDepth 100000 in
theorem f_X8_isNew_J23_w {st : St} {res : Int32} (X : Cx V A cX8_isNew 4 RX8 p m c s args) (hr : meth.sig.returnType = (some .boolean)) (hlk : meth.locks = false)  (x1 : Int32) (t0 : Int32) (H : Heap) (locs : List Loc) (ls : Array Slot)  (hf : f_X8_isNew_J23 st x1 t0 = some res) (hW : (WdM V ad A) st H) (hS : va_S A s.heap H locs) (hl : lv_has ls 4 [(0, .ref (ad 0)), (1, .int x1)]) : W p l e (rmF 1 25 0 0) s m args below meth c H locs 0 0 (MQ below (Qwi A (WdM V ad A) res st) args s 0 0 A) (F0 m 23 ls [.int t0]) := by
  
  unfold f_X8_isNew_J23 at hf
  refine lv_istore_n (lv' := [(2, .int t0), (0, .ref (ad 0)), (1, .int x1)]) X.hx X.hb dX8_isNew_23 rfl hl (by decide) rfl (fun ls hl => ?_)
  refine lv_iconst (v := 0) X.hx X.hb dX8_isNew_24 (by decide) ?_
  refine lv_istore_n (lv' := [(3, .int 0), (2, .int t0), (0, .ref (ad 0)), (1, .int x1)]) X.hx X.hb dX8_isNew_25 rfl hl (by decide) rfl (fun ls hl => ?_)
  exact f_X8_isNew_L26_w X hr hlk FU _ _ _ _ _ _  hf hW hS (lv_sub hl [2, 3, 1, 0] rfl)
noncomputable def f_X8_isNew_J18 (st : St) (x1 : Int32) : Option Int32 := f_X8_isNew_J23 st x1 1
set_option maxRecDepth 100000 in
theorem f_X8_isNew_J18_w {st : St} {res : Int32} (X : Cx V A cX8_isNew 4 RX8 p m c s args) (hr : meth.sig.returnType = (some .boolean)) (hlk : meth.locks = false)  (x1 : Int32) (H : Heap) (locs : List Loc) (ls : Array Slot)  (hf : f_X8_isNew_J18 st x1 = some res) (hW : (WdM V ad A) st H) (hS : va_S A s.heap H locs) (hl : lv_has ls 4 [(0, .ref (ad 0)), (1, .int x1)]) : W p l e (rmF 1 25 0 0) s m args below meth c H locs 0 0 (MQ below (Qwi A (WdM V ad A) res st) args s 0 0 A) (F0 m 18 ls []) := by
  
  unfold f_X8_isNew_J18 at hf
  refine lv_iconst (v := 1) X.hx X.hb dX8_isNew_18 (by decide) ?_
  refine lv_goto (tgt := 23) X.hx X.hb dX8_isNew_19 (by decide) ?_
  exact f_X8_isNew_J23_w X hr hlk _ _ _ _ _  hf hW hS (lv_sub hl [0, 1] rfl)
noncomputable def f_X8_isNew (st : St) (a1 : Int32) : Option Int32 := if (st.1 1) = 0 then f_X8_isNew_J18 st a1 else if (st.1 6) = (st.1 0) then f_X8_isNew_J18 st a1 else f_X8_isNew_J23 st a1 0
set_option maxRecDepth 100000 in
theorem w_X8_isNew (l : Launch) (V : Ev) (A : Nat → Prop) (ad : Nat → Nat) {st : St} {a1 : Int32} {res : Int32} (hf : f_X8_isNew st a1 = some res) : Cn l yX8_isNew cX8_isNew 4 (some .boolean) 1 25 0 0 V A (WdM V ad A) st [.ref (ad 0), .int a1] (Qwi A (WdM V ad A) res st) := by
  refine cn_of RX8 (by decide) rfl (fun p e s m below meth c ls X hr hlk hW hS hl => ?_) (Nat.le_of_ble_eq_true rfl)
  have hl : lv_has ls 4 [(0, .ref (ad 0)), (1, .int a1)] := hl
  unfold f_X8_isNew at hf
  refine lv_aload_n X.hx X.hb dX8_isNew_0 rfl (lv_at hl 0 rfl) ?_
  refine gX8_words X hW dX8_isNew_1 ?_
  refine lv_if_eq (tgt := 18) X.hx X.hb dX8_isNew_4 (by decide) (fun c4 => ?_) (fun c4 => ?_)
  · replace hf := ite_t c4 hf
    exact f_X8_isNew_J18_w X hr hlk _ _ _ _  hf hW hS (lv_sub hl [0, 1] rfl)
  · replace hf := ite_f c4 hf
    refine lv_aload_n X.hx X.hb dX8_isNew_7 rfl (lv_at hl 0 rfl) ?_
    refine gX8_newAt X hW dX8_isNew_8 ?_
    refine lv_aload_n X.hx X.hb dX8_isNew_11 rfl (lv_at hl 0 rfl) ?_
    refine gX8_length X hW dX8_isNew_12 ?_
    refine lv_icmp_ne (tgt := 22) X.hx X.hb dX8_isNew_15 (by decide) (fun c15 => ?_) (fun c15 => ?_)
    · replace hf := ite_f c15 hf
      refine lv_iconst (v := 0) X.hx X.hb dX8_isNew_22 (by decide) ?_
      exact f_X8_isNew_J23_w X hr hlk _ _ _ _ _  hf hW hS (lv_sub hl [0, 1] rfl)
    · replace hf := ite_t c15 hf
      exact f_X8_isNew_J18_w X hr hlk _ _ _ _  hf hW hS (lv_sub hl [0, 1] rfl)
-- WordSquaresModel.words
noncomputable def f_X8_words_J62 (st : St) : Option (Int32 × St) := some ((-103), st)
set_option maxRecDepth 100000 in
theorem f_X8_words_J62_w {res : (Int32 × St)} (X : Cx V A cX8_words 4 RX8 p m c s args) (hr : meth.sig.returnType = (some .int)) (hlk : meth.locks = false)  (st : St) (H : Heap) (locs : List Loc) (ls : Array Slot)  (hf : f_X8_words_J62 st = some res) (hW : (WdM V ad A) st H) (hS : va_S A s.heap H locs) (hl : lv_has ls 4 []) : W p l e (rmF 3 66 0 0) s m args below meth c H locs 0 0 (MQ below (Qwi A (WdM V ad A) res.1 res.2) args s 0 0 A) (F0 m 62 ls []) := by
  
  unfold f_X8_words_J62 at hf
  refine lv_bipush (v := (-103)) X.hx X.hb dX8_words_62 (by decide) ?_
  exact rt_i X hr hlk (by rw [← Option.some.inj hf]; exact hW) hS (by rw [← Option.some.inj hf]) (Nat.le_refl _) (Nat.le_refl _) dX8_words_64
noncomputable def f_X8_words_L89 : Nat → St → Int32 → Int32 → Option (Int32 × St)
  | 0, _, _, _ => none
  | fu + 1, st, x2, x3 => if x2 ≤ x3 then (f_X8_clearBoard st).bind fun b106 => lt (sI b106 2 ((b106.1 2) + 1)) fun s116 => lt (sI s116 4 0) fun s121 => some (x2, s121) else (f_X8_comes st x3).bind fun b96 => lt (x3 + 1) fun w99 => (f_X8_words_L89 fu) b96 x2 w99
set_option maxRecDepth 100000 in
theorem f_X8_words_L89_w {res : (Int32 × St)} (X : Cx V A cX8_words 4 RX8 p m c s args) (hr : meth.sig.returnType = (some .int)) (hlk : meth.locks = false)  : ∀ (n9 : Nat) (st : St) (x2 : Int32) (x3 : Int32) (H : Heap) (locs : List Loc) (ls : Array Slot), f_X8_words_L89 n9 st x2 x3 = some res → (WdM V ad A) st H → va_S A s.heap H locs → lv_has ls 4 [(0, .ref (ad 0)), (2, .int x2), (3, .int x3)] → W p l e (rmF 3 66 0 0) s m args below meth c H locs 0 0 (MQ below (Qwi A (WdM V ad A) res.1 res.2) args s 0 0 A) (F0 m 89 ls []) := by
  intro n9
  induction n9 with
  | zero =>
    intro st x2 x3 H locs ls hf
    exact absurd hf (by unfold f_X8_words_L89; exact fun h => by cases h)
  | succ n9 hr89 =>
    intro st x2 x3 H locs ls hf hW hS hl
    
    unfold f_X8_words_L89 at hf
    refine lv_iload_n X.hx X.hb dX8_words_89 rfl (lv_at hl 2 rfl) ?_
    refine lv_iload_n X.hx X.hb dX8_words_90 rfl (lv_at hl 1 rfl) ?_
    refine lv_icmp_ge (tgt := 105) X.hx X.hb dX8_words_91 (by decide) (fun c91 => ?_) (fun c91 => ?_)
    · replace hf := ite_t c91 hf
      refine lv_aload_n X.hx X.hb dX8_words_105 rfl (lv_at hl 0 rfl) ?_
      obtain ⟨b106, h106, hf⟩ := bnd hf
      refine cl_v (run_V (As := []) (rest := []) X (w_X8_clearBoard l V A ad h106) mw_X8_clearBoard ln_X8_62 (rcX8 X hW) hW hS rfl hl.1 rfl (Nat.le_of_ble_eq_true rfl) ⟨Nat.le_of_ble_eq_true rfl, Nat.le_of_ble_eq_true rfl⟩ ⟨Nat.le_refl _, Nat.le_refl _⟩ dX8_words_106) hS (fun H locs hW hS => ?_)
      refine lv_aload_n X.hx X.hb dX8_words_109 rfl (lv_at hl 0 rfl) ?_
      refine lv_dup X.hx X.hb dX8_words_110 rfl ?_
      refine gX8_reads X hW dX8_words_111 ?_
      refine lv_iconst (v := 1) X.hx X.hb dX8_words_114 (by decide) ?_
      refine lv_iadd X.hx X.hb dX8_words_115 ?_
      obtain ⟨s116, e116, hf⟩ := lt_e hf
      refine pX8_reads X hW hS dX8_words_116 (fun H locs hW hS => ?_)
      rw [← e116] at hW
      refine lv_aload_n X.hx X.hb dX8_words_119 rfl (lv_at hl 0 rfl) ?_
      refine lv_iconst (v := 0) X.hx X.hb dX8_words_120 (by decide) ?_
      obtain ⟨s121, e121, hf⟩ := lt_e hf
      refine pX8_pageLength X hW hS dX8_words_121 (fun H locs hW hS => ?_)
      rw [← e121] at hW
      refine lv_iload_n X.hx X.hb dX8_words_124 rfl (lv_at hl 1 rfl) ?_
      exact rt_i X hr hlk (by rw [← Option.some.inj hf]; exact hW) hS (by rw [← Option.some.inj hf]) (Nat.le_refl _) (Nat.le_refl _) dX8_words_125
    · replace hf := ite_f c91 hf
      refine lv_aload_n X.hx X.hb dX8_words_94 rfl (lv_at hl 0 rfl) ?_
      refine lv_iload_n X.hx X.hb dX8_words_95 rfl (lv_at hl 2 rfl) ?_
      obtain ⟨b96, h96, hf⟩ := bnd hf
      refine cl_v (run_V (As := [.int x3]) (rest := []) X (w_X8_comes l V A ad h96) mw_X8_comes ln_X8_117 (rcX8 X hW) hW hS rfl hl.1 rfl (Nat.le_of_ble_eq_true rfl) ⟨Nat.le_of_ble_eq_true rfl, Nat.le_of_ble_eq_true rfl⟩ ⟨Nat.le_refl _, Nat.le_refl _⟩ dX8_words_96) hS (fun H locs hW hS => ?_)
      obtain ⟨w99, e99, hf⟩ := lt_e hf
      refine lv_iinc (v := w99) (lv' := [(3, .int w99), (0, .ref (ad 0)), (2, .int x2)]) X.hx X.hb dX8_words_99 hl (k := 2) rfl (by rw [e99]; rfl) (by decide) rfl (fun ls hl => ?_)
      refine lv_goto (tgt := 89) X.hx X.hb dX8_words_102 (by decide) ?_
      exact hr89 _ _ _ _ _ _  hf hW hS (lv_sub hl [1, 2, 0] rfl)
noncomputable def f_X8_words_J42 (st : St) (t0 : Int32) : Option (Int32 × St) := lt ((st.1 5) + 1) fun w49 => if t0 = 0 then f_X8_words_J62 st else (f_X8_isNew st w49).bind fun b56 => if b56 = 0 then f_X8_words_J62 st else if ((st.1 1) + w49) ≤ 12 then lt (sI st 0 (st.1 6)) fun s84 => f_X8_words_L89 FU s84 w49 0 else some ((-104), st)
set_option maxRecDepth 100000 in
theorem f_X8_words_J42_w {res : (Int32 × St)} (X : Cx V A cX8_words 4 RX8 p m c s args) (hr : meth.sig.returnType = (some .int)) (hlk : meth.locks = false)  (st : St) (t0 : Int32) (H : Heap) (locs : List Loc) (ls : Array Slot)  (hf : f_X8_words_J42 st t0 = some res) (hW : (WdM V ad A) st H) (hS : va_S A s.heap H locs) (hl : lv_has ls 4 [(0, .ref (ad 0))]) : W p l e (rmF 3 66 0 0) s m args below meth c H locs 0 0 (MQ below (Qwi A (WdM V ad A) res.1 res.2) args s 0 0 A) (F0 m 42 ls [.int t0]) := by
  
  unfold f_X8_words_J42 at hf
  refine lv_istore_n (lv' := [(1, .int t0), (0, .ref (ad 0))]) X.hx X.hb dX8_words_42 rfl hl (by decide) rfl (fun ls hl => ?_)
  refine lv_aload_n X.hx X.hb dX8_words_43 rfl (lv_at hl 1 rfl) ?_
  refine gX8_newWords X hW dX8_words_44 ?_
  refine lv_iconst (v := 1) X.hx X.hb dX8_words_47 (by decide) ?_
  refine lv_iadd X.hx X.hb dX8_words_48 ?_
  obtain ⟨w49, e49, hf⟩ := lt_e hf
  refine lv_nm e49 ?_
  refine lv_istore_n (lv' := [(2, .int w49), (1, .int t0), (0, .ref (ad 0))]) X.hx X.hb dX8_words_49 rfl hl (by decide) rfl (fun ls hl => ?_)
  refine lv_iload_n X.hx X.hb dX8_words_50 rfl (lv_at hl 1 rfl) ?_
  refine lv_if_eq (tgt := 62) X.hx X.hb dX8_words_51 (by decide) (fun c51 => ?_) (fun c51 => ?_)
  · replace hf := ite_t c51 hf
    exact f_X8_words_J62_w X hr hlk _ _ _ _  hf hW hS (lv_sub hl [] rfl)
  · replace hf := ite_f c51 hf
    refine lv_aload_n X.hx X.hb dX8_words_54 rfl (lv_at hl 2 rfl) ?_
    refine lv_iload_n X.hx X.hb dX8_words_55 rfl (lv_at hl 0 rfl) ?_
    obtain ⟨b56, h56, hf⟩ := bnd hf
    refine cl_i (run_V (As := [.int w49]) (rest := []) X (w_X8_isNew l V A ad h56) mw_X8_isNew ln_X8_114 (rcX8 X hW) hW hS rfl hl.1 rfl (Nat.le_of_ble_eq_true rfl) ⟨Nat.le_of_ble_eq_true rfl, Nat.le_of_ble_eq_true rfl⟩ ⟨Nat.le_refl _, Nat.le_refl _⟩ dX8_words_56) hS (fun H locs hW hS => ?_)
    refine lv_if_ne (tgt := 65) X.hx X.hb dX8_words_59 (by decide) (fun c59 => ?_) (fun c59 => ?_)
    · replace hf := ite_f c59 hf
      refine lv_aload_n X.hx X.hb dX8_words_65 rfl (lv_at hl 2 rfl) ?_
      refine gX8_words X hW dX8_words_66 ?_
      refine lv_iload_n X.hx X.hb dX8_words_69 rfl (lv_at hl 0 rfl) ?_
      refine lv_iadd X.hx X.hb dX8_words_70 ?_
      refine lv_bipush (v := 12) X.hx X.hb dX8_words_71 (by decide) ?_
      refine lv_icmp_le (tgt := 79) X.hx X.hb dX8_words_73 (by decide) (fun c73 => ?_) (fun c73 => ?_)
      · replace hf := ite_t c73 hf
        refine lv_aload_n X.hx X.hb dX8_words_79 rfl (lv_at hl 2 rfl) ?_
        refine lv_aload_n X.hx X.hb dX8_words_80 rfl (lv_at hl 2 rfl) ?_
        refine gX8_newAt X hW dX8_words_81 ?_
        obtain ⟨s84, e84, hf⟩ := lt_e hf
        refine pX8_length X hW hS dX8_words_84 (fun H locs hW hS => ?_)
        rw [← e84] at hW
        refine lv_iconst (v := 0) X.hx X.hb dX8_words_87 (by decide) ?_
        refine lv_istore_n (lv' := [(3, .int 0), (2, .int w49), (1, .int t0), (0, .ref (ad 0))]) X.hx X.hb dX8_words_88 rfl hl (by decide) rfl (fun ls hl => ?_)
        exact f_X8_words_L89_w X hr hlk FU _ _ _ _ _ _  hf hW hS (lv_sub hl [3, 1, 0] rfl)
      · replace hf := ite_f c73 hf
        refine lv_bipush (v := (-104)) X.hx X.hb dX8_words_76 (by decide) ?_
        exact rt_i X hr hlk (by rw [← Option.some.inj hf]; exact hW) hS (by rw [← Option.some.inj hf]) (Nat.le_refl _) (Nat.le_refl _) dX8_words_78
    · replace hf := ite_t c59 hf
      exact f_X8_words_J62_w X hr hlk _ _ _ _  hf hW hS (lv_sub hl [] rfl)
noncomputable def f_X8_words_J37 (st : St) : Option (Int32 × St) := f_X8_words_J42 st 1
set_option maxRecDepth 100000 in
theorem f_X8_words_J37_w {res : (Int32 × St)} (X : Cx V A cX8_words 4 RX8 p m c s args) (hr : meth.sig.returnType = (some .int)) (hlk : meth.locks = false)  (st : St) (H : Heap) (locs : List Loc) (ls : Array Slot)  (hf : f_X8_words_J37 st = some res) (hW : (WdM V ad A) st H) (hS : va_S A s.heap H locs) (hl : lv_has ls 4 [(0, .ref (ad 0))]) : W p l e (rmF 3 66 0 0) s m args below meth c H locs 0 0 (MQ below (Qwi A (WdM V ad A) res.1 res.2) args s 0 0 A) (F0 m 37 ls []) := by
  
  unfold f_X8_words_J37 at hf
  refine lv_iconst (v := 1) X.hx X.hb dX8_words_37 (by decide) ?_
  refine lv_goto (tgt := 42) X.hx X.hb dX8_words_38 (by decide) ?_
  exact f_X8_words_J42_w X hr hlk _ _ _ _ _  hf hW hS (lv_sub hl [0] rfl)
noncomputable def f_X8_words_J41 (st : St) : Option (Int32 × St) := f_X8_words_J42 st 0
set_option maxRecDepth 100000 in
theorem f_X8_words_J41_w {res : (Int32 × St)} (X : Cx V A cX8_words 4 RX8 p m c s args) (hr : meth.sig.returnType = (some .int)) (hlk : meth.locks = false)  (st : St) (H : Heap) (locs : List Loc) (ls : Array Slot)  (hf : f_X8_words_J41 st = some res) (hW : (WdM V ad A) st H) (hS : va_S A s.heap H locs) (hl : lv_has ls 4 [(0, .ref (ad 0))]) : W p l e (rmF 3 66 0 0) s m args below meth c H locs 0 0 (MQ below (Qwi A (WdM V ad A) res.1 res.2) args s 0 0 A) (F0 m 41 ls []) := by
  
  unfold f_X8_words_J41 at hf
  refine lv_iconst (v := 0) X.hx X.hb dX8_words_41 (by decide) ?_
  exact f_X8_words_J42_w X hr hlk _ _ _ _ _  hf hW hS (lv_sub hl [0] rfl)
noncomputable def f_X8_words (st : St) : Option (Int32 × St) := (f_X8_read st).bind fun b1 => if b1.1 = (b1.2.1 4) then if (b1.2.1 6) < 2 then f_X8_words_J41 b1.2 else if (b1.2.1 7) = 0 then f_X8_words_J37 b1.2 else if (b1.2.1 6) = (b1.2.1 7) then f_X8_words_J37 b1.2 else f_X8_words_J41 b1.2 else f_X8_words_J41 b1.2
set_option maxRecDepth 100000 in
theorem w_X8_words (l : Launch) (V : Ev) (A : Nat → Prop) (ad : Nat → Nat) {st : St} {res : (Int32 × St)} (hf : f_X8_words st = some res) : Cn l yX8_words cX8_words 4 (some .int) 3 66 0 0 V A (WdM V ad A) st [.ref (ad 0)] (Qwi A (WdM V ad A) res.1 res.2) := by
  refine cn_of RX8 (by decide) rfl (fun p e s m below meth c ls X hr hlk hW hS hl => ?_) (Nat.le_of_ble_eq_true rfl)
  have hl : lv_has ls 4 [(0, .ref (ad 0))] := hl
  unfold f_X8_words at hf
  refine lv_aload_n X.hx X.hb dX8_words_0 rfl (lv_at hl 0 rfl) ?_
  obtain ⟨b1, h1, hf⟩ := bnd hf
  refine cl_i (run_V (As := []) (rest := []) X (w_X8_read l V A ad h1) mw_X8_read ln_X8_93 (rcX8 X hW) hW hS rfl hl.1 rfl (Nat.le_of_ble_eq_true rfl) ⟨Nat.le_of_ble_eq_true rfl, Nat.le_of_ble_eq_true rfl⟩ ⟨Nat.le_refl _, Nat.le_refl _⟩ dX8_words_1) hS (fun H locs hW hS => ?_)
  refine lv_aload_n X.hx X.hb dX8_words_4 rfl (lv_at hl 0 rfl) ?_
  refine gX8_pageLength X hW dX8_words_5 ?_
  refine lv_icmp_ne (tgt := 41) X.hx X.hb dX8_words_8 (by decide) (fun c8 => ?_) (fun c8 => ?_)
  · replace hf := ite_f c8 hf
    exact f_X8_words_J41_w X hr hlk _ _ _ _  hf hW hS (lv_sub hl [0] rfl)
  · replace hf := ite_t c8 hf
    refine lv_aload_n X.hx X.hb dX8_words_11 rfl (lv_at hl 0 rfl) ?_
    refine gX8_newAt X hW dX8_words_12 ?_
    refine lv_iconst (v := 2) X.hx X.hb dX8_words_15 (by decide) ?_
    refine lv_icmp_lt (tgt := 41) X.hx X.hb dX8_words_16 (by decide) (fun c16 => ?_) (fun c16 => ?_)
    · replace hf := ite_t c16 hf
      exact f_X8_words_J41_w X hr hlk _ _ _ _  hf hW hS (lv_sub hl [0] rfl)
    · replace hf := ite_f c16 hf
      refine lv_aload_n X.hx X.hb dX8_words_19 rfl (lv_at hl 0 rfl) ?_
      refine gX8_newLength X hW dX8_words_20 ?_
      refine lv_if_eq (tgt := 37) X.hx X.hb dX8_words_23 (by decide) (fun c23 => ?_) (fun c23 => ?_)
      · replace hf := ite_t c23 hf
        exact f_X8_words_J37_w X hr hlk _ _ _ _  hf hW hS (lv_sub hl [0] rfl)
      · replace hf := ite_f c23 hf
        refine lv_aload_n X.hx X.hb dX8_words_26 rfl (lv_at hl 0 rfl) ?_
        refine gX8_newAt X hW dX8_words_27 ?_
        refine lv_aload_n X.hx X.hb dX8_words_30 rfl (lv_at hl 0 rfl) ?_
        refine gX8_newLength X hW dX8_words_31 ?_
        refine lv_icmp_ne (tgt := 41) X.hx X.hb dX8_words_34 (by decide) (fun c34 => ?_) (fun c34 => ?_)
        · replace hf := ite_f c34 hf
          exact f_X8_words_J41_w X hr hlk _ _ _ _  hf hW hS (lv_sub hl [0] rfl)
        · replace hf := ite_t c34 hf
          exact f_X8_words_J37_w X hr hlk _ _ _ _  hf hW hS (lv_sub hl [0] rfl)
-- WordSquaresModel.isWord
noncomputable def f_X8_isWord (st : St) (a1 : Int32) : Option Int32 := (f_X8_within a1 0 ((st.1 1) - 1)).bind fun b8 => if b8 = 0 ∨ b8 = 1 then some b8 else none
set_option maxRecDepth 100000 in
theorem w_X8_isWord (l : Launch) (V : Ev) (A : Nat → Prop) (ad : Nat → Nat) {st : St} {a1 : Int32} {res : Int32} (hf : f_X8_isWord st a1 = some res) : Cn l yX8_isWord cX8_isWord 2 (some .boolean) 1 22 0 0 V A (WdM V ad A) st [.ref (ad 0), .int a1] (Qwi A (WdM V ad A) res st) := by
  refine cn_of RX8 (by decide) rfl (fun p e s m below meth c ls X hr hlk hW hS hl => ?_) (Nat.le_of_ble_eq_true rfl)
  have hl : lv_has ls 2 [(0, .ref (ad 0)), (1, .int a1)] := hl
  unfold f_X8_isWord at hf
  refine lv_iload_n X.hx X.hb dX8_isWord_0 rfl (lv_at hl 1 rfl) ?_
  refine lv_iconst (v := 0) X.hx X.hb dX8_isWord_1 (by decide) ?_
  refine lv_aload_n X.hx X.hb dX8_isWord_2 rfl (lv_at hl 0 rfl) ?_
  refine gX8_words X hW dX8_isWord_3 ?_
  refine lv_iconst (v := 1) X.hx X.hb dX8_isWord_6 (by decide) ?_
  refine lv_isub X.hx X.hb dX8_isWord_7 ?_
  obtain ⟨b8, h8, hf⟩ := bnd hf
  refine cl_i (run_S (As := [.int a1, .int 0, .int ((st.1 1) - 1)]) (rest := []) X (w_X8_within l V A (WdM V ad A) st h8) mw_X8_within ln_X8_65 hW hS rfl hl.1 rfl (Nat.le_of_ble_eq_true rfl) ⟨Nat.le_of_ble_eq_true rfl, Nat.le_of_ble_eq_true rfl⟩ ⟨Nat.le_refl _, Nat.le_refl _⟩ dX8_isWord_8) hS (fun H locs hW hS => ?_)
  obtain ⟨h11, hf⟩ := ite_n hf
  exact rt_z X hr hlk hW hS h11 (Option.some.inj hf) (Nat.le_refl _) (Nat.le_refl _) dX8_isWord_11
-- WordSquaresModel.strike
noncomputable def f_X8_strike_J61 (st : St) (t0 : Int32) : Option (Int32 × St) := lt (sI st 0 t0) fun s61 => (f_X8_clearBoard s61).bind fun b65 => lt (sI b65 3 ((b65.1 3) + 1)) fun s75 => some (s75.1 1, s75)
set_option maxRecDepth 100000 in
theorem f_X8_strike_J61_w {res : (Int32 × St)} (X : Cx V A cX8_strike 3 RX8 p m c s args) (hr : meth.sig.returnType = (some .int)) (hlk : meth.locks = false)  (st : St) (t0 : Int32) (H : Heap) (locs : List Loc) (ls : Array Slot)  (hf : f_X8_strike_J61 st t0 = some res) (hW : (WdM V ad A) st H) (hS : va_S A s.heap H locs) (hl : lv_has ls 3 [(0, .ref (ad 0))]) : W p l e (rmF 2 43 0 0) s m args below meth c H locs 0 0 (MQ below (Qwi A (WdM V ad A) res.1 res.2) args s 0 0 A) (F0 m 61 ls [.int t0, .ref (ad 0)]) := by
  
  unfold f_X8_strike_J61 at hf
  obtain ⟨s61, e61, hf⟩ := lt_e hf
  refine pX8_length X hW hS dX8_strike_61 (fun H locs hW hS => ?_)
  rw [← e61] at hW
  refine lv_aload_n X.hx X.hb dX8_strike_64 rfl (lv_at hl 0 rfl) ?_
  obtain ⟨b65, h65, hf⟩ := bnd hf
  refine cl_v (run_V (As := []) (rest := []) X (w_X8_clearBoard l V A ad h65) mw_X8_clearBoard ln_X8_62 (rcX8 X hW) hW hS rfl hl.1 rfl (Nat.le_of_ble_eq_true rfl) ⟨Nat.le_of_ble_eq_true rfl, Nat.le_of_ble_eq_true rfl⟩ ⟨Nat.le_refl _, Nat.le_refl _⟩ dX8_strike_65) hS (fun H locs hW hS => ?_)
  refine lv_aload_n X.hx X.hb dX8_strike_68 rfl (lv_at hl 0 rfl) ?_
  refine lv_dup X.hx X.hb dX8_strike_69 rfl ?_
  refine gX8_struck X hW dX8_strike_70 ?_
  refine lv_iconst (v := 1) X.hx X.hb dX8_strike_73 (by decide) ?_
  refine lv_iadd X.hx X.hb dX8_strike_74 ?_
  obtain ⟨s75, e75, hf⟩ := lt_e hf
  refine pX8_struck X hW hS dX8_strike_75 (fun H locs hW hS => ?_)
  rw [← e75] at hW
  refine lv_aload_n X.hx X.hb dX8_strike_78 rfl (lv_at hl 0 rfl) ?_
  refine gX8_words X hW dX8_strike_79 ?_
  exact rt_i X hr hlk (by rw [← Option.some.inj hf]; exact hW) hS (by rw [← Option.some.inj hf]) (Nat.le_refl _) (Nat.le_refl _) dX8_strike_82
noncomputable def f_X8_strike_L23 : Nat → St → Int32 → Option (Int32 × St)
  | 0, _, _ => none
  | fu + 1, st, x2 => if (st.1 1) ≤ x2 then if (st.1 1) = 0 then f_X8_strike_J61 st 0 else f_X8_strike_J61 st (st.1 0) else (f_X8_move st (x2 + 1) x2).bind fun b36 => lt (x2 + 1) fun w39 => (f_X8_strike_L23 fu) b36 w39
set_option maxRecDepth 100000 in
theorem f_X8_strike_L23_w {res : (Int32 × St)} (X : Cx V A cX8_strike 3 RX8 p m c s args) (hr : meth.sig.returnType = (some .int)) (hlk : meth.locks = false)  : ∀ (n9 : Nat) (st : St) (x2 : Int32) (H : Heap) (locs : List Loc) (ls : Array Slot), f_X8_strike_L23 n9 st x2 = some res → (WdM V ad A) st H → va_S A s.heap H locs → lv_has ls 3 [(0, .ref (ad 0)), (2, .int x2)] → W p l e (rmF 2 43 0 0) s m args below meth c H locs 0 0 (MQ below (Qwi A (WdM V ad A) res.1 res.2) args s 0 0 A) (F0 m 23 ls []) := by
  intro n9
  induction n9 with
  | zero =>
    intro st x2 H locs ls hf
    exact absurd hf (by unfold f_X8_strike_L23; exact fun h => by cases h)
  | succ n9 hr23 =>
    intro st x2 H locs ls hf hW hS hl
    
    unfold f_X8_strike_L23 at hf
    refine lv_iload_n X.hx X.hb dX8_strike_23 rfl (lv_at hl 1 rfl) ?_
    refine lv_aload_n X.hx X.hb dX8_strike_24 rfl (lv_at hl 0 rfl) ?_
    refine gX8_words X hW dX8_strike_25 ?_
    refine lv_icmp_ge (tgt := 45) X.hx X.hb dX8_strike_28 (by decide) (fun c28 => ?_) (fun c28 => ?_)
    · replace hf := ite_t c28 hf
      refine lv_aload_n X.hx X.hb dX8_strike_45 rfl (lv_at hl 0 rfl) ?_
      refine lv_aload_n X.hx X.hb dX8_strike_46 rfl (lv_at hl 0 rfl) ?_
      refine gX8_words X hW dX8_strike_47 ?_
      refine lv_if_ne (tgt := 57) X.hx X.hb dX8_strike_50 (by decide) (fun c50 => ?_) (fun c50 => ?_)
      · replace hf := ite_f c50 hf
        refine lv_aload_n X.hx X.hb dX8_strike_57 rfl (lv_at hl 0 rfl) ?_
        refine gX8_length X hW dX8_strike_58 ?_
        exact f_X8_strike_J61_w X hr hlk _ _ _ _ _  hf hW hS (lv_sub hl [0] rfl)
      · replace hf := ite_t c50 hf
        refine lv_iconst (v := 0) X.hx X.hb dX8_strike_53 (by decide) ?_
        refine lv_goto (tgt := 61) X.hx X.hb dX8_strike_54 (by decide) ?_
        exact f_X8_strike_J61_w X hr hlk _ _ _ _ _  hf hW hS (lv_sub hl [0] rfl)
    · replace hf := ite_f c28 hf
      refine lv_aload_n X.hx X.hb dX8_strike_31 rfl (lv_at hl 0 rfl) ?_
      refine lv_iload_n X.hx X.hb dX8_strike_32 rfl (lv_at hl 1 rfl) ?_
      refine lv_iconst (v := 1) X.hx X.hb dX8_strike_33 (by decide) ?_
      refine lv_iadd X.hx X.hb dX8_strike_34 ?_
      refine lv_iload_n X.hx X.hb dX8_strike_35 rfl (lv_at hl 1 rfl) ?_
      obtain ⟨b36, h36, hf⟩ := bnd hf
      refine cl_v (run_V (As := [.int (x2 + 1), .int x2]) (rest := []) X (w_X8_move l V A ad h36) mw_X8_move ln_X8_107 (rcX8 X hW) hW hS rfl hl.1 rfl (Nat.le_of_ble_eq_true rfl) ⟨Nat.le_of_ble_eq_true rfl, Nat.le_of_ble_eq_true rfl⟩ ⟨Nat.le_refl _, Nat.le_refl _⟩ dX8_strike_36) hS (fun H locs hW hS => ?_)
      obtain ⟨w39, e39, hf⟩ := lt_e hf
      refine lv_iinc (v := w39) (lv' := [(2, .int w39), (0, .ref (ad 0))]) X.hx X.hb dX8_strike_39 hl (k := 1) rfl (by rw [e39]; rfl) (by decide) rfl (fun ls hl => ?_)
      refine lv_goto (tgt := 23) X.hx X.hb dX8_strike_42 (by decide) ?_
      exact hr23 _ _ _ _ _  hf hW hS (lv_sub hl [1, 0] rfl)
noncomputable def f_X8_strike (st : St) (a1 : Int32) : Option (Int32 × St) := (f_X8_isWord st a1).bind fun b2 => if b2 = 0 then some ((-101), st) else lt (sI st 1 ((st.1 1) - 1)) fun s18 => f_X8_strike_L23 FU s18 a1
set_option maxRecDepth 100000 in
theorem w_X8_strike (l : Launch) (V : Ev) (A : Nat → Prop) (ad : Nat → Nat) {st : St} {a1 : Int32} {res : (Int32 × St)} (hf : f_X8_strike st a1 = some res) : Cn l yX8_strike cX8_strike 3 (some .int) 2 43 0 0 V A (WdM V ad A) st [.ref (ad 0), .int a1] (Qwi A (WdM V ad A) res.1 res.2) := by
  refine cn_of RX8 (by decide) rfl (fun p e s m below meth c ls X hr hlk hW hS hl => ?_) (Nat.le_of_ble_eq_true rfl)
  have hl : lv_has ls 3 [(0, .ref (ad 0)), (1, .int a1)] := hl
  unfold f_X8_strike at hf
  refine lv_aload_n X.hx X.hb dX8_strike_0 rfl (lv_at hl 0 rfl) ?_
  refine lv_iload_n X.hx X.hb dX8_strike_1 rfl (lv_at hl 1 rfl) ?_
  obtain ⟨b2, h2, hf⟩ := bnd hf
  refine cl_i (run_V (As := [.int a1]) (rest := []) X (w_X8_isWord l V A ad h2) mw_X8_isWord ln_X8_124 (rcX8 X hW) hW hS rfl hl.1 rfl (Nat.le_of_ble_eq_true rfl) ⟨Nat.le_of_ble_eq_true rfl, Nat.le_of_ble_eq_true rfl⟩ ⟨Nat.le_refl _, Nat.le_refl _⟩ dX8_strike_2) hS (fun H locs hW hS => ?_)
  refine lv_if_ne (tgt := 11) X.hx X.hb dX8_strike_5 (by decide) (fun c5 => ?_) (fun c5 => ?_)
  · replace hf := ite_f c5 hf
    refine lv_aload_n X.hx X.hb dX8_strike_11 rfl (lv_at hl 0 rfl) ?_
    refine lv_dup X.hx X.hb dX8_strike_12 rfl ?_
    refine gX8_words X hW dX8_strike_13 ?_
    refine lv_iconst (v := 1) X.hx X.hb dX8_strike_16 (by decide) ?_
    refine lv_isub X.hx X.hb dX8_strike_17 ?_
    obtain ⟨s18, e18, hf⟩ := lt_e hf
    refine pX8_words X hW hS dX8_strike_18 (fun H locs hW hS => ?_)
    rw [← e18] at hW
    refine lv_iload_n X.hx X.hb dX8_strike_21 rfl (lv_at hl 1 rfl) ?_
    refine lv_istore_n (lv' := [(2, .int a1), (0, .ref (ad 0)), (1, .int a1)]) X.hx X.hb dX8_strike_22 rfl hl (by decide) rfl (fun ls hl => ?_)
    exact f_X8_strike_L23_w X hr hlk FU _ _ _ _ _  hf hW hS (lv_sub hl [1, 0] rfl)
  · replace hf := ite_t c5 hf
    refine lv_bipush (v := (-101)) X.hx X.hb dX8_strike_8 (by decide) ?_
    exact rt_i X hr hlk (by rw [← Option.some.inj hf]; exact hW) hS (by rw [← Option.some.inj hf]) (Nat.le_refl _) (Nat.le_refl _) dX8_strike_10
-- WordSquaresModel.weigh
noncomputable def f_X8_weigh (st : St) (a1 : Int32) (a2 : Int32) : Option (Int32 × St) := (f_X8_isWord st a1).bind fun b2 => if b2 = 0 then some ((-101), st) else (f_X8_within a2 1 9).bind fun b15 => if b15 = 0 then some ((-102), st) else if inb a1 12 = true then lt (st.2.1 2 a1.toNatClampNeg) fun w30 => if inb a1 12 = true then lt (sA st 2 a1.toNatClampNeg a2) fun s37 => some (w30, s37) else none else none
set_option maxRecDepth 100000 in
theorem w_X8_weigh (l : Launch) (V : Ev) (A : Nat → Prop) (ad : Nat → Nat) {st : St} {a1 : Int32} {a2 : Int32} {res : (Int32 × St)} (hf : f_X8_weigh st a1 a2 = some res) : Cn l yX8_weigh cX8_weigh 4 (some .int) 2 43 0 0 V A (WdM V ad A) st [.ref (ad 0), .int a1, .int a2] (Qwi A (WdM V ad A) res.1 res.2) := by
  refine cn_of RX8 (by decide) rfl (fun p e s m below meth c ls X hr hlk hW hS hl => ?_) (Nat.le_of_ble_eq_true rfl)
  have hl : lv_has ls 4 [(0, .ref (ad 0)), (1, .int a1), (2, .int a2)] := hl
  unfold f_X8_weigh at hf
  refine lv_aload_n X.hx X.hb dX8_weigh_0 rfl (lv_at hl 0 rfl) ?_
  refine lv_iload_n X.hx X.hb dX8_weigh_1 rfl (lv_at hl 1 rfl) ?_
  obtain ⟨b2, h2, hf⟩ := bnd hf
  refine cl_i (run_V (As := [.int a1]) (rest := []) X (w_X8_isWord l V A ad h2) mw_X8_isWord ln_X8_124 (rcX8 X hW) hW hS rfl hl.1 rfl (Nat.le_of_ble_eq_true rfl) ⟨Nat.le_of_ble_eq_true rfl, Nat.le_of_ble_eq_true rfl⟩ ⟨Nat.le_refl _, Nat.le_refl _⟩ dX8_weigh_2) hS (fun H locs hW hS => ?_)
  refine lv_if_ne (tgt := 11) X.hx X.hb dX8_weigh_5 (by decide) (fun c5 => ?_) (fun c5 => ?_)
  · replace hf := ite_f c5 hf
    refine lv_iload_n X.hx X.hb dX8_weigh_11 rfl (lv_at hl 2 rfl) ?_
    refine lv_iconst (v := 1) X.hx X.hb dX8_weigh_12 (by decide) ?_
    refine lv_bipush (v := 9) X.hx X.hb dX8_weigh_13 (by decide) ?_
    obtain ⟨b15, h15, hf⟩ := bnd hf
    refine cl_i (run_S (As := [.int a2, .int 1, .int 9]) (rest := []) X (w_X8_within l V A (WdM V ad A) st h15) mw_X8_within ln_X8_65 hW hS rfl hl.1 rfl (Nat.le_of_ble_eq_true rfl) ⟨Nat.le_of_ble_eq_true rfl, Nat.le_of_ble_eq_true rfl⟩ ⟨Nat.le_refl _, Nat.le_refl _⟩ dX8_weigh_15) hS (fun H locs hW hS => ?_)
    refine lv_if_ne (tgt := 24) X.hx X.hb dX8_weigh_18 (by decide) (fun c18 => ?_) (fun c18 => ?_)
    · replace hf := ite_f c18 hf
      refine lv_aload_n X.hx X.hb dX8_weigh_24 rfl (lv_at hl 0 rfl) ?_
      refine gX8_weights X hW dX8_weigh_25 ?_
      refine lv_iload_n X.hx X.hb dX8_weigh_28 rfl (lv_at hl 1 rfl) ?_
      obtain ⟨h29, hf⟩ := ite_n hf
      refine aM_ld X hW isM_2 rfl h29 dX8_weigh_29 ?_
      obtain ⟨w30, e30, hf⟩ := lt_e hf
      refine lv_nm e30 ?_
      refine lv_istore_n (lv' := [(3, .int w30), (0, .ref (ad 0)), (1, .int a1), (2, .int a2)]) X.hx X.hb dX8_weigh_30 rfl hl (by decide) rfl (fun ls hl => ?_)
      refine lv_aload_n X.hx X.hb dX8_weigh_31 rfl (lv_at hl 1 rfl) ?_
      refine gX8_weights X hW dX8_weigh_32 ?_
      refine lv_iload_n X.hx X.hb dX8_weigh_35 rfl (lv_at hl 2 rfl) ?_
      refine lv_iload_n X.hx X.hb dX8_weigh_36 rfl (lv_at hl 3 rfl) ?_
      obtain ⟨h37, hf⟩ := ite_n hf
      obtain ⟨s37, e37, hf⟩ := lt_e hf
      refine aM_st X hW hS isM_2 rfl h37 dX8_weigh_37 (fun H locs hW hS => ?_)
      rw [← e37] at hW
      refine lv_iload_n X.hx X.hb dX8_weigh_38 rfl (lv_at hl 0 rfl) ?_
      exact rt_i X hr hlk (by rw [← Option.some.inj hf]; exact hW) hS (by rw [← Option.some.inj hf]) (Nat.le_refl _) (Nat.le_refl _) dX8_weigh_39
    · replace hf := ite_t c18 hf
      refine lv_bipush (v := (-102)) X.hx X.hb dX8_weigh_21 (by decide) ?_
      exact rt_i X hr hlk (by rw [← Option.some.inj hf]; exact hW) hS (by rw [← Option.some.inj hf]) (Nat.le_refl _) (Nat.le_refl _) dX8_weigh_23
  · replace hf := ite_t c5 hf
    refine lv_bipush (v := (-101)) X.hx X.hb dX8_weigh_8 (by decide) ?_
    exact rt_i X hr hlk (by rw [← Option.some.inj hf]; exact hW) hS (by rw [← Option.some.inj hf]) (Nat.le_refl _) (Nat.le_refl _) dX8_weigh_10
-- WordSquaresModel.at
noncomputable def f_X8_at (st : St) (a1 : Int32) (a2 : Int32) : Option Int32 := if inb ((4 * a1) + a2) 48 = true then some (st.2.1 1 ((4 * a1) + a2).toNatClampNeg) else none
set_option maxRecDepth 100000 in
theorem w_X8_at (l : Launch) (V : Ev) (A : Nat → Prop) (ad : Nat → Nat) {st : St} {a1 : Int32} {a2 : Int32} {res : Int32} (hf : f_X8_at st a1 a2 = some res) : Cn l yX8_at cX8_at 3 (some .int) 0 0 0 0 V A (WdM V ad A) st [.ref (ad 0), .int a1, .int a2] (Qwi A (WdM V ad A) res st) := by
  refine cn_of RX8 (by decide) rfl (fun p e s m below meth c ls X hr hlk hW hS hl => ?_) (Nat.le_of_ble_eq_true rfl)
  have hl : lv_has ls 3 [(0, .ref (ad 0)), (1, .int a1), (2, .int a2)] := hl
  unfold f_X8_at at hf
  refine lv_aload_n X.hx X.hb dX8_at_0 rfl (lv_at hl 0 rfl) ?_
  refine gX8_letters X hW dX8_at_1 ?_
  refine lv_iconst (v := 4) X.hx X.hb dX8_at_4 (by decide) ?_
  refine lv_iload_n X.hx X.hb dX8_at_5 rfl (lv_at hl 1 rfl) ?_
  refine lv_imul X.hx X.hb dX8_at_6 ?_
  refine lv_iload_n X.hx X.hb dX8_at_7 rfl (lv_at hl 2 rfl) ?_
  refine lv_iadd X.hx X.hb dX8_at_8 ?_
  obtain ⟨h9, hf⟩ := ite_n hf
  refine aM_ld X hW isM_1 rfl h9 dX8_at_9 ?_
  exact rt_i X hr hlk hW hS (Option.some.inj hf) (Nat.le_refl _) (Nat.le_refl _) dX8_at_10
-- WordSquaresModel.alike
noncomputable def f_X8_alike_J31 (st : St) (x3 : Int32) : Option Int32 := some x3
set_option maxRecDepth 100000 in
theorem f_X8_alike_J31_w {st : St} {res : Int32} (X : Cx V A cX8_alike 4 RX8 p m c s args) (hr : meth.sig.returnType = (some .int)) (hlk : meth.locks = false)  (x3 : Int32) (H : Heap) (locs : List Loc) (ls : Array Slot)  (hf : f_X8_alike_J31 st x3 = some res) (hW : (WdM V ad A) st H) (hS : va_S A s.heap H locs) (hl : lv_has ls 4 [(3, .int x3)]) : W p l e (rmF 1 22 0 0) s m args below meth c H locs 0 0 (MQ below (Qwi A (WdM V ad A) res st) args s 0 0 A) (F0 m 31 ls []) := by
  
  unfold f_X8_alike_J31 at hf
  refine lv_iload_n X.hx X.hb dX8_alike_31 rfl (lv_at hl 0 rfl) ?_
  exact rt_i X hr hlk hW hS (Option.some.inj hf) (Nat.le_refl _) (Nat.le_refl _) dX8_alike_32
noncomputable def f_X8_alike_L2 (st : St) : Nat → Int32 → Int32 → Int32 → Option Int32
  | 0, _, _, _ => none
  | fu + 1, x1, x2, x3 => if (st.1 0) ≤ x3 then f_X8_alike_J31 st x3 else (f_X8_at st x1 x3).bind fun b13 => (f_X8_at st x2 x3).bind fun b19 => if b13 = b19 then lt (x3 + 1) fun w25 => (f_X8_alike_L2 st fu) x1 x2 w25 else f_X8_alike_J31 st x3
set_option maxRecDepth 100000 in
theorem f_X8_alike_L2_w {st : St} {res : Int32} (X : Cx V A cX8_alike 4 RX8 p m c s args) (hr : meth.sig.returnType = (some .int)) (hlk : meth.locks = false)  : ∀ (n9 : Nat) (x1 : Int32) (x2 : Int32) (x3 : Int32) (H : Heap) (locs : List Loc) (ls : Array Slot), f_X8_alike_L2 st n9 x1 x2 x3 = some res → (WdM V ad A) st H → va_S A s.heap H locs → lv_has ls 4 [(0, .ref (ad 0)), (1, .int x1), (2, .int x2), (3, .int x3)] → W p l e (rmF 1 22 0 0) s m args below meth c H locs 0 0 (MQ below (Qwi A (WdM V ad A) res st) args s 0 0 A) (F0 m 2 ls []) := by
  intro n9
  induction n9 with
  | zero =>
    intro x1 x2 x3 H locs ls hf
    exact absurd hf (by unfold f_X8_alike_L2; exact fun h => by cases h)
  | succ n9 hr2 =>
    intro x1 x2 x3 H locs ls hf hW hS hl
    
    unfold f_X8_alike_L2 at hf
    refine lv_iload_n X.hx X.hb dX8_alike_2 rfl (lv_at hl 3 rfl) ?_
    refine lv_aload_n X.hx X.hb dX8_alike_3 rfl (lv_at hl 0 rfl) ?_
    refine gX8_length X hW dX8_alike_4 ?_
    refine lv_icmp_ge (tgt := 31) X.hx X.hb dX8_alike_7 (by decide) (fun c7 => ?_) (fun c7 => ?_)
    · replace hf := ite_t c7 hf
      exact f_X8_alike_J31_w X hr hlk _ _ _ _  hf hW hS (lv_sub hl [3] rfl)
    · replace hf := ite_f c7 hf
      refine lv_aload_n X.hx X.hb dX8_alike_10 rfl (lv_at hl 0 rfl) ?_
      refine lv_iload_n X.hx X.hb dX8_alike_11 rfl (lv_at hl 1 rfl) ?_
      refine lv_iload_n X.hx X.hb dX8_alike_12 rfl (lv_at hl 3 rfl) ?_
      obtain ⟨b13, h13, hf⟩ := bnd hf
      refine cl_i (run_V (As := [.int x1, .int x3]) (rest := []) X (w_X8_at l V A ad h13) mw_X8_at ln_X8_130 (rcX8 X hW) hW hS rfl hl.1 rfl (Nat.le_of_ble_eq_true rfl) ⟨Nat.le_of_ble_eq_true rfl, Nat.le_of_ble_eq_true rfl⟩ ⟨Nat.le_refl _, Nat.le_refl _⟩ dX8_alike_13) hS (fun H locs hW hS => ?_)
      refine lv_aload_n X.hx X.hb dX8_alike_16 rfl (lv_at hl 0 rfl) ?_
      refine lv_iload_n X.hx X.hb dX8_alike_17 rfl (lv_at hl 2 rfl) ?_
      refine lv_iload_n X.hx X.hb dX8_alike_18 rfl (lv_at hl 3 rfl) ?_
      obtain ⟨b19, h19, hf⟩ := bnd hf
      refine cl_i (run_V (As := [.int x2, .int x3]) (rest := [.int b13]) X (w_X8_at l V A ad h19) mw_X8_at ln_X8_130 (rcX8 X hW) hW hS rfl hl.1 rfl (Nat.le_of_ble_eq_true rfl) ⟨Nat.le_of_ble_eq_true rfl, Nat.le_of_ble_eq_true rfl⟩ ⟨Nat.le_refl _, Nat.le_refl _⟩ dX8_alike_19) hS (fun H locs hW hS => ?_)
      refine lv_icmp_ne (tgt := 31) X.hx X.hb dX8_alike_22 (by decide) (fun c22 => ?_) (fun c22 => ?_)
      · replace hf := ite_f c22 hf
        exact f_X8_alike_J31_w X hr hlk _ _ _ _  hf hW hS (lv_sub hl [3] rfl)
      · replace hf := ite_t c22 hf
        obtain ⟨w25, e25, hf⟩ := lt_e hf
        refine lv_iinc (v := w25) (lv' := [(3, .int w25), (0, .ref (ad 0)), (1, .int x1), (2, .int x2)]) X.hx X.hb dX8_alike_25 hl (k := 3) rfl (by rw [e25]; rfl) (by decide) rfl (fun ls hl => ?_)
        refine lv_goto (tgt := 2) X.hx X.hb dX8_alike_28 (by decide) ?_
        exact hr2 _ _ _ _ _ _  hf hW hS (lv_sub hl [1, 2, 3, 0] rfl)
noncomputable def f_X8_alike (st : St) (a1 : Int32) (a2 : Int32) : Option Int32 := f_X8_alike_L2 st FU a1 a2 0
set_option maxRecDepth 100000 in
theorem w_X8_alike (l : Launch) (V : Ev) (A : Nat → Prop) (ad : Nat → Nat) {st : St} {a1 : Int32} {a2 : Int32} {res : Int32} (hf : f_X8_alike st a1 a2 = some res) : Cn l yX8_alike cX8_alike 4 (some .int) 1 22 0 0 V A (WdM V ad A) st [.ref (ad 0), .int a1, .int a2] (Qwi A (WdM V ad A) res st) := by
  refine cn_of RX8 (by decide) rfl (fun p e s m below meth c ls X hr hlk hW hS hl => ?_) (Nat.le_of_ble_eq_true rfl)
  have hl : lv_has ls 4 [(0, .ref (ad 0)), (1, .int a1), (2, .int a2)] := hl
  unfold f_X8_alike at hf
  refine lv_iconst (v := 0) X.hx X.hb dX8_alike_0 (by decide) ?_
  refine lv_istore_n (lv' := [(3, .int 0), (0, .ref (ad 0)), (1, .int a1), (2, .int a2)]) X.hx X.hb dX8_alike_1 rfl hl (by decide) rfl (fun ls hl => ?_)
  exact f_X8_alike_L2_w X hr hlk FU _ _ _ _ _ _  hf hW hS (lv_sub hl [1, 2, 3, 0] rfl)
-- WordSquaresModel.beginnings
noncomputable def f_X8_beginnings_J44 (st : St) (r15 : Int32 → Int32 → Option Int32) (x2 : Int32) (t0 : Int32) (t1 : Int32) (t2 : Int32) : Option Int32 := lt (t2 + (t1 - t0)) fun w46 => lt (x2 + 1) fun w47 => r15 w46 w47
set_option maxRecDepth 100000 in
theorem f_X8_beginnings_J44_w {st : St} {r15 : Int32 → Int32 → Option Int32} {res : Int32} (X : Cx V A cX8_beginnings 3 RX8 p m c s args) (hr : meth.sig.returnType = (some .int)) (hlk : meth.locks = false) (hr15 : ∀ (x1 : Int32) (x2 : Int32) (H : Heap) (locs : List Loc) (ls : Array Slot), r15 x1 x2 = some res → (WdM V ad A) st H → va_S A s.heap H locs → lv_has ls 3 [(0, .ref (ad 0)), (1, .int x1), (2, .int x2)] → W p l e (rmF 2 45 0 0) s m args below meth c H locs 0 0 (MQ below (Qwi A (WdM V ad A) res st) args s 0 0 A) (F0 m 15 ls [])) (x2 : Int32) (t0 : Int32) (t1 : Int32) (t2 : Int32) (H : Heap) (locs : List Loc) (ls : Array Slot)  (hf : f_X8_beginnings_J44 st r15 x2 t0 t1 t2 = some res) (hW : (WdM V ad A) st H) (hS : va_S A s.heap H locs) (hl : lv_has ls 3 [(0, .ref (ad 0)), (2, .int x2)]) : W p l e (rmF 2 45 0 0) s m args below meth c H locs 0 0 (MQ below (Qwi A (WdM V ad A) res st) args s 0 0 A) (F0 m 44 ls [.int t0, .int t1, .int t2]) := by
  
  unfold f_X8_beginnings_J44 at hf
  refine lv_isub X.hx X.hb dX8_beginnings_44 ?_
  refine lv_iadd X.hx X.hb dX8_beginnings_45 ?_
  obtain ⟨w46, e46, hf⟩ := lt_e hf
  refine lv_nm e46 ?_
  refine lv_istore_n (lv' := [(1, .int w46), (0, .ref (ad 0)), (2, .int x2)]) X.hx X.hb dX8_beginnings_46 rfl hl (by decide) rfl (fun ls hl => ?_)
  obtain ⟨w47, e47, hf⟩ := lt_e hf
  refine lv_iinc (v := w47) (lv' := [(2, .int w47), (1, .int w46), (0, .ref (ad 0))]) X.hx X.hb dX8_beginnings_47 hl (k := 2) rfl (by rw [e47]; rfl) (by decide) rfl (fun ls hl => ?_)
  refine lv_goto (tgt := 15) X.hx X.hb dX8_beginnings_50 (by decide) ?_
  exact hr15 _ _ _ _ _  hf hW hS (lv_sub hl [2, 1, 0] rfl)
noncomputable def f_X8_beginnings_L15 (st : St) : Nat → Int32 → Int32 → Option Int32
  | 0, _, _ => none
  | fu + 1, x1, x2 => if (st.1 1) ≤ x2 then some x1 else if x2 = 0 then f_X8_beginnings_J44 st ((f_X8_beginnings_L15 st fu)) x2 0 (st.1 0) x1 else (f_X8_alike st (x2 - 1) x2).bind fun b41 => f_X8_beginnings_J44 st ((f_X8_beginnings_L15 st fu)) x2 b41 (st.1 0) x1
set_option maxRecDepth 100000 in
theorem f_X8_beginnings_L15_w {st : St} {res : Int32} (X : Cx V A cX8_beginnings 3 RX8 p m c s args) (hr : meth.sig.returnType = (some .int)) (hlk : meth.locks = false)  : ∀ (n9 : Nat) (x1 : Int32) (x2 : Int32) (H : Heap) (locs : List Loc) (ls : Array Slot), f_X8_beginnings_L15 st n9 x1 x2 = some res → (WdM V ad A) st H → va_S A s.heap H locs → lv_has ls 3 [(0, .ref (ad 0)), (1, .int x1), (2, .int x2)] → W p l e (rmF 2 45 0 0) s m args below meth c H locs 0 0 (MQ below (Qwi A (WdM V ad A) res st) args s 0 0 A) (F0 m 15 ls []) := by
  intro n9
  induction n9 with
  | zero =>
    intro x1 x2 H locs ls hf
    exact absurd hf (by unfold f_X8_beginnings_L15; exact fun h => by cases h)
  | succ n9 hr15 =>
    intro x1 x2 H locs ls hf hW hS hl
    
    unfold f_X8_beginnings_L15 at hf
    refine lv_iload_n X.hx X.hb dX8_beginnings_15 rfl (lv_at hl 2 rfl) ?_
    refine lv_aload_n X.hx X.hb dX8_beginnings_16 rfl (lv_at hl 0 rfl) ?_
    refine gX8_words X hW dX8_beginnings_17 ?_
    refine lv_icmp_ge (tgt := 53) X.hx X.hb dX8_beginnings_20 (by decide) (fun c20 => ?_) (fun c20 => ?_)
    · replace hf := ite_t c20 hf
      refine lv_iload_n X.hx X.hb dX8_beginnings_53 rfl (lv_at hl 1 rfl) ?_
      exact rt_i X hr hlk hW hS (Option.some.inj hf) (Nat.le_refl _) (Nat.le_refl _) dX8_beginnings_54
    · replace hf := ite_f c20 hf
      refine lv_iload_n X.hx X.hb dX8_beginnings_23 rfl (lv_at hl 1 rfl) ?_
      refine lv_aload_n X.hx X.hb dX8_beginnings_24 rfl (lv_at hl 0 rfl) ?_
      refine gX8_length X hW dX8_beginnings_25 ?_
      refine lv_iload_n X.hx X.hb dX8_beginnings_28 rfl (lv_at hl 2 rfl) ?_
      refine lv_if_ne (tgt := 36) X.hx X.hb dX8_beginnings_29 (by decide) (fun c29 => ?_) (fun c29 => ?_)
      · replace hf := ite_f c29 hf
        refine lv_aload_n X.hx X.hb dX8_beginnings_36 rfl (lv_at hl 0 rfl) ?_
        refine lv_iload_n X.hx X.hb dX8_beginnings_37 rfl (lv_at hl 2 rfl) ?_
        refine lv_iconst (v := 1) X.hx X.hb dX8_beginnings_38 (by decide) ?_
        refine lv_isub X.hx X.hb dX8_beginnings_39 ?_
        refine lv_iload_n X.hx X.hb dX8_beginnings_40 rfl (lv_at hl 2 rfl) ?_
        obtain ⟨b41, h41, hf⟩ := bnd hf
        refine cl_i (run_V (As := [.int (x2 - 1), .int x2]) (rest := [.int (st.1 0), .int x1]) X (w_X8_alike l V A ad h41) mw_X8_alike ln_X8_134 (rcX8 X hW) hW hS rfl hl.1 rfl (Nat.le_of_ble_eq_true rfl) ⟨Nat.le_of_ble_eq_true rfl, Nat.le_of_ble_eq_true rfl⟩ ⟨Nat.le_refl _, Nat.le_refl _⟩ dX8_beginnings_41) hS (fun H locs hW hS => ?_)
        exact f_X8_beginnings_J44_w X hr hlk hr15 _ _ _ _ _ _ _  hf hW hS (lv_sub hl [0, 2] rfl)
      · replace hf := ite_t c29 hf
        refine lv_iconst (v := 0) X.hx X.hb dX8_beginnings_32 (by decide) ?_
        refine lv_goto (tgt := 44) X.hx X.hb dX8_beginnings_33 (by decide) ?_
        exact f_X8_beginnings_J44_w X hr hlk hr15 _ _ _ _ _ _ _  hf hW hS (lv_sub hl [0, 2] rfl)
noncomputable def f_X8_beginnings_J12 (st : St) (t0 : Int32) : Option Int32 := f_X8_beginnings_L15 st FU t0 0
set_option maxRecDepth 100000 in
theorem f_X8_beginnings_J12_w {st : St} {res : Int32} (X : Cx V A cX8_beginnings 3 RX8 p m c s args) (hr : meth.sig.returnType = (some .int)) (hlk : meth.locks = false)  (t0 : Int32) (H : Heap) (locs : List Loc) (ls : Array Slot)  (hf : f_X8_beginnings_J12 st t0 = some res) (hW : (WdM V ad A) st H) (hS : va_S A s.heap H locs) (hl : lv_has ls 3 [(0, .ref (ad 0))]) : W p l e (rmF 2 45 0 0) s m args below meth c H locs 0 0 (MQ below (Qwi A (WdM V ad A) res st) args s 0 0 A) (F0 m 12 ls [.int t0]) := by
  
  unfold f_X8_beginnings_J12 at hf
  refine lv_istore_n (lv' := [(1, .int t0), (0, .ref (ad 0))]) X.hx X.hb dX8_beginnings_12 rfl hl (by decide) rfl (fun ls hl => ?_)
  refine lv_iconst (v := 0) X.hx X.hb dX8_beginnings_13 (by decide) ?_
  refine lv_istore_n (lv' := [(2, .int 0), (1, .int t0), (0, .ref (ad 0))]) X.hx X.hb dX8_beginnings_14 rfl hl (by decide) rfl (fun ls hl => ?_)
  exact f_X8_beginnings_L15_w X hr hlk FU _ _ _ _ _  hf hW hS (lv_sub hl [2, 1, 0] rfl)
noncomputable def f_X8_beginnings (st : St) : Option Int32 := if (st.1 1) = 0 then f_X8_beginnings_J12 st 0 else f_X8_beginnings_J12 st 1
set_option maxRecDepth 100000 in
theorem w_X8_beginnings (l : Launch) (V : Ev) (A : Nat → Prop) (ad : Nat → Nat) {st : St} {res : Int32} (hf : f_X8_beginnings st = some res) : Cn l yX8_beginnings cX8_beginnings 3 (some .int) 2 45 0 0 V A (WdM V ad A) st [.ref (ad 0)] (Qwi A (WdM V ad A) res st) := by
  refine cn_of RX8 (by decide) rfl (fun p e s m below meth c ls X hr hlk hW hS hl => ?_) (Nat.le_of_ble_eq_true rfl)
  have hl : lv_has ls 3 [(0, .ref (ad 0))] := hl
  unfold f_X8_beginnings at hf
  refine lv_aload_n X.hx X.hb dX8_beginnings_0 rfl (lv_at hl 0 rfl) ?_
  refine gX8_words X hW dX8_beginnings_1 ?_
  refine lv_if_ne (tgt := 11) X.hx X.hb dX8_beginnings_4 (by decide) (fun c4 => ?_) (fun c4 => ?_)
  · replace hf := ite_f c4 hf
    refine lv_iconst (v := 1) X.hx X.hb dX8_beginnings_11 (by decide) ?_
    exact f_X8_beginnings_J12_w X hr hlk _ _ _ _  hf hW hS (lv_sub hl [0] rfl)
  · replace hf := ite_t c4 hf
    refine lv_iconst (v := 0) X.hx X.hb dX8_beginnings_7 (by decide) ?_
    refine lv_goto (tgt := 12) X.hx X.hb dX8_beginnings_8 (by decide) ?_
    exact f_X8_beginnings_J12_w X hr hlk _ _ _ _  hf hW hS (lv_sub hl [0] rfl)
-- WordSquaresModel.lettersMany
noncomputable def f_X8_lettersMany_L14 (st : St) (r4 : Int32 → Int32 → Option Int32) : Nat → Int32 → Int32 → Int32 → Option Int32
  | 0, _, _, _ => none
  | fu + 1, x1, x2, x3 => if (st.1 0) ≤ x3 then lt (x2 + 1) fun w42 => r4 x1 w42 else (f_X8_at st x2 x3).bind fun b27 => lt (x1 ||| (1 <<< ((b27 - 97) &&& 31))) fun w35 => lt (x3 + 1) fun w36 => (f_X8_lettersMany_L14 st r4 fu) w35 x2 w36
set_option maxRecDepth 100000 in
theorem f_X8_lettersMany_L14_w {st : St} {r4 : Int32 → Int32 → Option Int32} {res : Int32} (X : Cx V A cX8_lettersMany 4 RX8 p m c s args) (hr : meth.sig.returnType = (some .int)) (hlk : meth.locks = false) (hr4 : ∀ (x1 : Int32) (x2 : Int32) (H : Heap) (locs : List Loc) (ls : Array Slot), r4 x1 x2 = some res → (WdM V ad A) st H → va_S A s.heap H locs → lv_has ls 4 [(0, .ref (ad 0)), (1, .int x1), (2, .int x2)] → W p l e (rmF 1 22 0 0) s m args below meth c H locs 0 0 (MQ below (Qwi A (WdM V ad A) res st) args s 0 0 A) (F0 m 4 ls [])) : ∀ (n9 : Nat) (x1 : Int32) (x2 : Int32) (x3 : Int32) (H : Heap) (locs : List Loc) (ls : Array Slot), f_X8_lettersMany_L14 st r4 n9 x1 x2 x3 = some res → (WdM V ad A) st H → va_S A s.heap H locs → lv_has ls 4 [(0, .ref (ad 0)), (1, .int x1), (2, .int x2), (3, .int x3)] → W p l e (rmF 1 22 0 0) s m args below meth c H locs 0 0 (MQ below (Qwi A (WdM V ad A) res st) args s 0 0 A) (F0 m 14 ls []) := by
  intro n9
  induction n9 with
  | zero =>
    intro x1 x2 x3 H locs ls hf
    exact absurd hf (by unfold f_X8_lettersMany_L14; exact fun h => by cases h)
  | succ n9 hr14 =>
    intro x1 x2 x3 H locs ls hf hW hS hl
    
    unfold f_X8_lettersMany_L14 at hf
    refine lv_iload_n X.hx X.hb dX8_lettersMany_14 rfl (lv_at hl 3 rfl) ?_
    refine lv_aload_n X.hx X.hb dX8_lettersMany_15 rfl (lv_at hl 0 rfl) ?_
    refine gX8_length X hW dX8_lettersMany_16 ?_
    refine lv_icmp_ge (tgt := 42) X.hx X.hb dX8_lettersMany_19 (by decide) (fun c19 => ?_) (fun c19 => ?_)
    · replace hf := ite_t c19 hf
      obtain ⟨w42, e42, hf⟩ := lt_e hf
      refine lv_iinc (v := w42) (lv' := [(2, .int w42), (0, .ref (ad 0)), (1, .int x1), (3, .int x3)]) X.hx X.hb dX8_lettersMany_42 hl (k := 2) rfl (by rw [e42]; rfl) (by decide) rfl (fun ls hl => ?_)
      refine lv_goto (tgt := 4) X.hx X.hb dX8_lettersMany_45 (by decide) ?_
      exact hr4 _ _ _ _ _  hf hW hS (lv_sub hl [1, 2, 0] rfl)
    · replace hf := ite_f c19 hf
      refine lv_iload_n X.hx X.hb dX8_lettersMany_22 rfl (lv_at hl 1 rfl) ?_
      refine lv_iconst (v := 1) X.hx X.hb dX8_lettersMany_23 (by decide) ?_
      refine lv_aload_n X.hx X.hb dX8_lettersMany_24 rfl (lv_at hl 0 rfl) ?_
      refine lv_iload_n X.hx X.hb dX8_lettersMany_25 rfl (lv_at hl 2 rfl) ?_
      refine lv_iload_n X.hx X.hb dX8_lettersMany_26 rfl (lv_at hl 3 rfl) ?_
      obtain ⟨b27, h27, hf⟩ := bnd hf
      refine cl_i (run_V (As := [.int x2, .int x3]) (rest := [.int 1, .int x1]) X (w_X8_at l V A ad h27) mw_X8_at ln_X8_130 (rcX8 X hW) hW hS rfl hl.1 rfl (Nat.le_of_ble_eq_true rfl) ⟨Nat.le_of_ble_eq_true rfl, Nat.le_of_ble_eq_true rfl⟩ ⟨Nat.le_refl _, Nat.le_refl _⟩ dX8_lettersMany_27) hS (fun H locs hW hS => ?_)
      refine lv_bipush (v := 97) X.hx X.hb dX8_lettersMany_30 (by decide) ?_
      refine lv_isub X.hx X.hb dX8_lettersMany_32 ?_
      refine lv_ishl X.hx X.hb dX8_lettersMany_33 ?_
      refine lv_ior X.hx X.hb dX8_lettersMany_34 ?_
      obtain ⟨w35, e35, hf⟩ := lt_e hf
      refine lv_nm e35 ?_
      refine lv_istore_n (lv' := [(1, .int w35), (0, .ref (ad 0)), (2, .int x2), (3, .int x3)]) X.hx X.hb dX8_lettersMany_35 rfl hl (by decide) rfl (fun ls hl => ?_)
      obtain ⟨w36, e36, hf⟩ := lt_e hf
      refine lv_iinc (v := w36) (lv' := [(3, .int w36), (1, .int w35), (0, .ref (ad 0)), (2, .int x2)]) X.hx X.hb dX8_lettersMany_36 hl (k := 3) rfl (by rw [e36]; rfl) (by decide) rfl (fun ls hl => ?_)
      refine lv_goto (tgt := 14) X.hx X.hb dX8_lettersMany_39 (by decide) ?_
      exact hr14 _ _ _ _ _ _  hf hW hS (lv_sub hl [2, 1, 3, 0] rfl)
noncomputable def f_X8_lettersMany_L52 (st : St) : Nat → Int32 → Int32 → Int32 → Option Int32
  | 0, _, _, _ => none
  | fu + 1, x1, x2, x3 => if 26 ≤ x3 then some x2 else lt (x2 + ((x1 >>> (x3 &&& 31)) &&& 1)) fun w65 => lt (x3 + 1) fun w66 => (f_X8_lettersMany_L52 st fu) x1 w65 w66
set_option maxRecDepth 100000 in
theorem f_X8_lettersMany_L52_w {st : St} {res : Int32} (X : Cx V A cX8_lettersMany 4 RX8 p m c s args) (hr : meth.sig.returnType = (some .int)) (hlk : meth.locks = false)  : ∀ (n9 : Nat) (x1 : Int32) (x2 : Int32) (x3 : Int32) (H : Heap) (locs : List Loc) (ls : Array Slot), f_X8_lettersMany_L52 st n9 x1 x2 x3 = some res → (WdM V ad A) st H → va_S A s.heap H locs → lv_has ls 4 [(1, .int x1), (2, .int x2), (3, .int x3)] → W p l e (rmF 1 22 0 0) s m args below meth c H locs 0 0 (MQ below (Qwi A (WdM V ad A) res st) args s 0 0 A) (F0 m 52 ls []) := by
  intro n9
  induction n9 with
  | zero =>
    intro x1 x2 x3 H locs ls hf
    exact absurd hf (by unfold f_X8_lettersMany_L52; exact fun h => by cases h)
  | succ n9 hr52 =>
    intro x1 x2 x3 H locs ls hf hW hS hl
    
    unfold f_X8_lettersMany_L52 at hf
    refine lv_iload_n X.hx X.hb dX8_lettersMany_52 rfl (lv_at hl 2 rfl) ?_
    refine lv_bipush (v := 26) X.hx X.hb dX8_lettersMany_53 (by decide) ?_
    refine lv_icmp_ge (tgt := 72) X.hx X.hb dX8_lettersMany_55 (by decide) (fun c55 => ?_) (fun c55 => ?_)
    · replace hf := ite_t c55 hf
      refine lv_iload_n X.hx X.hb dX8_lettersMany_72 rfl (lv_at hl 1 rfl) ?_
      exact rt_i X hr hlk hW hS (Option.some.inj hf) (Nat.le_refl _) (Nat.le_refl _) dX8_lettersMany_73
    · replace hf := ite_f c55 hf
      refine lv_iload_n X.hx X.hb dX8_lettersMany_58 rfl (lv_at hl 1 rfl) ?_
      refine lv_iload_n X.hx X.hb dX8_lettersMany_59 rfl (lv_at hl 0 rfl) ?_
      refine lv_iload_n X.hx X.hb dX8_lettersMany_60 rfl (lv_at hl 2 rfl) ?_
      refine lv_ishr X.hx X.hb dX8_lettersMany_61 ?_
      refine lv_iconst (v := 1) X.hx X.hb dX8_lettersMany_62 (by decide) ?_
      refine lv_iand X.hx X.hb dX8_lettersMany_63 ?_
      refine lv_iadd X.hx X.hb dX8_lettersMany_64 ?_
      obtain ⟨w65, e65, hf⟩ := lt_e hf
      refine lv_nm e65 ?_
      refine lv_istore_n (lv' := [(2, .int w65), (1, .int x1), (3, .int x3)]) X.hx X.hb dX8_lettersMany_65 rfl hl (by decide) rfl (fun ls hl => ?_)
      obtain ⟨w66, e66, hf⟩ := lt_e hf
      refine lv_iinc (v := w66) (lv' := [(3, .int w66), (2, .int w65), (1, .int x1)]) X.hx X.hb dX8_lettersMany_66 hl (k := 2) rfl (by rw [e66]; rfl) (by decide) rfl (fun ls hl => ?_)
      refine lv_goto (tgt := 52) X.hx X.hb dX8_lettersMany_69 (by decide) ?_
      exact hr52 _ _ _ _ _ _  hf hW hS (lv_sub hl [2, 1, 0] rfl)
noncomputable def f_X8_lettersMany_L4 (st : St) : Nat → Int32 → Int32 → Option Int32
  | 0, _, _ => none
  | fu + 1, x1, x2 => if (st.1 1) ≤ x2 then f_X8_lettersMany_L52 st FU x1 0 0 else f_X8_lettersMany_L14 st ((f_X8_lettersMany_L4 st fu)) FU x1 x2 0
set_option maxRecDepth 100000 in
theorem f_X8_lettersMany_L4_w {st : St} {res : Int32} (X : Cx V A cX8_lettersMany 4 RX8 p m c s args) (hr : meth.sig.returnType = (some .int)) (hlk : meth.locks = false)  : ∀ (n9 : Nat) (x1 : Int32) (x2 : Int32) (H : Heap) (locs : List Loc) (ls : Array Slot), f_X8_lettersMany_L4 st n9 x1 x2 = some res → (WdM V ad A) st H → va_S A s.heap H locs → lv_has ls 4 [(0, .ref (ad 0)), (1, .int x1), (2, .int x2)] → W p l e (rmF 1 22 0 0) s m args below meth c H locs 0 0 (MQ below (Qwi A (WdM V ad A) res st) args s 0 0 A) (F0 m 4 ls []) := by
  intro n9
  induction n9 with
  | zero =>
    intro x1 x2 H locs ls hf
    exact absurd hf (by unfold f_X8_lettersMany_L4; exact fun h => by cases h)
  | succ n9 hr4 =>
    intro x1 x2 H locs ls hf hW hS hl
    
    unfold f_X8_lettersMany_L4 at hf
    refine lv_iload_n X.hx X.hb dX8_lettersMany_4 rfl (lv_at hl 2 rfl) ?_
    refine lv_aload_n X.hx X.hb dX8_lettersMany_5 rfl (lv_at hl 0 rfl) ?_
    refine gX8_words X hW dX8_lettersMany_6 ?_
    refine lv_icmp_ge (tgt := 48) X.hx X.hb dX8_lettersMany_9 (by decide) (fun c9 => ?_) (fun c9 => ?_)
    · replace hf := ite_t c9 hf
      refine lv_iconst (v := 0) X.hx X.hb dX8_lettersMany_48 (by decide) ?_
      refine lv_istore_n (lv' := [(2, .int 0), (0, .ref (ad 0)), (1, .int x1)]) X.hx X.hb dX8_lettersMany_49 rfl hl (by decide) rfl (fun ls hl => ?_)
      refine lv_iconst (v := 0) X.hx X.hb dX8_lettersMany_50 (by decide) ?_
      refine lv_istore_n (lv' := [(3, .int 0), (2, .int 0), (0, .ref (ad 0)), (1, .int x1)]) X.hx X.hb dX8_lettersMany_51 rfl hl (by decide) rfl (fun ls hl => ?_)
      exact f_X8_lettersMany_L52_w X hr hlk FU _ _ _ _ _ _  hf hW hS (lv_sub hl [3, 1, 0] rfl)
    · replace hf := ite_f c9 hf
      refine lv_iconst (v := 0) X.hx X.hb dX8_lettersMany_12 (by decide) ?_
      refine lv_istore_n (lv' := [(3, .int 0), (0, .ref (ad 0)), (1, .int x1), (2, .int x2)]) X.hx X.hb dX8_lettersMany_13 rfl hl (by decide) rfl (fun ls hl => ?_)
      exact f_X8_lettersMany_L14_w X hr hlk hr4 FU _ _ _ _ _ _  hf hW hS (lv_sub hl [1, 2, 3, 0] rfl)
noncomputable def f_X8_lettersMany (st : St) : Option Int32 := f_X8_lettersMany_L4 st FU 0 0
set_option maxRecDepth 100000 in
theorem w_X8_lettersMany (l : Launch) (V : Ev) (A : Nat → Prop) (ad : Nat → Nat) {st : St} {res : Int32} (hf : f_X8_lettersMany st = some res) : Cn l yX8_lettersMany cX8_lettersMany 4 (some .int) 1 22 0 0 V A (WdM V ad A) st [.ref (ad 0)] (Qwi A (WdM V ad A) res st) := by
  refine cn_of RX8 (by decide) rfl (fun p e s m below meth c ls X hr hlk hW hS hl => ?_) (Nat.le_of_ble_eq_true rfl)
  have hl : lv_has ls 4 [(0, .ref (ad 0))] := hl
  unfold f_X8_lettersMany at hf
  refine lv_iconst (v := 0) X.hx X.hb dX8_lettersMany_0 (by decide) ?_
  refine lv_istore_n (lv' := [(1, .int 0), (0, .ref (ad 0))]) X.hx X.hb dX8_lettersMany_1 rfl hl (by decide) rfl (fun ls hl => ?_)
  refine lv_iconst (v := 0) X.hx X.hb dX8_lettersMany_2 (by decide) ?_
  refine lv_istore_n (lv' := [(2, .int 0), (1, .int 0), (0, .ref (ad 0))]) X.hx X.hb dX8_lettersMany_3 rfl hl (by decide) rfl (fun ls hl => ?_)
  exact f_X8_lettersMany_L4_w X hr hlk FU _ _ _ _ _  hf hW hS (lv_sub hl [2, 1, 0] rfl)
-- WordSquaresModel.weightsAll
noncomputable def f_X8_weightsAll_L4 (st : St) : Nat → Int32 → Int32 → Option Int32
  | 0, _, _ => none
  | fu + 1, x1, x2 => if (st.1 1) ≤ x2 then some x1 else if inb x2 12 = true then lt (x1 + (st.2.1 2 x2.toNatClampNeg)) fun w20 => lt (x2 + 1) fun w21 => (f_X8_weightsAll_L4 st fu) w20 w21 else none
set_option maxRecDepth 100000 in
theorem f_X8_weightsAll_L4_w {st : St} {res : Int32} (X : Cx V A cX8_weightsAll 3 RX8 p m c s args) (hr : meth.sig.returnType = (some .int)) (hlk : meth.locks = false)  : ∀ (n9 : Nat) (x1 : Int32) (x2 : Int32) (H : Heap) (locs : List Loc) (ls : Array Slot), f_X8_weightsAll_L4 st n9 x1 x2 = some res → (WdM V ad A) st H → va_S A s.heap H locs → lv_has ls 3 [(0, .ref (ad 0)), (1, .int x1), (2, .int x2)] → W p l e (rmF 0 0 0 0) s m args below meth c H locs 0 0 (MQ below (Qwi A (WdM V ad A) res st) args s 0 0 A) (F0 m 4 ls []) := by
  intro n9
  induction n9 with
  | zero =>
    intro x1 x2 H locs ls hf
    exact absurd hf (by unfold f_X8_weightsAll_L4; exact fun h => by cases h)
  | succ n9 hr4 =>
    intro x1 x2 H locs ls hf hW hS hl
    
    unfold f_X8_weightsAll_L4 at hf
    refine lv_iload_n X.hx X.hb dX8_weightsAll_4 rfl (lv_at hl 2 rfl) ?_
    refine lv_aload_n X.hx X.hb dX8_weightsAll_5 rfl (lv_at hl 0 rfl) ?_
    refine gX8_words X hW dX8_weightsAll_6 ?_
    refine lv_icmp_ge (tgt := 27) X.hx X.hb dX8_weightsAll_9 (by decide) (fun c9 => ?_) (fun c9 => ?_)
    · replace hf := ite_t c9 hf
      refine lv_iload_n X.hx X.hb dX8_weightsAll_27 rfl (lv_at hl 1 rfl) ?_
      exact rt_i X hr hlk hW hS (Option.some.inj hf) (Nat.le_refl _) (Nat.le_refl _) dX8_weightsAll_28
    · replace hf := ite_f c9 hf
      refine lv_iload_n X.hx X.hb dX8_weightsAll_12 rfl (lv_at hl 1 rfl) ?_
      refine lv_aload_n X.hx X.hb dX8_weightsAll_13 rfl (lv_at hl 0 rfl) ?_
      refine gX8_weights X hW dX8_weightsAll_14 ?_
      refine lv_iload_n X.hx X.hb dX8_weightsAll_17 rfl (lv_at hl 2 rfl) ?_
      obtain ⟨h18, hf⟩ := ite_n hf
      refine aM_ld X hW isM_2 rfl h18 dX8_weightsAll_18 ?_
      refine lv_iadd X.hx X.hb dX8_weightsAll_19 ?_
      obtain ⟨w20, e20, hf⟩ := lt_e hf
      refine lv_nm e20 ?_
      refine lv_istore_n (lv' := [(1, .int w20), (0, .ref (ad 0)), (2, .int x2)]) X.hx X.hb dX8_weightsAll_20 rfl hl (by decide) rfl (fun ls hl => ?_)
      obtain ⟨w21, e21, hf⟩ := lt_e hf
      refine lv_iinc (v := w21) (lv' := [(2, .int w21), (1, .int w20), (0, .ref (ad 0))]) X.hx X.hb dX8_weightsAll_21 hl (k := 2) rfl (by rw [e21]; rfl) (by decide) rfl (fun ls hl => ?_)
      refine lv_goto (tgt := 4) X.hx X.hb dX8_weightsAll_24 (by decide) ?_
      exact hr4 _ _ _ _ _  hf hW hS (lv_sub hl [2, 1, 0] rfl)
noncomputable def f_X8_weightsAll (st : St) : Option Int32 := f_X8_weightsAll_L4 st FU 0 0
set_option maxRecDepth 100000 in
theorem w_X8_weightsAll (l : Launch) (V : Ev) (A : Nat → Prop) (ad : Nat → Nat) {st : St} {res : Int32} (hf : f_X8_weightsAll st = some res) : Cn l yX8_weightsAll cX8_weightsAll 3 (some .int) 0 0 0 0 V A (WdM V ad A) st [.ref (ad 0)] (Qwi A (WdM V ad A) res st) := by
  refine cn_of RX8 (by decide) rfl (fun p e s m below meth c ls X hr hlk hW hS hl => ?_) (Nat.le_of_ble_eq_true rfl)
  have hl : lv_has ls 3 [(0, .ref (ad 0))] := hl
  unfold f_X8_weightsAll at hf
  refine lv_iconst (v := 0) X.hx X.hb dX8_weightsAll_0 (by decide) ?_
  refine lv_istore_n (lv' := [(1, .int 0), (0, .ref (ad 0))]) X.hx X.hb dX8_weightsAll_1 rfl hl (by decide) rfl (fun ls hl => ?_)
  refine lv_iconst (v := 0) X.hx X.hb dX8_weightsAll_2 (by decide) ?_
  refine lv_istore_n (lv' := [(2, .int 0), (1, .int 0), (0, .ref (ad 0))]) X.hx X.hb dX8_weightsAll_3 rfl hl (by decide) rfl (fun ls hl => ?_)
  exact f_X8_weightsAll_L4_w X hr hlk FU _ _ _ _ _  hf hW hS (lv_sub hl [2, 1, 0] rfl)
-- WordSquaresModel.mirrorOf
noncomputable def f_X8_mirrorOf_J57 (st : St) (r2 : Int32 → Int32 → Option Int32) (r15 : Int32 → Int32 → Int32 → Int32 → Option Int32) (x1 : Int32) (x2 : Int32) (x4 : Int32) (t0 : Int32) : Option Int32 := lt (x4 + 1) fun w58 => r15 x1 x2 t0 w58
set_option maxRecDepth 100000 in
theorem f_X8_mirrorOf_J57_w {st : St} {r2 : Int32 → Int32 → Option Int32} {r15 : Int32 → Int32 → Int32 → Int32 → Option Int32} {res : Int32} (X : Cx V A cX8_mirrorOf 5 RX8 p m c s args) (hr : meth.sig.returnType = (some .int)) (hlk : meth.locks = false) (hr2 : ∀ (x1 : Int32) (x2 : Int32) (H : Heap) (locs : List Loc) (ls : Array Slot), r2 x1 x2 = some res → (WdM V ad A) st H → va_S A s.heap H locs → lv_has ls 5 [(0, .ref (ad 0)), (1, .int x1), (2, .int x2)] → W p l e (rmF 1 22 0 0) s m args below meth c H locs 0 0 (MQ below (Qwi A (WdM V ad A) res st) args s 0 0 A) (F0 m 2 ls [])) (hr15 : ∀ (x1 : Int32) (x2 : Int32) (x3 : Int32) (x4 : Int32) (H : Heap) (locs : List Loc) (ls : Array Slot), r15 x1 x2 x3 x4 = some res → (WdM V ad A) st H → va_S A s.heap H locs → lv_has ls 5 [(0, .ref (ad 0)), (1, .int x1), (2, .int x2), (3, .int x3), (4, .int x4)] → W p l e (rmF 1 22 0 0) s m args below meth c H locs 0 0 (MQ below (Qwi A (WdM V ad A) res st) args s 0 0 A) (F0 m 15 ls [])) (x1 : Int32) (x2 : Int32) (x4 : Int32) (t0 : Int32) (H : Heap) (locs : List Loc) (ls : Array Slot)  (hf : f_X8_mirrorOf_J57 st r2 r15 x1 x2 x4 t0 = some res) (hW : (WdM V ad A) st H) (hS : va_S A s.heap H locs) (hl : lv_has ls 5 [(0, .ref (ad 0)), (1, .int x1), (2, .int x2), (4, .int x4)]) : W p l e (rmF 1 22 0 0) s m args below meth c H locs 0 0 (MQ below (Qwi A (WdM V ad A) res st) args s 0 0 A) (F0 m 57 ls [.int t0]) := by
  
  unfold f_X8_mirrorOf_J57 at hf
  refine lv_istore_n (lv' := [(3, .int t0), (0, .ref (ad 0)), (1, .int x1), (2, .int x2), (4, .int x4)]) X.hx X.hb dX8_mirrorOf_57 rfl hl (by decide) rfl (fun ls hl => ?_)
  obtain ⟨w58, e58, hf⟩ := lt_e hf
  refine lv_iinc (v := w58) (lv' := [(4, .int w58), (3, .int t0), (0, .ref (ad 0)), (1, .int x1), (2, .int x2)]) X.hx X.hb dX8_mirrorOf_58 hl (k := 4) rfl (by rw [e58]; rfl) (by decide) rfl (fun ls hl => ?_)
  refine lv_goto (tgt := 15) X.hx X.hb dX8_mirrorOf_61 (by decide) ?_
  exact hr15 _ _ _ _ _ _ _  hf hW hS (lv_sub hl [2, 3, 4, 1, 0] rfl)
noncomputable def f_X8_mirrorOf_J56 (st : St) (r2 : Int32 → Int32 → Option Int32) (r15 : Int32 → Int32 → Int32 → Int32 → Option Int32) (x1 : Int32) (x2 : Int32) (x4 : Int32) : Option Int32 := f_X8_mirrorOf_J57 st r2 r15 x1 x2 x4 0
set_option maxRecDepth 100000 in
theorem f_X8_mirrorOf_J56_w {st : St} {r2 : Int32 → Int32 → Option Int32} {r15 : Int32 → Int32 → Int32 → Int32 → Option Int32} {res : Int32} (X : Cx V A cX8_mirrorOf 5 RX8 p m c s args) (hr : meth.sig.returnType = (some .int)) (hlk : meth.locks = false) (hr2 : ∀ (x1 : Int32) (x2 : Int32) (H : Heap) (locs : List Loc) (ls : Array Slot), r2 x1 x2 = some res → (WdM V ad A) st H → va_S A s.heap H locs → lv_has ls 5 [(0, .ref (ad 0)), (1, .int x1), (2, .int x2)] → W p l e (rmF 1 22 0 0) s m args below meth c H locs 0 0 (MQ below (Qwi A (WdM V ad A) res st) args s 0 0 A) (F0 m 2 ls [])) (hr15 : ∀ (x1 : Int32) (x2 : Int32) (x3 : Int32) (x4 : Int32) (H : Heap) (locs : List Loc) (ls : Array Slot), r15 x1 x2 x3 x4 = some res → (WdM V ad A) st H → va_S A s.heap H locs → lv_has ls 5 [(0, .ref (ad 0)), (1, .int x1), (2, .int x2), (3, .int x3), (4, .int x4)] → W p l e (rmF 1 22 0 0) s m args below meth c H locs 0 0 (MQ below (Qwi A (WdM V ad A) res st) args s 0 0 A) (F0 m 15 ls [])) (x1 : Int32) (x2 : Int32) (x4 : Int32) (H : Heap) (locs : List Loc) (ls : Array Slot)  (hf : f_X8_mirrorOf_J56 st r2 r15 x1 x2 x4 = some res) (hW : (WdM V ad A) st H) (hS : va_S A s.heap H locs) (hl : lv_has ls 5 [(0, .ref (ad 0)), (1, .int x1), (2, .int x2), (4, .int x4)]) : W p l e (rmF 1 22 0 0) s m args below meth c H locs 0 0 (MQ below (Qwi A (WdM V ad A) res st) args s 0 0 A) (F0 m 56 ls []) := by
  
  unfold f_X8_mirrorOf_J56 at hf
  refine lv_iconst (v := 0) X.hx X.hb dX8_mirrorOf_56 (by decide) ?_
  exact f_X8_mirrorOf_J57_w X hr hlk hr2 hr15 _ _ _ _ _ _ _  hf hW hS (lv_sub hl [0, 1, 2, 3] rfl)
noncomputable def f_X8_mirrorOf_L15 (st : St) (r2 : Int32 → Int32 → Option Int32) : Nat → Int32 → Int32 → Int32 → Int32 → Option Int32
  | 0, _, _, _, _ => none
  | fu + 1, x1, x2, x3, x4 => if (st.1 0) ≤ x4 then if x3 = 0 then lt (x2 + 1) fun w70 => r2 x1 w70 else some x2 else if x3 = 0 then f_X8_mirrorOf_J56 st r2 ((f_X8_mirrorOf_L15 st r2 fu)) x1 x2 x4 else (f_X8_at st x2 x4).bind fun b32 => (f_X8_at st x1 (((st.1 0) - 1) - x4)).bind fun b46 => if b32 = b46 then f_X8_mirrorOf_J57 st r2 ((f_X8_mirrorOf_L15 st r2 fu)) x1 x2 x4 1 else f_X8_mirrorOf_J56 st r2 ((f_X8_mirrorOf_L15 st r2 fu)) x1 x2 x4
set_option maxRecDepth 100000 in
theorem f_X8_mirrorOf_L15_w {st : St} {r2 : Int32 → Int32 → Option Int32} {res : Int32} (X : Cx V A cX8_mirrorOf 5 RX8 p m c s args) (hr : meth.sig.returnType = (some .int)) (hlk : meth.locks = false) (hr2 : ∀ (x1 : Int32) (x2 : Int32) (H : Heap) (locs : List Loc) (ls : Array Slot), r2 x1 x2 = some res → (WdM V ad A) st H → va_S A s.heap H locs → lv_has ls 5 [(0, .ref (ad 0)), (1, .int x1), (2, .int x2)] → W p l e (rmF 1 22 0 0) s m args below meth c H locs 0 0 (MQ below (Qwi A (WdM V ad A) res st) args s 0 0 A) (F0 m 2 ls [])) : ∀ (n9 : Nat) (x1 : Int32) (x2 : Int32) (x3 : Int32) (x4 : Int32) (H : Heap) (locs : List Loc) (ls : Array Slot), f_X8_mirrorOf_L15 st r2 n9 x1 x2 x3 x4 = some res → (WdM V ad A) st H → va_S A s.heap H locs → lv_has ls 5 [(0, .ref (ad 0)), (1, .int x1), (2, .int x2), (3, .int x3), (4, .int x4)] → W p l e (rmF 1 22 0 0) s m args below meth c H locs 0 0 (MQ below (Qwi A (WdM V ad A) res st) args s 0 0 A) (F0 m 15 ls []) := by
  intro n9
  induction n9 with
  | zero =>
    intro x1 x2 x3 x4 H locs ls hf
    exact absurd hf (by unfold f_X8_mirrorOf_L15; exact fun h => by cases h)
  | succ n9 hr15 =>
    intro x1 x2 x3 x4 H locs ls hf hW hS hl
    
    unfold f_X8_mirrorOf_L15 at hf
    refine lv_iload X.hx X.hb dX8_mirrorOf_15 (lv_at hl 4 rfl) ?_
    refine lv_aload_n X.hx X.hb dX8_mirrorOf_17 rfl (lv_at hl 0 rfl) ?_
    refine gX8_length X hW dX8_mirrorOf_18 ?_
    refine lv_icmp_ge (tgt := 64) X.hx X.hb dX8_mirrorOf_21 (by decide) (fun c21 => ?_) (fun c21 => ?_)
    · replace hf := ite_t c21 hf
      refine lv_iload_n X.hx X.hb dX8_mirrorOf_64 rfl (lv_at hl 3 rfl) ?_
      refine lv_if_eq (tgt := 70) X.hx X.hb dX8_mirrorOf_65 (by decide) (fun c65 => ?_) (fun c65 => ?_)
      · replace hf := ite_t c65 hf
        obtain ⟨w70, e70, hf⟩ := lt_e hf
        refine lv_iinc (v := w70) (lv' := [(2, .int w70), (0, .ref (ad 0)), (1, .int x1), (3, .int x3), (4, .int x4)]) X.hx X.hb dX8_mirrorOf_70 hl (k := 2) rfl (by rw [e70]; rfl) (by decide) rfl (fun ls hl => ?_)
        refine lv_goto (tgt := 2) X.hx X.hb dX8_mirrorOf_73 (by decide) ?_
        exact hr2 _ _ _ _ _  hf hW hS (lv_sub hl [1, 2, 0] rfl)
      · replace hf := ite_f c65 hf
        refine lv_iload_n X.hx X.hb dX8_mirrorOf_68 rfl (lv_at hl 2 rfl) ?_
        exact rt_i X hr hlk hW hS (Option.some.inj hf) (Nat.le_refl _) (Nat.le_refl _) dX8_mirrorOf_69
    · replace hf := ite_f c21 hf
      refine lv_iload_n X.hx X.hb dX8_mirrorOf_24 rfl (lv_at hl 3 rfl) ?_
      refine lv_if_eq (tgt := 56) X.hx X.hb dX8_mirrorOf_25 (by decide) (fun c25 => ?_) (fun c25 => ?_)
      · replace hf := ite_t c25 hf
        exact f_X8_mirrorOf_J56_w X hr hlk hr2 hr15 _ _ _ _ _ _  hf hW hS (lv_sub hl [0, 1, 2, 4] rfl)
      · replace hf := ite_f c25 hf
        refine lv_aload_n X.hx X.hb dX8_mirrorOf_28 rfl (lv_at hl 0 rfl) ?_
        refine lv_iload_n X.hx X.hb dX8_mirrorOf_29 rfl (lv_at hl 2 rfl) ?_
        refine lv_iload X.hx X.hb dX8_mirrorOf_30 (lv_at hl 4 rfl) ?_
        obtain ⟨b32, h32, hf⟩ := bnd hf
        refine cl_i (run_V (As := [.int x2, .int x4]) (rest := []) X (w_X8_at l V A ad h32) mw_X8_at ln_X8_130 (rcX8 X hW) hW hS rfl hl.1 rfl (Nat.le_of_ble_eq_true rfl) ⟨Nat.le_of_ble_eq_true rfl, Nat.le_of_ble_eq_true rfl⟩ ⟨Nat.le_refl _, Nat.le_refl _⟩ dX8_mirrorOf_32) hS (fun H locs hW hS => ?_)
        refine lv_aload_n X.hx X.hb dX8_mirrorOf_35 rfl (lv_at hl 0 rfl) ?_
        refine lv_iload_n X.hx X.hb dX8_mirrorOf_36 rfl (lv_at hl 1 rfl) ?_
        refine lv_aload_n X.hx X.hb dX8_mirrorOf_37 rfl (lv_at hl 0 rfl) ?_
        refine gX8_length X hW dX8_mirrorOf_38 ?_
        refine lv_iconst (v := 1) X.hx X.hb dX8_mirrorOf_41 (by decide) ?_
        refine lv_isub X.hx X.hb dX8_mirrorOf_42 ?_
        refine lv_iload X.hx X.hb dX8_mirrorOf_43 (lv_at hl 4 rfl) ?_
        refine lv_isub X.hx X.hb dX8_mirrorOf_45 ?_
        obtain ⟨b46, h46, hf⟩ := bnd hf
        refine cl_i (run_V (As := [.int x1, .int (((st.1 0) - 1) - x4)]) (rest := [.int b32]) X (w_X8_at l V A ad h46) mw_X8_at ln_X8_130 (rcX8 X hW) hW hS rfl hl.1 rfl (Nat.le_of_ble_eq_true rfl) ⟨Nat.le_of_ble_eq_true rfl, Nat.le_of_ble_eq_true rfl⟩ ⟨Nat.le_refl _, Nat.le_refl _⟩ dX8_mirrorOf_46) hS (fun H locs hW hS => ?_)
        refine lv_icmp_ne (tgt := 56) X.hx X.hb dX8_mirrorOf_49 (by decide) (fun c49 => ?_) (fun c49 => ?_)
        · replace hf := ite_f c49 hf
          exact f_X8_mirrorOf_J56_w X hr hlk hr2 hr15 _ _ _ _ _ _  hf hW hS (lv_sub hl [0, 1, 2, 4] rfl)
        · replace hf := ite_t c49 hf
          refine lv_iconst (v := 1) X.hx X.hb dX8_mirrorOf_52 (by decide) ?_
          refine lv_goto (tgt := 57) X.hx X.hb dX8_mirrorOf_53 (by decide) ?_
          exact f_X8_mirrorOf_J57_w X hr hlk hr2 hr15 _ _ _ _ _ _ _  hf hW hS (lv_sub hl [0, 1, 2, 4] rfl)
noncomputable def f_X8_mirrorOf_L2 (st : St) : Nat → Int32 → Int32 → Option Int32
  | 0, _, _ => none
  | fu + 1, x1, x2 => if (st.1 1) ≤ x2 then some (-1) else f_X8_mirrorOf_L15 st ((f_X8_mirrorOf_L2 st fu)) FU x1 x2 1 0
set_option maxRecDepth 100000 in
theorem f_X8_mirrorOf_L2_w {st : St} {res : Int32} (X : Cx V A cX8_mirrorOf 5 RX8 p m c s args) (hr : meth.sig.returnType = (some .int)) (hlk : meth.locks = false)  : ∀ (n9 : Nat) (x1 : Int32) (x2 : Int32) (H : Heap) (locs : List Loc) (ls : Array Slot), f_X8_mirrorOf_L2 st n9 x1 x2 = some res → (WdM V ad A) st H → va_S A s.heap H locs → lv_has ls 5 [(0, .ref (ad 0)), (1, .int x1), (2, .int x2)] → W p l e (rmF 1 22 0 0) s m args below meth c H locs 0 0 (MQ below (Qwi A (WdM V ad A) res st) args s 0 0 A) (F0 m 2 ls []) := by
  intro n9
  induction n9 with
  | zero =>
    intro x1 x2 H locs ls hf
    exact absurd hf (by unfold f_X8_mirrorOf_L2; exact fun h => by cases h)
  | succ n9 hr2 =>
    intro x1 x2 H locs ls hf hW hS hl
    
    unfold f_X8_mirrorOf_L2 at hf
    refine lv_iload_n X.hx X.hb dX8_mirrorOf_2 rfl (lv_at hl 2 rfl) ?_
    refine lv_aload_n X.hx X.hb dX8_mirrorOf_3 rfl (lv_at hl 0 rfl) ?_
    refine gX8_words X hW dX8_mirrorOf_4 ?_
    refine lv_icmp_ge (tgt := 76) X.hx X.hb dX8_mirrorOf_7 (by decide) (fun c7 => ?_) (fun c7 => ?_)
    · replace hf := ite_t c7 hf
      refine lv_iconst (v := (-1)) X.hx X.hb dX8_mirrorOf_76 (by decide) ?_
      exact rt_i X hr hlk hW hS (Option.some.inj hf) (Nat.le_refl _) (Nat.le_refl _) dX8_mirrorOf_77
    · replace hf := ite_f c7 hf
      refine lv_iconst (v := 1) X.hx X.hb dX8_mirrorOf_10 (by decide) ?_
      refine lv_istore_n (lv' := [(3, .int 1), (0, .ref (ad 0)), (1, .int x1), (2, .int x2)]) X.hx X.hb dX8_mirrorOf_11 rfl hl (by decide) rfl (fun ls hl => ?_)
      refine lv_iconst (v := 0) X.hx X.hb dX8_mirrorOf_12 (by decide) ?_
      refine lv_istore (lv' := [(4, .int 0), (3, .int 1), (0, .ref (ad 0)), (1, .int x1), (2, .int x2)]) X.hx X.hb dX8_mirrorOf_13 hl (by decide) rfl (fun ls hl => ?_)
      exact f_X8_mirrorOf_L15_w X hr hlk hr2 FU _ _ _ _ _ _ _  hf hW hS (lv_sub hl [2, 3, 4, 1, 0] rfl)
noncomputable def f_X8_mirrorOf (st : St) (a1 : Int32) : Option Int32 := f_X8_mirrorOf_L2 st FU a1 0
set_option maxRecDepth 100000 in
theorem w_X8_mirrorOf (l : Launch) (V : Ev) (A : Nat → Prop) (ad : Nat → Nat) {st : St} {a1 : Int32} {res : Int32} (hf : f_X8_mirrorOf st a1 = some res) : Cn l yX8_mirrorOf cX8_mirrorOf 5 (some .int) 1 22 0 0 V A (WdM V ad A) st [.ref (ad 0), .int a1] (Qwi A (WdM V ad A) res st) := by
  refine cn_of RX8 (by decide) rfl (fun p e s m below meth c ls X hr hlk hW hS hl => ?_) (Nat.le_of_ble_eq_true rfl)
  have hl : lv_has ls 5 [(0, .ref (ad 0)), (1, .int a1)] := hl
  unfold f_X8_mirrorOf at hf
  refine lv_iconst (v := 0) X.hx X.hb dX8_mirrorOf_0 (by decide) ?_
  refine lv_istore_n (lv' := [(2, .int 0), (0, .ref (ad 0)), (1, .int a1)]) X.hx X.hb dX8_mirrorOf_1 rfl hl (by decide) rfl (fun ls hl => ?_)
  exact f_X8_mirrorOf_L2_w X hr hlk FU _ _ _ _ _  hf hW hS (lv_sub hl [1, 2, 0] rfl)
-- WordSquaresModel.mirrored
noncomputable def f_X8_mirrored_J27 (st : St) (r4 : Int32 → Int32 → Option Int32) (x2 : Int32) (t0 : Int32) (t1 : Int32) : Option Int32 := lt (t1 + t0) fun w28 => lt (x2 + 1) fun w29 => r4 w28 w29
set_option maxRecDepth 100000 in
theorem f_X8_mirrored_J27_w {st : St} {r4 : Int32 → Int32 → Option Int32} {res : Int32} (X : Cx V A cX8_mirrored 3 RX8 p m c s args) (hr : meth.sig.returnType = (some .int)) (hlk : meth.locks = false) (hr4 : ∀ (x1 : Int32) (x2 : Int32) (H : Heap) (locs : List Loc) (ls : Array Slot), r4 x1 x2 = some res → (WdM V ad A) st H → va_S A s.heap H locs → lv_has ls 3 [(0, .ref (ad 0)), (1, .int x1), (2, .int x2)] → W p l e (rmF 2 46 0 0) s m args below meth c H locs 0 0 (MQ below (Qwi A (WdM V ad A) res st) args s 0 0 A) (F0 m 4 ls [])) (x2 : Int32) (t0 : Int32) (t1 : Int32) (H : Heap) (locs : List Loc) (ls : Array Slot)  (hf : f_X8_mirrored_J27 st r4 x2 t0 t1 = some res) (hW : (WdM V ad A) st H) (hS : va_S A s.heap H locs) (hl : lv_has ls 3 [(0, .ref (ad 0)), (2, .int x2)]) : W p l e (rmF 2 46 0 0) s m args below meth c H locs 0 0 (MQ below (Qwi A (WdM V ad A) res st) args s 0 0 A) (F0 m 27 ls [.int t0, .int t1]) := by
  
  unfold f_X8_mirrored_J27 at hf
  refine lv_iadd X.hx X.hb dX8_mirrored_27 ?_
  obtain ⟨w28, e28, hf⟩ := lt_e hf
  refine lv_nm e28 ?_
  refine lv_istore_n (lv' := [(1, .int w28), (0, .ref (ad 0)), (2, .int x2)]) X.hx X.hb dX8_mirrored_28 rfl hl (by decide) rfl (fun ls hl => ?_)
  obtain ⟨w29, e29, hf⟩ := lt_e hf
  refine lv_iinc (v := w29) (lv' := [(2, .int w29), (1, .int w28), (0, .ref (ad 0))]) X.hx X.hb dX8_mirrored_29 hl (k := 2) rfl (by rw [e29]; rfl) (by decide) rfl (fun ls hl => ?_)
  refine lv_goto (tgt := 4) X.hx X.hb dX8_mirrored_32 (by decide) ?_
  exact hr4 _ _ _ _ _  hf hW hS (lv_sub hl [2, 1, 0] rfl)
noncomputable def f_X8_mirrored_L4 (st : St) : Nat → Int32 → Int32 → Option Int32
  | 0, _, _ => none
  | fu + 1, x1, x2 => if (st.1 1) ≤ x2 then some x1 else (f_X8_mirrorOf st x2).bind fun b15 => if b15 = (-1) then f_X8_mirrored_J27 st ((f_X8_mirrored_L4 st fu)) x2 0 x1 else f_X8_mirrored_J27 st ((f_X8_mirrored_L4 st fu)) x2 1 x1
set_option maxRecDepth 100000 in
theorem f_X8_mirrored_L4_w {st : St} {res : Int32} (X : Cx V A cX8_mirrored 3 RX8 p m c s args) (hr : meth.sig.returnType = (some .int)) (hlk : meth.locks = false)  : ∀ (n9 : Nat) (x1 : Int32) (x2 : Int32) (H : Heap) (locs : List Loc) (ls : Array Slot), f_X8_mirrored_L4 st n9 x1 x2 = some res → (WdM V ad A) st H → va_S A s.heap H locs → lv_has ls 3 [(0, .ref (ad 0)), (1, .int x1), (2, .int x2)] → W p l e (rmF 2 46 0 0) s m args below meth c H locs 0 0 (MQ below (Qwi A (WdM V ad A) res st) args s 0 0 A) (F0 m 4 ls []) := by
  intro n9
  induction n9 with
  | zero =>
    intro x1 x2 H locs ls hf
    exact absurd hf (by unfold f_X8_mirrored_L4; exact fun h => by cases h)
  | succ n9 hr4 =>
    intro x1 x2 H locs ls hf hW hS hl
    
    unfold f_X8_mirrored_L4 at hf
    refine lv_iload_n X.hx X.hb dX8_mirrored_4 rfl (lv_at hl 2 rfl) ?_
    refine lv_aload_n X.hx X.hb dX8_mirrored_5 rfl (lv_at hl 0 rfl) ?_
    refine gX8_words X hW dX8_mirrored_6 ?_
    refine lv_icmp_ge (tgt := 35) X.hx X.hb dX8_mirrored_9 (by decide) (fun c9 => ?_) (fun c9 => ?_)
    · replace hf := ite_t c9 hf
      refine lv_iload_n X.hx X.hb dX8_mirrored_35 rfl (lv_at hl 1 rfl) ?_
      exact rt_i X hr hlk hW hS (Option.some.inj hf) (Nat.le_refl _) (Nat.le_refl _) dX8_mirrored_36
    · replace hf := ite_f c9 hf
      refine lv_iload_n X.hx X.hb dX8_mirrored_12 rfl (lv_at hl 1 rfl) ?_
      refine lv_aload_n X.hx X.hb dX8_mirrored_13 rfl (lv_at hl 0 rfl) ?_
      refine lv_iload_n X.hx X.hb dX8_mirrored_14 rfl (lv_at hl 2 rfl) ?_
      obtain ⟨b15, h15, hf⟩ := bnd hf
      refine cl_i (run_V (As := [.int x2]) (rest := [.int x1]) X (w_X8_mirrorOf l V A ad h15) mw_X8_mirrorOf ln_X8_137 (rcX8 X hW) hW hS rfl hl.1 rfl (Nat.le_of_ble_eq_true rfl) ⟨Nat.le_of_ble_eq_true rfl, Nat.le_of_ble_eq_true rfl⟩ ⟨Nat.le_refl _, Nat.le_refl _⟩ dX8_mirrored_15) hS (fun H locs hW hS => ?_)
      refine lv_iconst (v := (-1)) X.hx X.hb dX8_mirrored_18 (by decide) ?_
      refine lv_icmp_ne (tgt := 26) X.hx X.hb dX8_mirrored_19 (by decide) (fun c19 => ?_) (fun c19 => ?_)
      · replace hf := ite_f c19 hf
        refine lv_iconst (v := 1) X.hx X.hb dX8_mirrored_26 (by decide) ?_
        exact f_X8_mirrored_J27_w X hr hlk hr4 _ _ _ _ _ _  hf hW hS (lv_sub hl [0, 2] rfl)
      · replace hf := ite_t c19 hf
        refine lv_iconst (v := 0) X.hx X.hb dX8_mirrored_22 (by decide) ?_
        refine lv_goto (tgt := 27) X.hx X.hb dX8_mirrored_23 (by decide) ?_
        exact f_X8_mirrored_J27_w X hr hlk hr4 _ _ _ _ _ _  hf hW hS (lv_sub hl [0, 2] rfl)
noncomputable def f_X8_mirrored (st : St) : Option Int32 := f_X8_mirrored_L4 st FU 0 0
set_option maxRecDepth 100000 in
theorem w_X8_mirrored (l : Launch) (V : Ev) (A : Nat → Prop) (ad : Nat → Nat) {st : St} {res : Int32} (hf : f_X8_mirrored st = some res) : Cn l yX8_mirrored cX8_mirrored 3 (some .int) 2 46 0 0 V A (WdM V ad A) st [.ref (ad 0)] (Qwi A (WdM V ad A) res st) := by
  refine cn_of RX8 (by decide) rfl (fun p e s m below meth c ls X hr hlk hW hS hl => ?_) (Nat.le_of_ble_eq_true rfl)
  have hl : lv_has ls 3 [(0, .ref (ad 0))] := hl
  unfold f_X8_mirrored at hf
  refine lv_iconst (v := 0) X.hx X.hb dX8_mirrored_0 (by decide) ?_
  refine lv_istore_n (lv' := [(1, .int 0), (0, .ref (ad 0))]) X.hx X.hb dX8_mirrored_1 rfl hl (by decide) rfl (fun ls hl => ?_)
  refine lv_iconst (v := 0) X.hx X.hb dX8_mirrored_2 (by decide) ?_
  refine lv_istore_n (lv' := [(2, .int 0), (1, .int 0), (0, .ref (ad 0))]) X.hx X.hb dX8_mirrored_3 rfl hl (by decide) rfl (fun ls hl => ?_)
  exact f_X8_mirrored_L4_w X hr hlk FU _ _ _ _ _  hf hW hS (lv_sub hl [2, 1, 0] rfl)
-- WordSquaresModel.aboutNow
noncomputable def f_X8_aboutNow (st : St) (a1 : Int32) : Option Int32 := if a1 = 0 then some (st.1 0) else if a1 = 1 then some (st.1 1) else if a1 = 2 then (f_X8_beginnings st).bind fun b47 => some b47 else if a1 = 3 then (f_X8_lettersMany st).bind fun b52 => some b52 else if a1 = 4 then (f_X8_weightsAll st).bind fun b57 => some b57 else (f_X8_mirrored st).bind fun b62 => some b62
set_option maxRecDepth 100000 in
theorem w_X8_aboutNow (l : Launch) (V : Ev) (A : Nat → Prop) (ad : Nat → Nat) {st : St} {a1 : Int32} {res : Int32} (hf : f_X8_aboutNow st a1 = some res) : Cn l yX8_aboutNow cX8_aboutNow 2 (some .int) 3 68 0 0 V A (WdM V ad A) st [.ref (ad 0), .int a1] (Qwi A (WdM V ad A) res st) := by
  refine cn_of RX8 (by decide) rfl (fun p e s m below meth c ls X hr hlk hW hS hl => ?_) (Nat.le_of_ble_eq_true rfl)
  have hl : lv_has ls 2 [(0, .ref (ad 0)), (1, .int a1)] := hl
  unfold f_X8_aboutNow at hf
  refine lv_iload_n X.hx X.hb dX8_aboutNow_0 rfl (lv_at hl 1 rfl) ?_
  by_cases c1_0 : a1 = 0
  · replace hf := ite_t c1_0 hf
    refine lv_tableIn (tgt := 36) X.hx X.hb dX8_aboutNow_1 (by rw [c1_0]; decide) (by rw [c1_0]; decide) (by rw [c1_0]; rfl) (by decide) ?_
    refine lv_aload_n X.hx X.hb dX8_aboutNow_36 rfl (lv_at hl 0 rfl) ?_
    refine gX8_length X hW dX8_aboutNow_37 ?_
    exact rt_i X hr hlk hW hS (Option.some.inj hf) (Nat.le_refl _) (Nat.le_refl _) dX8_aboutNow_40
  replace hf := ite_f c1_0 hf
  by_cases c1_1 : a1 = 1
  · replace hf := ite_t c1_1 hf
    refine lv_tableIn (tgt := 41) X.hx X.hb dX8_aboutNow_1 (by rw [c1_1]; decide) (by rw [c1_1]; decide) (by rw [c1_1]; rfl) (by decide) ?_
    refine lv_aload_n X.hx X.hb dX8_aboutNow_41 rfl (lv_at hl 0 rfl) ?_
    refine gX8_words X hW dX8_aboutNow_42 ?_
    exact rt_i X hr hlk hW hS (Option.some.inj hf) (Nat.le_refl _) (Nat.le_refl _) dX8_aboutNow_45
  replace hf := ite_f c1_1 hf
  by_cases c1_2 : a1 = 2
  · replace hf := ite_t c1_2 hf
    refine lv_tableIn (tgt := 46) X.hx X.hb dX8_aboutNow_1 (by rw [c1_2]; decide) (by rw [c1_2]; decide) (by rw [c1_2]; rfl) (by decide) ?_
    refine lv_aload_n X.hx X.hb dX8_aboutNow_46 rfl (lv_at hl 0 rfl) ?_
    obtain ⟨b47, h47, hf⟩ := bnd hf
    refine cl_i (run_V (As := []) (rest := []) X (w_X8_beginnings l V A ad h47) mw_X8_beginnings ln_X8_141 (rcX8 X hW) hW hS rfl hl.1 rfl (Nat.le_of_ble_eq_true rfl) ⟨Nat.le_of_ble_eq_true rfl, Nat.le_of_ble_eq_true rfl⟩ ⟨Nat.le_refl _, Nat.le_refl _⟩ dX8_aboutNow_47) hS (fun H locs hW hS => ?_)
    exact rt_i X hr hlk hW hS (Option.some.inj hf) (Nat.le_refl _) (Nat.le_refl _) dX8_aboutNow_50
  replace hf := ite_f c1_2 hf
  by_cases c1_3 : a1 = 3
  · replace hf := ite_t c1_3 hf
    refine lv_tableIn (tgt := 51) X.hx X.hb dX8_aboutNow_1 (by rw [c1_3]; decide) (by rw [c1_3]; decide) (by rw [c1_3]; rfl) (by decide) ?_
    refine lv_aload_n X.hx X.hb dX8_aboutNow_51 rfl (lv_at hl 0 rfl) ?_
    obtain ⟨b52, h52, hf⟩ := bnd hf
    refine cl_i (run_V (As := []) (rest := []) X (w_X8_lettersMany l V A ad h52) mw_X8_lettersMany ln_X8_144 (rcX8 X hW) hW hS rfl hl.1 rfl (Nat.le_of_ble_eq_true rfl) ⟨Nat.le_of_ble_eq_true rfl, Nat.le_of_ble_eq_true rfl⟩ ⟨Nat.le_refl _, Nat.le_refl _⟩ dX8_aboutNow_52) hS (fun H locs hW hS => ?_)
    exact rt_i X hr hlk hW hS (Option.some.inj hf) (Nat.le_refl _) (Nat.le_refl _) dX8_aboutNow_55
  replace hf := ite_f c1_3 hf
  by_cases c1_4 : a1 = 4
  · replace hf := ite_t c1_4 hf
    refine lv_tableIn (tgt := 56) X.hx X.hb dX8_aboutNow_1 (by rw [c1_4]; decide) (by rw [c1_4]; decide) (by rw [c1_4]; rfl) (by decide) ?_
    refine lv_aload_n X.hx X.hb dX8_aboutNow_56 rfl (lv_at hl 0 rfl) ?_
    obtain ⟨b57, h57, hf⟩ := bnd hf
    refine cl_i (run_V (As := []) (rest := []) X (w_X8_weightsAll l V A ad h57) mw_X8_weightsAll ln_X8_147 (rcX8 X hW) hW hS rfl hl.1 rfl (Nat.le_of_ble_eq_true rfl) ⟨Nat.le_of_ble_eq_true rfl, Nat.le_of_ble_eq_true rfl⟩ ⟨Nat.le_refl _, Nat.le_refl _⟩ dX8_aboutNow_57) hS (fun H locs hW hS => ?_)
    exact rt_i X hr hlk hW hS (Option.some.inj hf) (Nat.le_refl _) (Nat.le_refl _) dX8_aboutNow_60
  replace hf := ite_f c1_4 hf
  have n1 : (a1).toInt < 0 ∨ 4 < (a1).toInt := by
    have q0 := lv_neT (a := 0) c1_0 (by decide)
    have q1 := lv_neT (a := 1) c1_1 (by decide)
    have q2 := lv_neT (a := 2) c1_2 (by decide)
    have q3 := lv_neT (a := 3) c1_3 (by decide)
    have q4 := lv_neT (a := 4) c1_4 (by decide)
    omega
  refine lv_tableOut (tgt := 61) X.hx X.hb dX8_aboutNow_1 n1 (by decide) ?_
  refine lv_aload_n X.hx X.hb dX8_aboutNow_61 rfl (lv_at hl 0 rfl) ?_
  obtain ⟨b62, h62, hf⟩ := bnd hf
  refine cl_i (run_V (As := []) (rest := []) X (w_X8_mirrored l V A ad h62) mw_X8_mirrored ln_X8_150 (rcX8 X hW) hW hS rfl hl.1 rfl (Nat.le_of_ble_eq_true rfl) ⟨Nat.le_of_ble_eq_true rfl, Nat.le_of_ble_eq_true rfl⟩ ⟨Nat.le_refl _, Nat.le_refl _⟩ dX8_aboutNow_62) hS (fun H locs hW hS => ?_)
  exact rt_i X hr hlk hW hS (Option.some.inj hf) (Nat.le_refl _) (Nat.le_refl _) dX8_aboutNow_65
-- WordSquaresModel.about
noncomputable def f_X8_about (st : St) (a1 : Int32) : Option Int32 := (f_X8_within a1 0 5).bind fun b3 => if b3 = 0 then some (-102) else (f_X8_aboutNow st a1).bind fun b11 => some b11
set_option maxRecDepth 100000 in
theorem w_X8_about (l : Launch) (V : Ev) (A : Nat → Prop) (ad : Nat → Nat) {st : St} {a1 : Int32} {res : Int32} (hf : f_X8_about st a1 = some res) : Cn l yX8_about cX8_about 2 (some .int) 4 89 0 0 V A (WdM V ad A) st [.ref (ad 0), .int a1] (Qwi A (WdM V ad A) res st) := by
  refine cn_of RX8 (by decide) rfl (fun p e s m below meth c ls X hr hlk hW hS hl => ?_) (Nat.le_of_ble_eq_true rfl)
  have hl : lv_has ls 2 [(0, .ref (ad 0)), (1, .int a1)] := hl
  unfold f_X8_about at hf
  refine lv_iload_n X.hx X.hb dX8_about_0 rfl (lv_at hl 1 rfl) ?_
  refine lv_iconst (v := 0) X.hx X.hb dX8_about_1 (by decide) ?_
  refine lv_iconst (v := 5) X.hx X.hb dX8_about_2 (by decide) ?_
  obtain ⟨b3, h3, hf⟩ := bnd hf
  refine cl_i (run_S (As := [.int a1, .int 0, .int 5]) (rest := []) X (w_X8_within l V A (WdM V ad A) st h3) mw_X8_within ln_X8_65 hW hS rfl hl.1 rfl (Nat.le_of_ble_eq_true rfl) ⟨Nat.le_of_ble_eq_true rfl, Nat.le_of_ble_eq_true rfl⟩ ⟨Nat.le_refl _, Nat.le_refl _⟩ dX8_about_3) hS (fun H locs hW hS => ?_)
  refine lv_if_eq (tgt := 17) X.hx X.hb dX8_about_6 (by decide) (fun c6 => ?_) (fun c6 => ?_)
  · replace hf := ite_t c6 hf
    refine lv_bipush (v := (-102)) X.hx X.hb dX8_about_17 (by decide) ?_
    exact rt_i X hr hlk hW hS (Option.some.inj hf) (Nat.le_refl _) (Nat.le_refl _) dX8_about_19
  · replace hf := ite_f c6 hf
    refine lv_aload_n X.hx X.hb dX8_about_9 rfl (lv_at hl 0 rfl) ?_
    refine lv_iload_n X.hx X.hb dX8_about_10 rfl (lv_at hl 1 rfl) ?_
    obtain ⟨b11, h11, hf⟩ := bnd hf
    refine cl_i (run_V (As := [.int a1]) (rest := []) X (w_X8_aboutNow l V A ad h11) mw_X8_aboutNow ln_X8_153 (rcX8 X hW) hW hS rfl hl.1 rfl (Nat.le_of_ble_eq_true rfl) ⟨Nat.le_of_ble_eq_true rfl, Nat.le_of_ble_eq_true rfl⟩ ⟨Nat.le_refl _, Nat.le_refl _⟩ dX8_about_11) hS (fun H locs hW hS => ?_)
    refine lv_goto (tgt := 19) X.hx X.hb dX8_about_14 (by decide) ?_
    exact rt_i X hr hlk hW hS (Option.some.inj hf) (Nat.le_refl _) (Nat.le_refl _) dX8_about_19
-- WordSquaresModel.sign
noncomputable def f_X8_sign_J31 (st : St) : Option Int32 := some (-101)
set_option maxRecDepth 100000 in
theorem f_X8_sign_J31_w {st : St} {res : Int32} (X : Cx V A cX8_sign 3 RX8 p m c s args) (hr : meth.sig.returnType = (some .int)) (hlk : meth.locks = false)  (H : Heap) (locs : List Loc) (ls : Array Slot)  (hf : f_X8_sign_J31 st  = some res) (hW : (WdM V ad A) st H) (hS : va_S A s.heap H locs) (hl : lv_has ls 3 []) : W p l e (rmF 2 43 0 0) s m args below meth c H locs 0 0 (MQ below (Qwi A (WdM V ad A) res st) args s 0 0 A) (F0 m 31 ls []) := by
  
  unfold f_X8_sign_J31 at hf
  refine lv_bipush (v := (-101)) X.hx X.hb dX8_sign_31 (by decide) ?_
  exact rt_i X hr hlk hW hS (Option.some.inj hf) (Nat.le_refl _) (Nat.le_refl _) dX8_sign_33
noncomputable def f_X8_sign (st : St) (a1 : Int32) (a2 : Int32) : Option Int32 := (f_X8_isWord st a1).bind fun b2 => if b2 = 0 then f_X8_sign_J31 st else (f_X8_within a2 0 ((st.1 0) - 1)).bind fun b16 => if b16 = 0 then f_X8_sign_J31 st else (f_X8_at st a1 a2).bind fun b25 => some b25
set_option maxRecDepth 100000 in
theorem w_X8_sign (l : Launch) (V : Ev) (A : Nat → Prop) (ad : Nat → Nat) {st : St} {a1 : Int32} {a2 : Int32} {res : Int32} (hf : f_X8_sign st a1 a2 = some res) : Cn l yX8_sign cX8_sign 3 (some .int) 2 43 0 0 V A (WdM V ad A) st [.ref (ad 0), .int a1, .int a2] (Qwi A (WdM V ad A) res st) := by
  refine cn_of RX8 (by decide) rfl (fun p e s m below meth c ls X hr hlk hW hS hl => ?_) (Nat.le_of_ble_eq_true rfl)
  have hl : lv_has ls 3 [(0, .ref (ad 0)), (1, .int a1), (2, .int a2)] := hl
  unfold f_X8_sign at hf
  refine lv_aload_n X.hx X.hb dX8_sign_0 rfl (lv_at hl 0 rfl) ?_
  refine lv_iload_n X.hx X.hb dX8_sign_1 rfl (lv_at hl 1 rfl) ?_
  obtain ⟨b2, h2, hf⟩ := bnd hf
  refine cl_i (run_V (As := [.int a1]) (rest := []) X (w_X8_isWord l V A ad h2) mw_X8_isWord ln_X8_124 (rcX8 X hW) hW hS rfl hl.1 rfl (Nat.le_of_ble_eq_true rfl) ⟨Nat.le_of_ble_eq_true rfl, Nat.le_of_ble_eq_true rfl⟩ ⟨Nat.le_refl _, Nat.le_refl _⟩ dX8_sign_2) hS (fun H locs hW hS => ?_)
  refine lv_if_eq (tgt := 31) X.hx X.hb dX8_sign_5 (by decide) (fun c5 => ?_) (fun c5 => ?_)
  · replace hf := ite_t c5 hf
    exact f_X8_sign_J31_w X hr hlk  _ _ _  hf hW hS (lv_sub hl [] rfl)
  · replace hf := ite_f c5 hf
    refine lv_iload_n X.hx X.hb dX8_sign_8 rfl (lv_at hl 2 rfl) ?_
    refine lv_iconst (v := 0) X.hx X.hb dX8_sign_9 (by decide) ?_
    refine lv_aload_n X.hx X.hb dX8_sign_10 rfl (lv_at hl 0 rfl) ?_
    refine gX8_length X hW dX8_sign_11 ?_
    refine lv_iconst (v := 1) X.hx X.hb dX8_sign_14 (by decide) ?_
    refine lv_isub X.hx X.hb dX8_sign_15 ?_
    obtain ⟨b16, h16, hf⟩ := bnd hf
    refine cl_i (run_S (As := [.int a2, .int 0, .int ((st.1 0) - 1)]) (rest := []) X (w_X8_within l V A (WdM V ad A) st h16) mw_X8_within ln_X8_65 hW hS rfl hl.1 rfl (Nat.le_of_ble_eq_true rfl) ⟨Nat.le_of_ble_eq_true rfl, Nat.le_of_ble_eq_true rfl⟩ ⟨Nat.le_refl _, Nat.le_refl _⟩ dX8_sign_16) hS (fun H locs hW hS => ?_)
    refine lv_if_eq (tgt := 31) X.hx X.hb dX8_sign_19 (by decide) (fun c19 => ?_) (fun c19 => ?_)
    · replace hf := ite_t c19 hf
      exact f_X8_sign_J31_w X hr hlk  _ _ _  hf hW hS (lv_sub hl [] rfl)
    · replace hf := ite_f c19 hf
      refine lv_aload_n X.hx X.hb dX8_sign_22 rfl (lv_at hl 0 rfl) ?_
      refine lv_iload_n X.hx X.hb dX8_sign_23 rfl (lv_at hl 1 rfl) ?_
      refine lv_iload_n X.hx X.hb dX8_sign_24 rfl (lv_at hl 2 rfl) ?_
      obtain ⟨b25, h25, hf⟩ := bnd hf
      refine cl_i (run_V (As := [.int a1, .int a2]) (rest := []) X (w_X8_at l V A ad h25) mw_X8_at ln_X8_130 (rcX8 X hW) hW hS rfl hl.1 rfl (Nat.le_of_ble_eq_true rfl) ⟨Nat.le_of_ble_eq_true rfl, Nat.le_of_ble_eq_true rfl⟩ ⟨Nat.le_refl _, Nat.le_refl _⟩ dX8_sign_25) hS (fun H locs hW hS => ?_)
      refine lv_goto (tgt := 33) X.hx X.hb dX8_sign_28 (by decide) ?_
      exact rt_i X hr hlk hW hS (Option.some.inj hf) (Nat.le_refl _) (Nat.le_refl _) dX8_sign_33
-- WordSquaresModel.beginsNow
noncomputable def f_X8_beginsNow_J31 (st : St) (r5 : Int32 → Int32 → Int32 → Int32 → Option Int32) (x1 : Int32) (x2 : Int32) (x4 : Int32) (t0 : Int32) (t1 : Int32) : Option Int32 := lt (t1 + t0) fun w32 => lt (x4 + 1) fun w33 => r5 x1 x2 w32 w33
set_option maxRecDepth 100000 in
theorem f_X8_beginsNow_J31_w {st : St} {r5 : Int32 → Int32 → Int32 → Int32 → Option Int32} {res : Int32} (X : Cx V A cX8_beginsNow 5 RX8 p m c s args) (hr : meth.sig.returnType = (some .int)) (hlk : meth.locks = false) (hr5 : ∀ (x1 : Int32) (x2 : Int32) (x3 : Int32) (x4 : Int32) (H : Heap) (locs : List Loc) (ls : Array Slot), r5 x1 x2 x3 x4 = some res → (WdM V ad A) st H → va_S A s.heap H locs → lv_has ls 5 [(0, .ref (ad 0)), (1, .int x1), (2, .int x2), (3, .int x3), (4, .int x4)] → W p l e (rmF 2 45 0 0) s m args below meth c H locs 0 0 (MQ below (Qwi A (WdM V ad A) res st) args s 0 0 A) (F0 m 5 ls [])) (x1 : Int32) (x2 : Int32) (x4 : Int32) (t0 : Int32) (t1 : Int32) (H : Heap) (locs : List Loc) (ls : Array Slot)  (hf : f_X8_beginsNow_J31 st r5 x1 x2 x4 t0 t1 = some res) (hW : (WdM V ad A) st H) (hS : va_S A s.heap H locs) (hl : lv_has ls 5 [(0, .ref (ad 0)), (1, .int x1), (2, .int x2), (4, .int x4)]) : W p l e (rmF 2 45 0 0) s m args below meth c H locs 0 0 (MQ below (Qwi A (WdM V ad A) res st) args s 0 0 A) (F0 m 31 ls [.int t0, .int t1]) := by
  
  unfold f_X8_beginsNow_J31 at hf
  refine lv_iadd X.hx X.hb dX8_beginsNow_31 ?_
  obtain ⟨w32, e32, hf⟩ := lt_e hf
  refine lv_nm e32 ?_
  refine lv_istore_n (lv' := [(3, .int w32), (0, .ref (ad 0)), (1, .int x1), (2, .int x2), (4, .int x4)]) X.hx X.hb dX8_beginsNow_32 rfl hl (by decide) rfl (fun ls hl => ?_)
  obtain ⟨w33, e33, hf⟩ := lt_e hf
  refine lv_iinc (v := w33) (lv' := [(4, .int w33), (3, .int w32), (0, .ref (ad 0)), (1, .int x1), (2, .int x2)]) X.hx X.hb dX8_beginsNow_33 hl (k := 4) rfl (by rw [e33]; rfl) (by decide) rfl (fun ls hl => ?_)
  refine lv_goto (tgt := 5) X.hx X.hb dX8_beginsNow_36 (by decide) ?_
  exact hr5 _ _ _ _ _ _ _  hf hW hS (lv_sub hl [2, 3, 4, 1, 0] rfl)
noncomputable def f_X8_beginsNow_L5 (st : St) : Nat → Int32 → Int32 → Int32 → Int32 → Option Int32
  | 0, _, _, _, _ => none
  | fu + 1, x1, x2, x3, x4 => if (st.1 1) ≤ x4 then some x3 else (f_X8_alike st x1 x4).bind fun b19 => if b19 < x2 then f_X8_beginsNow_J31 st ((f_X8_beginsNow_L5 st fu)) x1 x2 x4 0 x3 else f_X8_beginsNow_J31 st ((f_X8_beginsNow_L5 st fu)) x1 x2 x4 1 x3
set_option maxRecDepth 100000 in
theorem f_X8_beginsNow_L5_w {st : St} {res : Int32} (X : Cx V A cX8_beginsNow 5 RX8 p m c s args) (hr : meth.sig.returnType = (some .int)) (hlk : meth.locks = false)  : ∀ (n9 : Nat) (x1 : Int32) (x2 : Int32) (x3 : Int32) (x4 : Int32) (H : Heap) (locs : List Loc) (ls : Array Slot), f_X8_beginsNow_L5 st n9 x1 x2 x3 x4 = some res → (WdM V ad A) st H → va_S A s.heap H locs → lv_has ls 5 [(0, .ref (ad 0)), (1, .int x1), (2, .int x2), (3, .int x3), (4, .int x4)] → W p l e (rmF 2 45 0 0) s m args below meth c H locs 0 0 (MQ below (Qwi A (WdM V ad A) res st) args s 0 0 A) (F0 m 5 ls []) := by
  intro n9
  induction n9 with
  | zero =>
    intro x1 x2 x3 x4 H locs ls hf
    exact absurd hf (by unfold f_X8_beginsNow_L5; exact fun h => by cases h)
  | succ n9 hr5 =>
    intro x1 x2 x3 x4 H locs ls hf hW hS hl
    
    unfold f_X8_beginsNow_L5 at hf
    refine lv_iload X.hx X.hb dX8_beginsNow_5 (lv_at hl 4 rfl) ?_
    refine lv_aload_n X.hx X.hb dX8_beginsNow_7 rfl (lv_at hl 0 rfl) ?_
    refine gX8_words X hW dX8_beginsNow_8 ?_
    refine lv_icmp_ge (tgt := 39) X.hx X.hb dX8_beginsNow_11 (by decide) (fun c11 => ?_) (fun c11 => ?_)
    · replace hf := ite_t c11 hf
      refine lv_iload_n X.hx X.hb dX8_beginsNow_39 rfl (lv_at hl 3 rfl) ?_
      exact rt_i X hr hlk hW hS (Option.some.inj hf) (Nat.le_refl _) (Nat.le_refl _) dX8_beginsNow_40
    · replace hf := ite_f c11 hf
      refine lv_iload_n X.hx X.hb dX8_beginsNow_14 rfl (lv_at hl 3 rfl) ?_
      refine lv_aload_n X.hx X.hb dX8_beginsNow_15 rfl (lv_at hl 0 rfl) ?_
      refine lv_iload_n X.hx X.hb dX8_beginsNow_16 rfl (lv_at hl 1 rfl) ?_
      refine lv_iload X.hx X.hb dX8_beginsNow_17 (lv_at hl 4 rfl) ?_
      obtain ⟨b19, h19, hf⟩ := bnd hf
      refine cl_i (run_V (As := [.int x1, .int x4]) (rest := [.int x3]) X (w_X8_alike l V A ad h19) mw_X8_alike ln_X8_134 (rcX8 X hW) hW hS rfl hl.1 rfl (Nat.le_of_ble_eq_true rfl) ⟨Nat.le_of_ble_eq_true rfl, Nat.le_of_ble_eq_true rfl⟩ ⟨Nat.le_refl _, Nat.le_refl _⟩ dX8_beginsNow_19) hS (fun H locs hW hS => ?_)
      refine lv_iload_n X.hx X.hb dX8_beginsNow_22 rfl (lv_at hl 2 rfl) ?_
      refine lv_icmp_lt (tgt := 30) X.hx X.hb dX8_beginsNow_23 (by decide) (fun c23 => ?_) (fun c23 => ?_)
      · replace hf := ite_t c23 hf
        refine lv_iconst (v := 0) X.hx X.hb dX8_beginsNow_30 (by decide) ?_
        exact f_X8_beginsNow_J31_w X hr hlk hr5 _ _ _ _ _ _ _ _  hf hW hS (lv_sub hl [0, 1, 2, 4] rfl)
      · replace hf := ite_f c23 hf
        refine lv_iconst (v := 1) X.hx X.hb dX8_beginsNow_26 (by decide) ?_
        refine lv_goto (tgt := 31) X.hx X.hb dX8_beginsNow_27 (by decide) ?_
        exact f_X8_beginsNow_J31_w X hr hlk hr5 _ _ _ _ _ _ _ _  hf hW hS (lv_sub hl [0, 1, 2, 4] rfl)
noncomputable def f_X8_beginsNow (st : St) (a1 : Int32) (a2 : Int32) : Option Int32 := f_X8_beginsNow_L5 st FU a1 a2 0 0
set_option maxRecDepth 100000 in
theorem w_X8_beginsNow (l : Launch) (V : Ev) (A : Nat → Prop) (ad : Nat → Nat) {st : St} {a1 : Int32} {a2 : Int32} {res : Int32} (hf : f_X8_beginsNow st a1 a2 = some res) : Cn l yX8_beginsNow cX8_beginsNow 5 (some .int) 2 45 0 0 V A (WdM V ad A) st [.ref (ad 0), .int a1, .int a2] (Qwi A (WdM V ad A) res st) := by
  refine cn_of RX8 (by decide) rfl (fun p e s m below meth c ls X hr hlk hW hS hl => ?_) (Nat.le_of_ble_eq_true rfl)
  have hl : lv_has ls 5 [(0, .ref (ad 0)), (1, .int a1), (2, .int a2)] := hl
  unfold f_X8_beginsNow at hf
  refine lv_iconst (v := 0) X.hx X.hb dX8_beginsNow_0 (by decide) ?_
  refine lv_istore_n (lv' := [(3, .int 0), (0, .ref (ad 0)), (1, .int a1), (2, .int a2)]) X.hx X.hb dX8_beginsNow_1 rfl hl (by decide) rfl (fun ls hl => ?_)
  refine lv_iconst (v := 0) X.hx X.hb dX8_beginsNow_2 (by decide) ?_
  refine lv_istore (lv' := [(4, .int 0), (3, .int 0), (0, .ref (ad 0)), (1, .int a1), (2, .int a2)]) X.hx X.hb dX8_beginsNow_3 hl (by decide) rfl (fun ls hl => ?_)
  exact f_X8_beginsNow_L5_w X hr hlk FU _ _ _ _ _ _ _  hf hW hS (lv_sub hl [2, 3, 4, 1, 0] rfl)
-- WordSquaresModel.begins
noncomputable def f_X8_begins (st : St) (a1 : Int32) (a2 : Int32) : Option Int32 := (f_X8_isWord st a1).bind fun b2 => if b2 = 0 then some (-101) else (f_X8_within a2 0 (st.1 0)).bind fun b17 => if b17 = 0 then some (-102) else (f_X8_beginsNow st a1 a2).bind fun b26 => some b26
set_option maxRecDepth 100000 in
theorem w_X8_begins (l : Launch) (V : Ev) (A : Nat → Prop) (ad : Nat → Nat) {st : St} {a1 : Int32} {a2 : Int32} {res : Int32} (hf : f_X8_begins st a1 a2 = some res) : Cn l yX8_begins cX8_begins 3 (some .int) 3 69 0 0 V A (WdM V ad A) st [.ref (ad 0), .int a1, .int a2] (Qwi A (WdM V ad A) res st) := by
  refine cn_of RX8 (by decide) rfl (fun p e s m below meth c ls X hr hlk hW hS hl => ?_) (Nat.le_of_ble_eq_true rfl)
  have hl : lv_has ls 3 [(0, .ref (ad 0)), (1, .int a1), (2, .int a2)] := hl
  unfold f_X8_begins at hf
  refine lv_aload_n X.hx X.hb dX8_begins_0 rfl (lv_at hl 0 rfl) ?_
  refine lv_iload_n X.hx X.hb dX8_begins_1 rfl (lv_at hl 1 rfl) ?_
  obtain ⟨b2, h2, hf⟩ := bnd hf
  refine cl_i (run_V (As := [.int a1]) (rest := []) X (w_X8_isWord l V A ad h2) mw_X8_isWord ln_X8_124 (rcX8 X hW) hW hS rfl hl.1 rfl (Nat.le_of_ble_eq_true rfl) ⟨Nat.le_of_ble_eq_true rfl, Nat.le_of_ble_eq_true rfl⟩ ⟨Nat.le_refl _, Nat.le_refl _⟩ dX8_begins_2) hS (fun H locs hW hS => ?_)
  refine lv_if_ne (tgt := 11) X.hx X.hb dX8_begins_5 (by decide) (fun c5 => ?_) (fun c5 => ?_)
  · replace hf := ite_f c5 hf
    refine lv_iload_n X.hx X.hb dX8_begins_11 rfl (lv_at hl 2 rfl) ?_
    refine lv_iconst (v := 0) X.hx X.hb dX8_begins_12 (by decide) ?_
    refine lv_aload_n X.hx X.hb dX8_begins_13 rfl (lv_at hl 0 rfl) ?_
    refine gX8_length X hW dX8_begins_14 ?_
    obtain ⟨b17, h17, hf⟩ := bnd hf
    refine cl_i (run_S (As := [.int a2, .int 0, .int (st.1 0)]) (rest := []) X (w_X8_within l V A (WdM V ad A) st h17) mw_X8_within ln_X8_65 hW hS rfl hl.1 rfl (Nat.le_of_ble_eq_true rfl) ⟨Nat.le_of_ble_eq_true rfl, Nat.le_of_ble_eq_true rfl⟩ ⟨Nat.le_refl _, Nat.le_refl _⟩ dX8_begins_17) hS (fun H locs hW hS => ?_)
    refine lv_if_eq (tgt := 32) X.hx X.hb dX8_begins_20 (by decide) (fun c20 => ?_) (fun c20 => ?_)
    · replace hf := ite_t c20 hf
      refine lv_bipush (v := (-102)) X.hx X.hb dX8_begins_32 (by decide) ?_
      exact rt_i X hr hlk hW hS (Option.some.inj hf) (Nat.le_refl _) (Nat.le_refl _) dX8_begins_34
    · replace hf := ite_f c20 hf
      refine lv_aload_n X.hx X.hb dX8_begins_23 rfl (lv_at hl 0 rfl) ?_
      refine lv_iload_n X.hx X.hb dX8_begins_24 rfl (lv_at hl 1 rfl) ?_
      refine lv_iload_n X.hx X.hb dX8_begins_25 rfl (lv_at hl 2 rfl) ?_
      obtain ⟨b26, h26, hf⟩ := bnd hf
      refine cl_i (run_V (As := [.int a1, .int a2]) (rest := []) X (w_X8_beginsNow l V A ad h26) mw_X8_beginsNow ln_X8_156 (rcX8 X hW) hW hS rfl hl.1 rfl (Nat.le_of_ble_eq_true rfl) ⟨Nat.le_of_ble_eq_true rfl, Nat.le_of_ble_eq_true rfl⟩ ⟨Nat.le_refl _, Nat.le_refl _⟩ dX8_begins_26) hS (fun H locs hW hS => ?_)
      refine lv_goto (tgt := 34) X.hx X.hb dX8_begins_29 (by decide) ?_
      exact rt_i X hr hlk hW hS (Option.some.inj hf) (Nat.le_refl _) (Nat.le_refl _) dX8_begins_34
  · replace hf := ite_t c5 hf
    refine lv_bipush (v := (-101)) X.hx X.hb dX8_begins_8 (by decide) ?_
    exact rt_i X hr hlk hW hS (Option.some.inj hf) (Nat.le_refl _) (Nat.le_refl _) dX8_begins_10
-- WordSquaresModel.begin
noncomputable def f_X8_begin_L2 : Nat → St → Int32 → Option St
  | 0, _, _ => none
  | fu + 1, st, x1 => if 4 ≤ x1 then some st else if inb x1 4 = true then lt (sA st 6 x1.toNatClampNeg 0) fun s13 => lt (x1 + 1) fun w14 => (f_X8_begin_L2 fu) s13 w14 else none
set_option maxRecDepth 100000 in
theorem f_X8_begin_L2_w {res : St} (X : Cx V A cX8_begin 2 RX8 p m c s args) (hr : meth.sig.returnType = none) (hlk : meth.locks = false)  : ∀ (n9 : Nat) (st : St) (x1 : Int32) (H : Heap) (locs : List Loc) (ls : Array Slot), f_X8_begin_L2 n9 st x1 = some res → (WdM V ad A) st H → va_S A s.heap H locs → lv_has ls 2 [(0, .ref (ad 0)), (1, .int x1)] → W p l e (rmF 0 0 0 0) s m args below meth c H locs 0 0 (MQ below (Qwv A (WdM V ad A) res) args s 0 0 A) (F0 m 2 ls []) := by
  intro n9
  induction n9 with
  | zero =>
    intro st x1 H locs ls hf
    exact absurd hf (by unfold f_X8_begin_L2; exact fun h => by cases h)
  | succ n9 hr2 =>
    intro st x1 H locs ls hf hW hS hl
    
    unfold f_X8_begin_L2 at hf
    refine lv_iload_n X.hx X.hb dX8_begin_2 rfl (lv_at hl 1 rfl) ?_
    refine lv_iconst (v := 4) X.hx X.hb dX8_begin_3 (by decide) ?_
    refine lv_icmp_ge (tgt := 20) X.hx X.hb dX8_begin_4 (by decide) (fun c4 => ?_) (fun c4 => ?_)
    · replace hf := ite_t c4 hf
      exact rt_v X hr hlk (by rw [← Option.some.inj hf]; exact hW) hS (Nat.le_refl _) (Nat.le_refl _) dX8_begin_20
    · replace hf := ite_f c4 hf
      refine lv_aload_n X.hx X.hb dX8_begin_7 rfl (lv_at hl 0 rfl) ?_
      refine gX8_rowWord X hW dX8_begin_8 ?_
      refine lv_iload_n X.hx X.hb dX8_begin_11 rfl (lv_at hl 1 rfl) ?_
      refine lv_iconst (v := 0) X.hx X.hb dX8_begin_12 (by decide) ?_
      obtain ⟨h13, hf⟩ := ite_n hf
      obtain ⟨s13, e13, hf⟩ := lt_e hf
      refine aM_st X hW hS isM_6 rfl h13 dX8_begin_13 (fun H locs hW hS => ?_)
      rw [← e13] at hW
      obtain ⟨w14, e14, hf⟩ := lt_e hf
      refine lv_iinc (v := w14) (lv' := [(1, .int w14), (0, .ref (ad 0))]) X.hx X.hb dX8_begin_14 hl (k := 1) rfl (by rw [e14]; rfl) (by decide) rfl (fun ls hl => ?_)
      refine lv_goto (tgt := 2) X.hx X.hb dX8_begin_17 (by decide) ?_
      exact hr2 _ _ _ _ _  hf hW hS (lv_sub hl [1, 0] rfl)
noncomputable def f_X8_begin (st : St) : Option St := f_X8_begin_L2 FU st 0
set_option maxRecDepth 100000 in
theorem w_X8_begin (l : Launch) (V : Ev) (A : Nat → Prop) (ad : Nat → Nat) {st : St} {res : St} (hf : f_X8_begin st = some res) : Cn l yX8_begin cX8_begin 2 none 0 0 0 0 V A (WdM V ad A) st [.ref (ad 0)] (Qwv A (WdM V ad A) res) := by
  refine cn_of RX8 (by decide) rfl (fun p e s m below meth c ls X hr hlk hW hS hl => ?_) (Nat.le_of_ble_eq_true rfl)
  have hl : lv_has ls 2 [(0, .ref (ad 0))] := hl
  unfold f_X8_begin at hf
  refine lv_iconst (v := 0) X.hx X.hb dX8_begin_0 (by decide) ?_
  refine lv_istore_n (lv' := [(1, .int 0), (0, .ref (ad 0))]) X.hx X.hb dX8_begin_1 rfl hl (by decide) rfl (fun ls hl => ?_)
  exact f_X8_begin_L2_w X hr hlk FU _ _ _ _ _  hf hW hS (lv_sub hl [1, 0] rfl)
-- WordSquaresModel.next
noncomputable def f_X8_next_J39 (st : St) (x1 : Int32) : Option (Int32 × St) := if 0 ≤ x1 then if inb x1 4 = true then if inb x1 4 = true then lt (sA st 6 x1.toNatClampNeg ((st.2.1 6 x1.toNatClampNeg) + 1)) fun s54 => some (1, s54) else none else none else some (0, st)
set_option maxRecDepth 100000 in
theorem f_X8_next_J39_w {res : (Int32 × St)} (X : Cx V A cX8_next 2 RX8 p m c s args) (hr : meth.sig.returnType = (some .boolean)) (hlk : meth.locks = false)  (st : St) (x1 : Int32) (H : Heap) (locs : List Loc) (ls : Array Slot)  (hf : f_X8_next_J39 st x1 = some res) (hW : (WdM V ad A) st H) (hS : va_S A s.heap H locs) (hl : lv_has ls 2 [(0, .ref (ad 0)), (1, .int x1)]) : W p l e (rmF 0 0 0 0) s m args below meth c H locs 0 0 (MQ below (Qwi A (WdM V ad A) res.1 res.2) args s 0 0 A) (F0 m 39 ls []) := by
  
  unfold f_X8_next_J39 at hf
  refine lv_iload_n X.hx X.hb dX8_next_39 rfl (lv_at hl 1 rfl) ?_
  refine lv_if_ge (tgt := 45) X.hx X.hb dX8_next_40 (by decide) (fun c40 => ?_) (fun c40 => ?_)
  · replace hf := ite_t c40 hf
    refine lv_aload_n X.hx X.hb dX8_next_45 rfl (lv_at hl 0 rfl) ?_
    refine gX8_rowWord X hW dX8_next_46 ?_
    refine lv_iload_n X.hx X.hb dX8_next_49 rfl (lv_at hl 1 rfl) ?_
    refine lv_dup2_11 X.hx X.hb dX8_next_50 rfl rfl ?_
    obtain ⟨h51, hf⟩ := ite_n hf
    refine aM_ld X hW isM_6 rfl h51 dX8_next_51 ?_
    refine lv_iconst (v := 1) X.hx X.hb dX8_next_52 (by decide) ?_
    refine lv_iadd X.hx X.hb dX8_next_53 ?_
    obtain ⟨h54, hf⟩ := ite_n hf
    obtain ⟨s54, e54, hf⟩ := lt_e hf
    refine aM_st X hW hS isM_6 rfl h54 dX8_next_54 (fun H locs hW hS => ?_)
    rw [← e54] at hW
    refine lv_iconst (v := 1) X.hx X.hb dX8_next_55 (by decide) ?_
    exact rt_z X hr hlk (by rw [← Option.some.inj hf]; exact hW) hS (Or.inr rfl) (by rw [← Option.some.inj hf]) (Nat.le_refl _) (Nat.le_refl _) dX8_next_56
  · replace hf := ite_f c40 hf
    refine lv_iconst (v := 0) X.hx X.hb dX8_next_43 (by decide) ?_
    exact rt_z X hr hlk (by rw [← Option.some.inj hf]; exact hW) hS (Or.inl rfl) (by rw [← Option.some.inj hf]) (Nat.le_refl _) (Nat.le_refl _) dX8_next_44
noncomputable def f_X8_next_L7 : Nat → St → Int32 → Option (Int32 × St)
  | 0, _, _ => none
  | fu + 1, st, x1 => if x1 < 0 then f_X8_next_J39 st x1 else if inb x1 4 = true then if (st.2.1 6 x1.toNatClampNeg) = ((st.1 1) - 1) then if inb x1 4 = true then lt (sA st 6 x1.toNatClampNeg 0) fun s32 => lt (x1 + (-1)) fun w33 => (f_X8_next_L7 fu) s32 w33 else none else f_X8_next_J39 st x1 else none
set_option maxRecDepth 100000 in
theorem f_X8_next_L7_w {res : (Int32 × St)} (X : Cx V A cX8_next 2 RX8 p m c s args) (hr : meth.sig.returnType = (some .boolean)) (hlk : meth.locks = false)  : ∀ (n9 : Nat) (st : St) (x1 : Int32) (H : Heap) (locs : List Loc) (ls : Array Slot), f_X8_next_L7 n9 st x1 = some res → (WdM V ad A) st H → va_S A s.heap H locs → lv_has ls 2 [(0, .ref (ad 0)), (1, .int x1)] → W p l e (rmF 0 0 0 0) s m args below meth c H locs 0 0 (MQ below (Qwi A (WdM V ad A) res.1 res.2) args s 0 0 A) (F0 m 7 ls []) := by
  intro n9
  induction n9 with
  | zero =>
    intro st x1 H locs ls hf
    exact absurd hf (by unfold f_X8_next_L7; exact fun h => by cases h)
  | succ n9 hr7 =>
    intro st x1 H locs ls hf hW hS hl
    
    unfold f_X8_next_L7 at hf
    refine lv_iload_n X.hx X.hb dX8_next_7 rfl (lv_at hl 1 rfl) ?_
    refine lv_if_lt (tgt := 39) X.hx X.hb dX8_next_8 (by decide) (fun c8 => ?_) (fun c8 => ?_)
    · replace hf := ite_t c8 hf
      exact f_X8_next_J39_w X hr hlk _ _ _ _ _  hf hW hS (lv_sub hl [0, 1] rfl)
    · replace hf := ite_f c8 hf
      refine lv_aload_n X.hx X.hb dX8_next_11 rfl (lv_at hl 0 rfl) ?_
      refine gX8_rowWord X hW dX8_next_12 ?_
      refine lv_iload_n X.hx X.hb dX8_next_15 rfl (lv_at hl 1 rfl) ?_
      obtain ⟨h16, hf⟩ := ite_n hf
      refine aM_ld X hW isM_6 rfl h16 dX8_next_16 ?_
      refine lv_aload_n X.hx X.hb dX8_next_17 rfl (lv_at hl 0 rfl) ?_
      refine gX8_words X hW dX8_next_18 ?_
      refine lv_iconst (v := 1) X.hx X.hb dX8_next_21 (by decide) ?_
      refine lv_isub X.hx X.hb dX8_next_22 ?_
      refine lv_icmp_ne (tgt := 39) X.hx X.hb dX8_next_23 (by decide) (fun c23 => ?_) (fun c23 => ?_)
      · replace hf := ite_f c23 hf
        exact f_X8_next_J39_w X hr hlk _ _ _ _ _  hf hW hS (lv_sub hl [0, 1] rfl)
      · replace hf := ite_t c23 hf
        refine lv_aload_n X.hx X.hb dX8_next_26 rfl (lv_at hl 0 rfl) ?_
        refine gX8_rowWord X hW dX8_next_27 ?_
        refine lv_iload_n X.hx X.hb dX8_next_30 rfl (lv_at hl 1 rfl) ?_
        refine lv_iconst (v := 0) X.hx X.hb dX8_next_31 (by decide) ?_
        obtain ⟨h32, hf⟩ := ite_n hf
        obtain ⟨s32, e32, hf⟩ := lt_e hf
        refine aM_st X hW hS isM_6 rfl h32 dX8_next_32 (fun H locs hW hS => ?_)
        rw [← e32] at hW
        obtain ⟨w33, e33, hf⟩ := lt_e hf
        refine lv_iinc (v := w33) (lv' := [(1, .int w33), (0, .ref (ad 0))]) X.hx X.hb dX8_next_33 hl (k := 1) rfl (by rw [e33]; rfl) (by decide) rfl (fun ls hl => ?_)
        refine lv_goto (tgt := 7) X.hx X.hb dX8_next_36 (by decide) ?_
        exact hr7 _ _ _ _ _  hf hW hS (lv_sub hl [1, 0] rfl)
noncomputable def f_X8_next (st : St) : Option (Int32 × St) := lt ((st.1 0) - 1) fun w6 => f_X8_next_L7 FU st w6
set_option maxRecDepth 100000 in
theorem w_X8_next (l : Launch) (V : Ev) (A : Nat → Prop) (ad : Nat → Nat) {st : St} {res : (Int32 × St)} (hf : f_X8_next st = some res) : Cn l yX8_next cX8_next 2 (some .boolean) 0 0 0 0 V A (WdM V ad A) st [.ref (ad 0)] (Qwi A (WdM V ad A) res.1 res.2) := by
  refine cn_of RX8 (by decide) rfl (fun p e s m below meth c ls X hr hlk hW hS hl => ?_) (Nat.le_of_ble_eq_true rfl)
  have hl : lv_has ls 2 [(0, .ref (ad 0))] := hl
  unfold f_X8_next at hf
  refine lv_aload_n X.hx X.hb dX8_next_0 rfl (lv_at hl 0 rfl) ?_
  refine gX8_length X hW dX8_next_1 ?_
  refine lv_iconst (v := 1) X.hx X.hb dX8_next_4 (by decide) ?_
  refine lv_isub X.hx X.hb dX8_next_5 ?_
  obtain ⟨w6, e6, hf⟩ := lt_e hf
  refine lv_nm e6 ?_
  refine lv_istore_n (lv' := [(1, .int w6), (0, .ref (ad 0))]) X.hx X.hb dX8_next_6 rfl hl (by decide) rfl (fun ls hl => ?_)
  exact f_X8_next_L7_w X hr hlk FU _ _ _ _ _  hf hW hS (lv_sub hl [1, 0] rfl)
-- WordSquaresModel.wordOfColumn
noncomputable def f_X8_wordOfColumn_J55 (st : St) (r2 : Int32 → Int32 → Option Int32) (r15 : Int32 → Int32 → Int32 → Int32 → Option Int32) (x1 : Int32) (x2 : Int32) (x4 : Int32) (t0 : Int32) : Option Int32 := lt (x4 + 1) fun w56 => r15 x1 x2 t0 w56
set_option maxRecDepth 100000 in
theorem f_X8_wordOfColumn_J55_w {st : St} {r2 : Int32 → Int32 → Option Int32} {r15 : Int32 → Int32 → Int32 → Int32 → Option Int32} {res : Int32} (X : Cx V A cX8_wordOfColumn 5 RX8 p m c s args) (hr : meth.sig.returnType = (some .int)) (hlk : meth.locks = false) (hr2 : ∀ (x1 : Int32) (x2 : Int32) (H : Heap) (locs : List Loc) (ls : Array Slot), r2 x1 x2 = some res → (WdM V ad A) st H → va_S A s.heap H locs → lv_has ls 5 [(0, .ref (ad 0)), (1, .int x1), (2, .int x2)] → W p l e (rmF 1 22 0 0) s m args below meth c H locs 0 0 (MQ below (Qwi A (WdM V ad A) res st) args s 0 0 A) (F0 m 2 ls [])) (hr15 : ∀ (x1 : Int32) (x2 : Int32) (x3 : Int32) (x4 : Int32) (H : Heap) (locs : List Loc) (ls : Array Slot), r15 x1 x2 x3 x4 = some res → (WdM V ad A) st H → va_S A s.heap H locs → lv_has ls 5 [(0, .ref (ad 0)), (1, .int x1), (2, .int x2), (3, .int x3), (4, .int x4)] → W p l e (rmF 1 22 0 0) s m args below meth c H locs 0 0 (MQ below (Qwi A (WdM V ad A) res st) args s 0 0 A) (F0 m 15 ls [])) (x1 : Int32) (x2 : Int32) (x4 : Int32) (t0 : Int32) (H : Heap) (locs : List Loc) (ls : Array Slot)  (hf : f_X8_wordOfColumn_J55 st r2 r15 x1 x2 x4 t0 = some res) (hW : (WdM V ad A) st H) (hS : va_S A s.heap H locs) (hl : lv_has ls 5 [(0, .ref (ad 0)), (1, .int x1), (2, .int x2), (4, .int x4)]) : W p l e (rmF 1 22 0 0) s m args below meth c H locs 0 0 (MQ below (Qwi A (WdM V ad A) res st) args s 0 0 A) (F0 m 55 ls [.int t0]) := by
  
  unfold f_X8_wordOfColumn_J55 at hf
  refine lv_istore_n (lv' := [(3, .int t0), (0, .ref (ad 0)), (1, .int x1), (2, .int x2), (4, .int x4)]) X.hx X.hb dX8_wordOfColumn_55 rfl hl (by decide) rfl (fun ls hl => ?_)
  obtain ⟨w56, e56, hf⟩ := lt_e hf
  refine lv_iinc (v := w56) (lv' := [(4, .int w56), (3, .int t0), (0, .ref (ad 0)), (1, .int x1), (2, .int x2)]) X.hx X.hb dX8_wordOfColumn_56 hl (k := 4) rfl (by rw [e56]; rfl) (by decide) rfl (fun ls hl => ?_)
  refine lv_goto (tgt := 15) X.hx X.hb dX8_wordOfColumn_59 (by decide) ?_
  exact hr15 _ _ _ _ _ _ _  hf hW hS (lv_sub hl [2, 3, 4, 1, 0] rfl)
noncomputable def f_X8_wordOfColumn_J62 (st : St) (r2 : Int32 → Int32 → Option Int32) (x1 : Int32) (x2 : Int32) (x3 : Int32) : Option Int32 := if x3 = 0 then lt (x2 + 1) fun w68 => r2 x1 w68 else some x2
set_option maxRecDepth 100000 in
theorem f_X8_wordOfColumn_J62_w {st : St} {r2 : Int32 → Int32 → Option Int32} {res : Int32} (X : Cx V A cX8_wordOfColumn 5 RX8 p m c s args) (hr : meth.sig.returnType = (some .int)) (hlk : meth.locks = false) (hr2 : ∀ (x1 : Int32) (x2 : Int32) (H : Heap) (locs : List Loc) (ls : Array Slot), r2 x1 x2 = some res → (WdM V ad A) st H → va_S A s.heap H locs → lv_has ls 5 [(0, .ref (ad 0)), (1, .int x1), (2, .int x2)] → W p l e (rmF 1 22 0 0) s m args below meth c H locs 0 0 (MQ below (Qwi A (WdM V ad A) res st) args s 0 0 A) (F0 m 2 ls [])) (x1 : Int32) (x2 : Int32) (x3 : Int32) (H : Heap) (locs : List Loc) (ls : Array Slot)  (hf : f_X8_wordOfColumn_J62 st r2 x1 x2 x3 = some res) (hW : (WdM V ad A) st H) (hS : va_S A s.heap H locs) (hl : lv_has ls 5 [(0, .ref (ad 0)), (1, .int x1), (2, .int x2), (3, .int x3)]) : W p l e (rmF 1 22 0 0) s m args below meth c H locs 0 0 (MQ below (Qwi A (WdM V ad A) res st) args s 0 0 A) (F0 m 62 ls []) := by
  
  unfold f_X8_wordOfColumn_J62 at hf
  refine lv_iload_n X.hx X.hb dX8_wordOfColumn_62 rfl (lv_at hl 3 rfl) ?_
  refine lv_if_eq (tgt := 68) X.hx X.hb dX8_wordOfColumn_63 (by decide) (fun c63 => ?_) (fun c63 => ?_)
  · replace hf := ite_t c63 hf
    obtain ⟨w68, e68, hf⟩ := lt_e hf
    refine lv_iinc (v := w68) (lv' := [(2, .int w68), (0, .ref (ad 0)), (1, .int x1), (3, .int x3)]) X.hx X.hb dX8_wordOfColumn_68 hl (k := 2) rfl (by rw [e68]; rfl) (by decide) rfl (fun ls hl => ?_)
    refine lv_goto (tgt := 2) X.hx X.hb dX8_wordOfColumn_71 (by decide) ?_
    exact hr2 _ _ _ _ _  hf hW hS (lv_sub hl [1, 2, 0] rfl)
  · replace hf := ite_f c63 hf
    refine lv_iload_n X.hx X.hb dX8_wordOfColumn_66 rfl (lv_at hl 2 rfl) ?_
    exact rt_i X hr hlk hW hS (Option.some.inj hf) (Nat.le_refl _) (Nat.le_refl _) dX8_wordOfColumn_67
noncomputable def f_X8_wordOfColumn_L15 (st : St) (r2 : Int32 → Int32 → Option Int32) : Nat → Int32 → Int32 → Int32 → Int32 → Option Int32
  | 0, _, _, _, _ => none
  | fu + 1, x1, x2, x3, x4 => if (st.1 0) ≤ x4 then f_X8_wordOfColumn_J62 st r2 x1 x2 x3 else if x3 = 0 then f_X8_wordOfColumn_J62 st r2 x1 x2 x3 else if inb x4 4 = true then (f_X8_at st (st.2.1 6 x4.toNatClampNeg) x1).bind fun b37 => (f_X8_at st x2 x4).bind fun b44 => if b37 = b44 then f_X8_wordOfColumn_J55 st r2 ((f_X8_wordOfColumn_L15 st r2 fu)) x1 x2 x4 1 else f_X8_wordOfColumn_J55 st r2 ((f_X8_wordOfColumn_L15 st r2 fu)) x1 x2 x4 0 else none
set_option maxRecDepth 100000 in
theorem f_X8_wordOfColumn_L15_w {st : St} {r2 : Int32 → Int32 → Option Int32} {res : Int32} (X : Cx V A cX8_wordOfColumn 5 RX8 p m c s args) (hr : meth.sig.returnType = (some .int)) (hlk : meth.locks = false) (hr2 : ∀ (x1 : Int32) (x2 : Int32) (H : Heap) (locs : List Loc) (ls : Array Slot), r2 x1 x2 = some res → (WdM V ad A) st H → va_S A s.heap H locs → lv_has ls 5 [(0, .ref (ad 0)), (1, .int x1), (2, .int x2)] → W p l e (rmF 1 22 0 0) s m args below meth c H locs 0 0 (MQ below (Qwi A (WdM V ad A) res st) args s 0 0 A) (F0 m 2 ls [])) : ∀ (n9 : Nat) (x1 : Int32) (x2 : Int32) (x3 : Int32) (x4 : Int32) (H : Heap) (locs : List Loc) (ls : Array Slot), f_X8_wordOfColumn_L15 st r2 n9 x1 x2 x3 x4 = some res → (WdM V ad A) st H → va_S A s.heap H locs → lv_has ls 5 [(0, .ref (ad 0)), (1, .int x1), (2, .int x2), (3, .int x3), (4, .int x4)] → W p l e (rmF 1 22 0 0) s m args below meth c H locs 0 0 (MQ below (Qwi A (WdM V ad A) res st) args s 0 0 A) (F0 m 15 ls []) := by
  intro n9
  induction n9 with
  | zero =>
    intro x1 x2 x3 x4 H locs ls hf
    exact absurd hf (by unfold f_X8_wordOfColumn_L15; exact fun h => by cases h)
  | succ n9 hr15 =>
    intro x1 x2 x3 x4 H locs ls hf hW hS hl
    
    unfold f_X8_wordOfColumn_L15 at hf
    refine lv_iload X.hx X.hb dX8_wordOfColumn_15 (lv_at hl 4 rfl) ?_
    refine lv_aload_n X.hx X.hb dX8_wordOfColumn_17 rfl (lv_at hl 0 rfl) ?_
    refine gX8_length X hW dX8_wordOfColumn_18 ?_
    refine lv_icmp_ge (tgt := 62) X.hx X.hb dX8_wordOfColumn_21 (by decide) (fun c21 => ?_) (fun c21 => ?_)
    · replace hf := ite_t c21 hf
      exact f_X8_wordOfColumn_J62_w X hr hlk hr2 _ _ _ _ _ _  hf hW hS (lv_sub hl [0, 1, 2, 3] rfl)
    · replace hf := ite_f c21 hf
      refine lv_iload_n X.hx X.hb dX8_wordOfColumn_24 rfl (lv_at hl 3 rfl) ?_
      refine lv_if_eq (tgt := 62) X.hx X.hb dX8_wordOfColumn_25 (by decide) (fun c25 => ?_) (fun c25 => ?_)
      · replace hf := ite_t c25 hf
        exact f_X8_wordOfColumn_J62_w X hr hlk hr2 _ _ _ _ _ _  hf hW hS (lv_sub hl [0, 1, 2, 3] rfl)
      · replace hf := ite_f c25 hf
        refine lv_aload_n X.hx X.hb dX8_wordOfColumn_28 rfl (lv_at hl 0 rfl) ?_
        refine lv_aload_n X.hx X.hb dX8_wordOfColumn_29 rfl (lv_at hl 0 rfl) ?_
        refine gX8_rowWord X hW dX8_wordOfColumn_30 ?_
        refine lv_iload X.hx X.hb dX8_wordOfColumn_33 (lv_at hl 4 rfl) ?_
        obtain ⟨h35, hf⟩ := ite_n hf
        refine aM_ld X hW isM_6 rfl h35 dX8_wordOfColumn_35 ?_
        refine lv_iload_n X.hx X.hb dX8_wordOfColumn_36 rfl (lv_at hl 1 rfl) ?_
        obtain ⟨b37, h37, hf⟩ := bnd hf
        refine cl_i (run_V (As := [.int (st.2.1 6 x4.toNatClampNeg), .int x1]) (rest := []) X (w_X8_at l V A ad h37) mw_X8_at ln_X8_130 (rcX8 X hW) hW hS rfl hl.1 rfl (Nat.le_of_ble_eq_true rfl) ⟨Nat.le_of_ble_eq_true rfl, Nat.le_of_ble_eq_true rfl⟩ ⟨Nat.le_refl _, Nat.le_refl _⟩ dX8_wordOfColumn_37) hS (fun H locs hW hS => ?_)
        refine lv_aload_n X.hx X.hb dX8_wordOfColumn_40 rfl (lv_at hl 0 rfl) ?_
        refine lv_iload_n X.hx X.hb dX8_wordOfColumn_41 rfl (lv_at hl 2 rfl) ?_
        refine lv_iload X.hx X.hb dX8_wordOfColumn_42 (lv_at hl 4 rfl) ?_
        obtain ⟨b44, h44, hf⟩ := bnd hf
        refine cl_i (run_V (As := [.int x2, .int x4]) (rest := [.int b37]) X (w_X8_at l V A ad h44) mw_X8_at ln_X8_130 (rcX8 X hW) hW hS rfl hl.1 rfl (Nat.le_of_ble_eq_true rfl) ⟨Nat.le_of_ble_eq_true rfl, Nat.le_of_ble_eq_true rfl⟩ ⟨Nat.le_refl _, Nat.le_refl _⟩ dX8_wordOfColumn_44) hS (fun H locs hW hS => ?_)
        refine lv_icmp_ne (tgt := 54) X.hx X.hb dX8_wordOfColumn_47 (by decide) (fun c47 => ?_) (fun c47 => ?_)
        · replace hf := ite_f c47 hf
          refine lv_iconst (v := 0) X.hx X.hb dX8_wordOfColumn_54 (by decide) ?_
          exact f_X8_wordOfColumn_J55_w X hr hlk hr2 hr15 _ _ _ _ _ _ _  hf hW hS (lv_sub hl [0, 1, 2, 4] rfl)
        · replace hf := ite_t c47 hf
          refine lv_iconst (v := 1) X.hx X.hb dX8_wordOfColumn_50 (by decide) ?_
          refine lv_goto (tgt := 55) X.hx X.hb dX8_wordOfColumn_51 (by decide) ?_
          exact f_X8_wordOfColumn_J55_w X hr hlk hr2 hr15 _ _ _ _ _ _ _  hf hW hS (lv_sub hl [0, 1, 2, 4] rfl)
noncomputable def f_X8_wordOfColumn_L2 (st : St) : Nat → Int32 → Int32 → Option Int32
  | 0, _, _ => none
  | fu + 1, x1, x2 => if (st.1 1) ≤ x2 then some (-1) else f_X8_wordOfColumn_L15 st ((f_X8_wordOfColumn_L2 st fu)) FU x1 x2 1 0
set_option maxRecDepth 100000 in
theorem f_X8_wordOfColumn_L2_w {st : St} {res : Int32} (X : Cx V A cX8_wordOfColumn 5 RX8 p m c s args) (hr : meth.sig.returnType = (some .int)) (hlk : meth.locks = false)  : ∀ (n9 : Nat) (x1 : Int32) (x2 : Int32) (H : Heap) (locs : List Loc) (ls : Array Slot), f_X8_wordOfColumn_L2 st n9 x1 x2 = some res → (WdM V ad A) st H → va_S A s.heap H locs → lv_has ls 5 [(0, .ref (ad 0)), (1, .int x1), (2, .int x2)] → W p l e (rmF 1 22 0 0) s m args below meth c H locs 0 0 (MQ below (Qwi A (WdM V ad A) res st) args s 0 0 A) (F0 m 2 ls []) := by
  intro n9
  induction n9 with
  | zero =>
    intro x1 x2 H locs ls hf
    exact absurd hf (by unfold f_X8_wordOfColumn_L2; exact fun h => by cases h)
  | succ n9 hr2 =>
    intro x1 x2 H locs ls hf hW hS hl
    
    unfold f_X8_wordOfColumn_L2 at hf
    refine lv_iload_n X.hx X.hb dX8_wordOfColumn_2 rfl (lv_at hl 2 rfl) ?_
    refine lv_aload_n X.hx X.hb dX8_wordOfColumn_3 rfl (lv_at hl 0 rfl) ?_
    refine gX8_words X hW dX8_wordOfColumn_4 ?_
    refine lv_icmp_ge (tgt := 74) X.hx X.hb dX8_wordOfColumn_7 (by decide) (fun c7 => ?_) (fun c7 => ?_)
    · replace hf := ite_t c7 hf
      refine lv_iconst (v := (-1)) X.hx X.hb dX8_wordOfColumn_74 (by decide) ?_
      exact rt_i X hr hlk hW hS (Option.some.inj hf) (Nat.le_refl _) (Nat.le_refl _) dX8_wordOfColumn_75
    · replace hf := ite_f c7 hf
      refine lv_iconst (v := 1) X.hx X.hb dX8_wordOfColumn_10 (by decide) ?_
      refine lv_istore_n (lv' := [(3, .int 1), (0, .ref (ad 0)), (1, .int x1), (2, .int x2)]) X.hx X.hb dX8_wordOfColumn_11 rfl hl (by decide) rfl (fun ls hl => ?_)
      refine lv_iconst (v := 0) X.hx X.hb dX8_wordOfColumn_12 (by decide) ?_
      refine lv_istore (lv' := [(4, .int 0), (3, .int 1), (0, .ref (ad 0)), (1, .int x1), (2, .int x2)]) X.hx X.hb dX8_wordOfColumn_13 hl (by decide) rfl (fun ls hl => ?_)
      exact f_X8_wordOfColumn_L15_w X hr hlk hr2 FU _ _ _ _ _ _ _  hf hW hS (lv_sub hl [2, 3, 4, 1, 0] rfl)
noncomputable def f_X8_wordOfColumn (st : St) (a1 : Int32) : Option Int32 := f_X8_wordOfColumn_L2 st FU a1 0
set_option maxRecDepth 100000 in
theorem w_X8_wordOfColumn (l : Launch) (V : Ev) (A : Nat → Prop) (ad : Nat → Nat) {st : St} {a1 : Int32} {res : Int32} (hf : f_X8_wordOfColumn st a1 = some res) : Cn l yX8_wordOfColumn cX8_wordOfColumn 5 (some .int) 1 22 0 0 V A (WdM V ad A) st [.ref (ad 0), .int a1] (Qwi A (WdM V ad A) res st) := by
  refine cn_of RX8 (by decide) rfl (fun p e s m below meth c ls X hr hlk hW hS hl => ?_) (Nat.le_of_ble_eq_true rfl)
  have hl : lv_has ls 5 [(0, .ref (ad 0)), (1, .int a1)] := hl
  unfold f_X8_wordOfColumn at hf
  refine lv_iconst (v := 0) X.hx X.hb dX8_wordOfColumn_0 (by decide) ?_
  refine lv_istore_n (lv' := [(2, .int 0), (0, .ref (ad 0)), (1, .int a1)]) X.hx X.hb dX8_wordOfColumn_1 rfl hl (by decide) rfl (fun ls hl => ?_)
  exact f_X8_wordOfColumn_L2_w X hr hlk FU _ _ _ _ _  hf hW hS (lv_sub hl [1, 2, 0] rfl)
-- WordSquaresModel.isSquare
noncomputable def f_X8_isSquare_L2 : Nat → St → Int32 → Option (Int32 × St)
  | 0, _, _ => none
  | fu + 1, st, x1 => if (st.1 0) ≤ x1 then if (st.1 1) ≤ 0 then some (0, st) else some (1, st) else (f_X8_wordOfColumn st x1).bind fun b17 => if inb x1 4 = true then lt (sA st 7 x1.toNatClampNeg b17) fun s20 => if inb x1 4 = true then if (s20.2.1 7 x1.toNatClampNeg) = (-1) then some (0, s20) else lt (x1 + 1) fun w33 => (f_X8_isSquare_L2 fu) s20 w33 else none else none
set_option maxRecDepth 100000 in
theorem f_X8_isSquare_L2_w {res : (Int32 × St)} (X : Cx V A cX8_isSquare 2 RX8 p m c s args) (hr : meth.sig.returnType = (some .boolean)) (hlk : meth.locks = false)  : ∀ (n9 : Nat) (st : St) (x1 : Int32) (H : Heap) (locs : List Loc) (ls : Array Slot), f_X8_isSquare_L2 n9 st x1 = some res → (WdM V ad A) st H → va_S A s.heap H locs → lv_has ls 2 [(0, .ref (ad 0)), (1, .int x1)] → W p l e (rmF 2 46 0 0) s m args below meth c H locs 0 0 (MQ below (Qwi A (WdM V ad A) res.1 res.2) args s 0 0 A) (F0 m 2 ls []) := by
  intro n9
  induction n9 with
  | zero =>
    intro st x1 H locs ls hf
    exact absurd hf (by unfold f_X8_isSquare_L2; exact fun h => by cases h)
  | succ n9 hr2 =>
    intro st x1 H locs ls hf hW hS hl
    
    unfold f_X8_isSquare_L2 at hf
    refine lv_iload_n X.hx X.hb dX8_isSquare_2 rfl (lv_at hl 1 rfl) ?_
    refine lv_aload_n X.hx X.hb dX8_isSquare_3 rfl (lv_at hl 0 rfl) ?_
    refine gX8_length X hW dX8_isSquare_4 ?_
    refine lv_icmp_ge (tgt := 39) X.hx X.hb dX8_isSquare_7 (by decide) (fun c7 => ?_) (fun c7 => ?_)
    · replace hf := ite_t c7 hf
      refine lv_aload_n X.hx X.hb dX8_isSquare_39 rfl (lv_at hl 0 rfl) ?_
      refine gX8_words X hW dX8_isSquare_40 ?_
      refine lv_if_le (tgt := 50) X.hx X.hb dX8_isSquare_43 (by decide) (fun c43 => ?_) (fun c43 => ?_)
      · replace hf := ite_t c43 hf
        refine lv_iconst (v := 0) X.hx X.hb dX8_isSquare_50 (by decide) ?_
        exact rt_z X hr hlk (by rw [← Option.some.inj hf]; exact hW) hS (Or.inl rfl) (by rw [← Option.some.inj hf]) (Nat.le_refl _) (Nat.le_refl _) dX8_isSquare_51
      · replace hf := ite_f c43 hf
        refine lv_iconst (v := 1) X.hx X.hb dX8_isSquare_46 (by decide) ?_
        refine lv_goto (tgt := 51) X.hx X.hb dX8_isSquare_47 (by decide) ?_
        exact rt_z X hr hlk (by rw [← Option.some.inj hf]; exact hW) hS (Or.inr rfl) (by rw [← Option.some.inj hf]) (Nat.le_refl _) (Nat.le_refl _) dX8_isSquare_51
    · replace hf := ite_f c7 hf
      refine lv_aload_n X.hx X.hb dX8_isSquare_10 rfl (lv_at hl 0 rfl) ?_
      refine gX8_columnWord X hW dX8_isSquare_11 ?_
      refine lv_iload_n X.hx X.hb dX8_isSquare_14 rfl (lv_at hl 1 rfl) ?_
      refine lv_aload_n X.hx X.hb dX8_isSquare_15 rfl (lv_at hl 0 rfl) ?_
      refine lv_iload_n X.hx X.hb dX8_isSquare_16 rfl (lv_at hl 1 rfl) ?_
      obtain ⟨b17, h17, hf⟩ := bnd hf
      refine cl_i (run_V (As := [.int x1]) (rest := [.int x1, .ref (ad 7)]) X (w_X8_wordOfColumn l V A ad h17) mw_X8_wordOfColumn ln_X8_159 (rcX8 X hW) hW hS rfl hl.1 rfl (Nat.le_of_ble_eq_true rfl) ⟨Nat.le_of_ble_eq_true rfl, Nat.le_of_ble_eq_true rfl⟩ ⟨Nat.le_refl _, Nat.le_refl _⟩ dX8_isSquare_17) hS (fun H locs hW hS => ?_)
      obtain ⟨h20, hf⟩ := ite_n hf
      obtain ⟨s20, e20, hf⟩ := lt_e hf
      refine aM_st X hW hS isM_7 rfl h20 dX8_isSquare_20 (fun H locs hW hS => ?_)
      rw [← e20] at hW
      refine lv_aload_n X.hx X.hb dX8_isSquare_21 rfl (lv_at hl 0 rfl) ?_
      refine gX8_columnWord X hW dX8_isSquare_22 ?_
      refine lv_iload_n X.hx X.hb dX8_isSquare_25 rfl (lv_at hl 1 rfl) ?_
      obtain ⟨h26, hf⟩ := ite_n hf
      refine aM_ld X hW isM_7 rfl h26 dX8_isSquare_26 ?_
      refine lv_iconst (v := (-1)) X.hx X.hb dX8_isSquare_27 (by decide) ?_
      refine lv_icmp_ne (tgt := 33) X.hx X.hb dX8_isSquare_28 (by decide) (fun c28 => ?_) (fun c28 => ?_)
      · replace hf := ite_f c28 hf
        obtain ⟨w33, e33, hf⟩ := lt_e hf
        refine lv_iinc (v := w33) (lv' := [(1, .int w33), (0, .ref (ad 0))]) X.hx X.hb dX8_isSquare_33 hl (k := 1) rfl (by rw [e33]; rfl) (by decide) rfl (fun ls hl => ?_)
        refine lv_goto (tgt := 2) X.hx X.hb dX8_isSquare_36 (by decide) ?_
        exact hr2 _ _ _ _ _  hf hW hS (lv_sub hl [1, 0] rfl)
      · replace hf := ite_t c28 hf
        refine lv_iconst (v := 0) X.hx X.hb dX8_isSquare_31 (by decide) ?_
        exact rt_z X hr hlk (by rw [← Option.some.inj hf]; exact hW) hS (Or.inl rfl) (by rw [← Option.some.inj hf]) (Nat.le_refl _) (Nat.le_refl _) dX8_isSquare_32
noncomputable def f_X8_isSquare (st : St) : Option (Int32 × St) := f_X8_isSquare_L2 FU st 0
set_option maxRecDepth 100000 in
theorem w_X8_isSquare (l : Launch) (V : Ev) (A : Nat → Prop) (ad : Nat → Nat) {st : St} {res : (Int32 × St)} (hf : f_X8_isSquare st = some res) : Cn l yX8_isSquare cX8_isSquare 2 (some .boolean) 2 46 0 0 V A (WdM V ad A) st [.ref (ad 0)] (Qwi A (WdM V ad A) res.1 res.2) := by
  refine cn_of RX8 (by decide) rfl (fun p e s m below meth c ls X hr hlk hW hS hl => ?_) (Nat.le_of_ble_eq_true rfl)
  have hl : lv_has ls 2 [(0, .ref (ad 0))] := hl
  unfold f_X8_isSquare at hf
  refine lv_iconst (v := 0) X.hx X.hb dX8_isSquare_0 (by decide) ?_
  refine lv_istore_n (lv' := [(1, .int 0), (0, .ref (ad 0))]) X.hx X.hb dX8_isSquare_1 rfl hl (by decide) rfl (fun ls hl => ?_)
  exact f_X8_isSquare_L2_w X hr hlk FU _ _ _ _ _  hf hW hS (lv_sub hl [1, 0] rfl)
-- WordSquaresModel.isSame
noncomputable def f_X8_isSame_J36 (st : St) (r4 : Int32 → Int32 → Option Int32) (x2 : Int32) (t0 : Int32) : Option Int32 := lt (x2 + 1) fun w37 => r4 t0 w37
set_option maxRecDepth 100000 in
theorem f_X8_isSame_J36_w {st : St} {r4 : Int32 → Int32 → Option Int32} {res : Int32} (X : Cx V A cX8_isSame 3 RX8 p m c s args) (hr : meth.sig.returnType = (some .boolean)) (hlk : meth.locks = false) (hr4 : ∀ (x1 : Int32) (x2 : Int32) (H : Heap) (locs : List Loc) (ls : Array Slot), r4 x1 x2 = some res → (WdM V ad A) st H → va_S A s.heap H locs → lv_has ls 3 [(0, .ref (ad 0)), (1, .int x1), (2, .int x2)] → W p l e (rmF 0 0 0 0) s m args below meth c H locs 0 0 (MQ below (Qwi A (WdM V ad A) res st) args s 0 0 A) (F0 m 4 ls [])) (x2 : Int32) (t0 : Int32) (H : Heap) (locs : List Loc) (ls : Array Slot)  (hf : f_X8_isSame_J36 st r4 x2 t0 = some res) (hW : (WdM V ad A) st H) (hS : va_S A s.heap H locs) (hl : lv_has ls 3 [(0, .ref (ad 0)), (2, .int x2)]) : W p l e (rmF 0 0 0 0) s m args below meth c H locs 0 0 (MQ below (Qwi A (WdM V ad A) res st) args s 0 0 A) (F0 m 36 ls [.int t0]) := by
  
  unfold f_X8_isSame_J36 at hf
  refine lv_istore_n (lv' := [(1, .int t0), (0, .ref (ad 0)), (2, .int x2)]) X.hx X.hb dX8_isSame_36 rfl hl (by decide) rfl (fun ls hl => ?_)
  obtain ⟨w37, e37, hf⟩ := lt_e hf
  refine lv_iinc (v := w37) (lv' := [(2, .int w37), (1, .int t0), (0, .ref (ad 0))]) X.hx X.hb dX8_isSame_37 hl (k := 2) rfl (by rw [e37]; rfl) (by decide) rfl (fun ls hl => ?_)
  refine lv_goto (tgt := 4) X.hx X.hb dX8_isSame_40 (by decide) ?_
  exact hr4 _ _ _ _ _  hf hW hS (lv_sub hl [2, 1, 0] rfl)
noncomputable def f_X8_isSame_J35 (st : St) (r4 : Int32 → Int32 → Option Int32) (x2 : Int32) : Option Int32 := f_X8_isSame_J36 st r4 x2 0
set_option maxRecDepth 100000 in
theorem f_X8_isSame_J35_w {st : St} {r4 : Int32 → Int32 → Option Int32} {res : Int32} (X : Cx V A cX8_isSame 3 RX8 p m c s args) (hr : meth.sig.returnType = (some .boolean)) (hlk : meth.locks = false) (hr4 : ∀ (x1 : Int32) (x2 : Int32) (H : Heap) (locs : List Loc) (ls : Array Slot), r4 x1 x2 = some res → (WdM V ad A) st H → va_S A s.heap H locs → lv_has ls 3 [(0, .ref (ad 0)), (1, .int x1), (2, .int x2)] → W p l e (rmF 0 0 0 0) s m args below meth c H locs 0 0 (MQ below (Qwi A (WdM V ad A) res st) args s 0 0 A) (F0 m 4 ls [])) (x2 : Int32) (H : Heap) (locs : List Loc) (ls : Array Slot)  (hf : f_X8_isSame_J35 st r4 x2 = some res) (hW : (WdM V ad A) st H) (hS : va_S A s.heap H locs) (hl : lv_has ls 3 [(0, .ref (ad 0)), (2, .int x2)]) : W p l e (rmF 0 0 0 0) s m args below meth c H locs 0 0 (MQ below (Qwi A (WdM V ad A) res st) args s 0 0 A) (F0 m 35 ls []) := by
  
  unfold f_X8_isSame_J35 at hf
  refine lv_iconst (v := 0) X.hx X.hb dX8_isSame_35 (by decide) ?_
  exact f_X8_isSame_J36_w X hr hlk hr4 _ _ _ _ _  hf hW hS (lv_sub hl [0, 1] rfl)
noncomputable def f_X8_isSame_L4 (st : St) : Nat → Int32 → Int32 → Option Int32
  | 0, _, _ => none
  | fu + 1, x1, x2 => if (st.1 0) ≤ x2 then if x1 = 0 ∨ x1 = 1 then some x1 else none else if x1 = 0 then f_X8_isSame_J35 st ((f_X8_isSame_L4 st fu)) x2 else if inb x2 4 = true then if inb x2 4 = true then if (st.2.1 6 x2.toNatClampNeg) = (st.2.1 7 x2.toNatClampNeg) then f_X8_isSame_J36 st ((f_X8_isSame_L4 st fu)) x2 1 else f_X8_isSame_J35 st ((f_X8_isSame_L4 st fu)) x2 else none else none
set_option maxRecDepth 100000 in
theorem f_X8_isSame_L4_w {st : St} {res : Int32} (X : Cx V A cX8_isSame 3 RX8 p m c s args) (hr : meth.sig.returnType = (some .boolean)) (hlk : meth.locks = false)  : ∀ (n9 : Nat) (x1 : Int32) (x2 : Int32) (H : Heap) (locs : List Loc) (ls : Array Slot), f_X8_isSame_L4 st n9 x1 x2 = some res → (WdM V ad A) st H → va_S A s.heap H locs → lv_has ls 3 [(0, .ref (ad 0)), (1, .int x1), (2, .int x2)] → W p l e (rmF 0 0 0 0) s m args below meth c H locs 0 0 (MQ below (Qwi A (WdM V ad A) res st) args s 0 0 A) (F0 m 4 ls []) := by
  intro n9
  induction n9 with
  | zero =>
    intro x1 x2 H locs ls hf
    exact absurd hf (by unfold f_X8_isSame_L4; exact fun h => by cases h)
  | succ n9 hr4 =>
    intro x1 x2 H locs ls hf hW hS hl
    
    unfold f_X8_isSame_L4 at hf
    refine lv_iload_n X.hx X.hb dX8_isSame_4 rfl (lv_at hl 2 rfl) ?_
    refine lv_aload_n X.hx X.hb dX8_isSame_5 rfl (lv_at hl 0 rfl) ?_
    refine gX8_length X hW dX8_isSame_6 ?_
    refine lv_icmp_ge (tgt := 43) X.hx X.hb dX8_isSame_9 (by decide) (fun c9 => ?_) (fun c9 => ?_)
    · replace hf := ite_t c9 hf
      refine lv_iload_n X.hx X.hb dX8_isSame_43 rfl (lv_at hl 1 rfl) ?_
      obtain ⟨h44, hf⟩ := ite_n hf
      exact rt_z X hr hlk hW hS h44 (Option.some.inj hf) (Nat.le_refl _) (Nat.le_refl _) dX8_isSame_44
    · replace hf := ite_f c9 hf
      refine lv_iload_n X.hx X.hb dX8_isSame_12 rfl (lv_at hl 1 rfl) ?_
      refine lv_if_eq (tgt := 35) X.hx X.hb dX8_isSame_13 (by decide) (fun c13 => ?_) (fun c13 => ?_)
      · replace hf := ite_t c13 hf
        exact f_X8_isSame_J35_w X hr hlk hr4 _ _ _ _  hf hW hS (lv_sub hl [0, 2] rfl)
      · replace hf := ite_f c13 hf
        refine lv_aload_n X.hx X.hb dX8_isSame_16 rfl (lv_at hl 0 rfl) ?_
        refine gX8_rowWord X hW dX8_isSame_17 ?_
        refine lv_iload_n X.hx X.hb dX8_isSame_20 rfl (lv_at hl 2 rfl) ?_
        obtain ⟨h21, hf⟩ := ite_n hf
        refine aM_ld X hW isM_6 rfl h21 dX8_isSame_21 ?_
        refine lv_aload_n X.hx X.hb dX8_isSame_22 rfl (lv_at hl 0 rfl) ?_
        refine gX8_columnWord X hW dX8_isSame_23 ?_
        refine lv_iload_n X.hx X.hb dX8_isSame_26 rfl (lv_at hl 2 rfl) ?_
        obtain ⟨h27, hf⟩ := ite_n hf
        refine aM_ld X hW isM_7 rfl h27 dX8_isSame_27 ?_
        refine lv_icmp_ne (tgt := 35) X.hx X.hb dX8_isSame_28 (by decide) (fun c28 => ?_) (fun c28 => ?_)
        · replace hf := ite_f c28 hf
          exact f_X8_isSame_J35_w X hr hlk hr4 _ _ _ _  hf hW hS (lv_sub hl [0, 2] rfl)
        · replace hf := ite_t c28 hf
          refine lv_iconst (v := 1) X.hx X.hb dX8_isSame_31 (by decide) ?_
          refine lv_goto (tgt := 36) X.hx X.hb dX8_isSame_32 (by decide) ?_
          exact f_X8_isSame_J36_w X hr hlk hr4 _ _ _ _ _  hf hW hS (lv_sub hl [0, 2] rfl)
noncomputable def f_X8_isSame (st : St) : Option Int32 := f_X8_isSame_L4 st FU 1 0
set_option maxRecDepth 100000 in
theorem w_X8_isSame (l : Launch) (V : Ev) (A : Nat → Prop) (ad : Nat → Nat) {st : St} {res : Int32} (hf : f_X8_isSame st = some res) : Cn l yX8_isSame cX8_isSame 3 (some .boolean) 0 0 0 0 V A (WdM V ad A) st [.ref (ad 0)] (Qwi A (WdM V ad A) res st) := by
  refine cn_of RX8 (by decide) rfl (fun p e s m below meth c ls X hr hlk hW hS hl => ?_) (Nat.le_of_ble_eq_true rfl)
  have hl : lv_has ls 3 [(0, .ref (ad 0))] := hl
  unfold f_X8_isSame at hf
  refine lv_iconst (v := 1) X.hx X.hb dX8_isSame_0 (by decide) ?_
  refine lv_istore_n (lv' := [(1, .int 1), (0, .ref (ad 0))]) X.hx X.hb dX8_isSame_1 rfl hl (by decide) rfl (fun ls hl => ?_)
  refine lv_iconst (v := 0) X.hx X.hb dX8_isSame_2 (by decide) ?_
  refine lv_istore_n (lv' := [(2, .int 0), (1, .int 1), (0, .ref (ad 0))]) X.hx X.hb dX8_isSame_3 rfl hl (by decide) rfl (fun ls hl => ?_)
  exact f_X8_isSame_L4_w X hr hlk FU _ _ _ _ _  hf hW hS (lv_sub hl [2, 1, 0] rfl)
-- WordSquaresModel.isUnlike
noncomputable def f_X8_isUnlike_J79 (st : St) (r4 : Int32 → Int32 → Option Int32) (x1 : Int32) (x2 : Int32) (t0 : Int32) : Option Int32 := if inb x2 4 = true then lt (x1 ||| (1 <<< ((st.2.1 7 x2.toNatClampNeg) &&& 31))) fun w90 => if t0 = 0 then some 0 else lt (x2 + 1) fun w97 => r4 w90 w97 else none
set_option maxRecDepth 100000 in
theorem f_X8_isUnlike_J79_w {st : St} {r4 : Int32 → Int32 → Option Int32} {res : Int32} (X : Cx V A cX8_isUnlike 4 RX8 p m c s args) (hr : meth.sig.returnType = (some .boolean)) (hlk : meth.locks = false) (hr4 : ∀ (x1 : Int32) (x2 : Int32) (H : Heap) (locs : List Loc) (ls : Array Slot), r4 x1 x2 = some res → (WdM V ad A) st H → va_S A s.heap H locs → lv_has ls 4 [(0, .ref (ad 0)), (1, .int x1), (2, .int x2)] → W p l e (rmF 0 0 0 0) s m args below meth c H locs 0 0 (MQ below (Qwi A (WdM V ad A) res st) args s 0 0 A) (F0 m 4 ls [])) (x1 : Int32) (x2 : Int32) (t0 : Int32) (H : Heap) (locs : List Loc) (ls : Array Slot)  (hf : f_X8_isUnlike_J79 st r4 x1 x2 t0 = some res) (hW : (WdM V ad A) st H) (hS : va_S A s.heap H locs) (hl : lv_has ls 4 [(0, .ref (ad 0)), (1, .int x1), (2, .int x2)]) : W p l e (rmF 0 0 0 0) s m args below meth c H locs 0 0 (MQ below (Qwi A (WdM V ad A) res st) args s 0 0 A) (F0 m 79 ls [.int t0]) := by
  
  unfold f_X8_isUnlike_J79 at hf
  refine lv_istore_n (lv' := [(3, .int t0), (0, .ref (ad 0)), (1, .int x1), (2, .int x2)]) X.hx X.hb dX8_isUnlike_79 rfl hl (by decide) rfl (fun ls hl => ?_)
  refine lv_iload_n X.hx X.hb dX8_isUnlike_80 rfl (lv_at hl 2 rfl) ?_
  refine lv_iconst (v := 1) X.hx X.hb dX8_isUnlike_81 (by decide) ?_
  refine lv_aload_n X.hx X.hb dX8_isUnlike_82 rfl (lv_at hl 1 rfl) ?_
  refine gX8_columnWord X hW dX8_isUnlike_83 ?_
  refine lv_iload_n X.hx X.hb dX8_isUnlike_86 rfl (lv_at hl 3 rfl) ?_
  obtain ⟨h87, hf⟩ := ite_n hf
  refine aM_ld X hW isM_7 rfl h87 dX8_isUnlike_87 ?_
  refine lv_ishl X.hx X.hb dX8_isUnlike_88 ?_
  refine lv_ior X.hx X.hb dX8_isUnlike_89 ?_
  obtain ⟨w90, e90, hf⟩ := lt_e hf
  refine lv_nm e90 ?_
  refine lv_istore_n (lv' := [(1, .int w90), (3, .int t0), (0, .ref (ad 0)), (2, .int x2)]) X.hx X.hb dX8_isUnlike_90 rfl hl (by decide) rfl (fun ls hl => ?_)
  refine lv_iload_n X.hx X.hb dX8_isUnlike_91 rfl (lv_at hl 1 rfl) ?_
  refine lv_if_ne (tgt := 97) X.hx X.hb dX8_isUnlike_92 (by decide) (fun c92 => ?_) (fun c92 => ?_)
  · replace hf := ite_f c92 hf
    obtain ⟨w97, e97, hf⟩ := lt_e hf
    refine lv_iinc (v := w97) (lv' := [(2, .int w97), (1, .int w90), (3, .int t0), (0, .ref (ad 0))]) X.hx X.hb dX8_isUnlike_97 hl (k := 3) rfl (by rw [e97]; rfl) (by decide) rfl (fun ls hl => ?_)
    refine lv_goto (tgt := 4) X.hx X.hb dX8_isUnlike_100 (by decide) ?_
    exact hr4 _ _ _ _ _  hf hW hS (lv_sub hl [3, 1, 0] rfl)
  · replace hf := ite_t c92 hf
    refine lv_iconst (v := 0) X.hx X.hb dX8_isUnlike_95 (by decide) ?_
    exact rt_z X hr hlk hW hS (Or.inl rfl) (Option.some.inj hf) (Nat.le_refl _) (Nat.le_refl _) dX8_isUnlike_96
noncomputable def f_X8_isUnlike_J78 (st : St) (r4 : Int32 → Int32 → Option Int32) (x1 : Int32) (x2 : Int32) : Option Int32 := f_X8_isUnlike_J79 st r4 x1 x2 0
set_option maxRecDepth 100000 in
theorem f_X8_isUnlike_J78_w {st : St} {r4 : Int32 → Int32 → Option Int32} {res : Int32} (X : Cx V A cX8_isUnlike 4 RX8 p m c s args) (hr : meth.sig.returnType = (some .boolean)) (hlk : meth.locks = false) (hr4 : ∀ (x1 : Int32) (x2 : Int32) (H : Heap) (locs : List Loc) (ls : Array Slot), r4 x1 x2 = some res → (WdM V ad A) st H → va_S A s.heap H locs → lv_has ls 4 [(0, .ref (ad 0)), (1, .int x1), (2, .int x2)] → W p l e (rmF 0 0 0 0) s m args below meth c H locs 0 0 (MQ below (Qwi A (WdM V ad A) res st) args s 0 0 A) (F0 m 4 ls [])) (x1 : Int32) (x2 : Int32) (H : Heap) (locs : List Loc) (ls : Array Slot)  (hf : f_X8_isUnlike_J78 st r4 x1 x2 = some res) (hW : (WdM V ad A) st H) (hS : va_S A s.heap H locs) (hl : lv_has ls 4 [(0, .ref (ad 0)), (1, .int x1), (2, .int x2)]) : W p l e (rmF 0 0 0 0) s m args below meth c H locs 0 0 (MQ below (Qwi A (WdM V ad A) res st) args s 0 0 A) (F0 m 78 ls []) := by
  
  unfold f_X8_isUnlike_J78 at hf
  refine lv_iconst (v := 0) X.hx X.hb dX8_isUnlike_78 (by decide) ?_
  exact f_X8_isUnlike_J79_w X hr hlk hr4 _ _ _ _ _ _  hf hW hS (lv_sub hl [0, 1, 2] rfl)
noncomputable def f_X8_isUnlike_J45 (st : St) (r4 : Int32 → Int32 → Option Int32) (x1 : Int32) (x2 : Int32) (t0 : Int32) : Option Int32 := if inb x2 4 = true then lt (x1 ||| (1 <<< ((st.2.1 6 x2.toNatClampNeg) &&& 31))) fun w56 => if t0 = 0 then f_X8_isUnlike_J78 st r4 w56 x2 else if inb x2 4 = true then if ((w56 >>> ((st.2.1 7 x2.toNatClampNeg) &&& 31)) &&& 1) = 0 then f_X8_isUnlike_J79 st r4 w56 x2 1 else f_X8_isUnlike_J78 st r4 w56 x2 else none else none
set_option maxRecDepth 100000 in
theorem f_X8_isUnlike_J45_w {st : St} {r4 : Int32 → Int32 → Option Int32} {res : Int32} (X : Cx V A cX8_isUnlike 4 RX8 p m c s args) (hr : meth.sig.returnType = (some .boolean)) (hlk : meth.locks = false) (hr4 : ∀ (x1 : Int32) (x2 : Int32) (H : Heap) (locs : List Loc) (ls : Array Slot), r4 x1 x2 = some res → (WdM V ad A) st H → va_S A s.heap H locs → lv_has ls 4 [(0, .ref (ad 0)), (1, .int x1), (2, .int x2)] → W p l e (rmF 0 0 0 0) s m args below meth c H locs 0 0 (MQ below (Qwi A (WdM V ad A) res st) args s 0 0 A) (F0 m 4 ls [])) (x1 : Int32) (x2 : Int32) (t0 : Int32) (H : Heap) (locs : List Loc) (ls : Array Slot)  (hf : f_X8_isUnlike_J45 st r4 x1 x2 t0 = some res) (hW : (WdM V ad A) st H) (hS : va_S A s.heap H locs) (hl : lv_has ls 4 [(0, .ref (ad 0)), (1, .int x1), (2, .int x2)]) : W p l e (rmF 0 0 0 0) s m args below meth c H locs 0 0 (MQ below (Qwi A (WdM V ad A) res st) args s 0 0 A) (F0 m 45 ls [.int t0]) := by
  
  unfold f_X8_isUnlike_J45 at hf
  refine lv_istore_n (lv' := [(3, .int t0), (0, .ref (ad 0)), (1, .int x1), (2, .int x2)]) X.hx X.hb dX8_isUnlike_45 rfl hl (by decide) rfl (fun ls hl => ?_)
  refine lv_iload_n X.hx X.hb dX8_isUnlike_46 rfl (lv_at hl 2 rfl) ?_
  refine lv_iconst (v := 1) X.hx X.hb dX8_isUnlike_47 (by decide) ?_
  refine lv_aload_n X.hx X.hb dX8_isUnlike_48 rfl (lv_at hl 1 rfl) ?_
  refine gX8_rowWord X hW dX8_isUnlike_49 ?_
  refine lv_iload_n X.hx X.hb dX8_isUnlike_52 rfl (lv_at hl 3 rfl) ?_
  obtain ⟨h53, hf⟩ := ite_n hf
  refine aM_ld X hW isM_6 rfl h53 dX8_isUnlike_53 ?_
  refine lv_ishl X.hx X.hb dX8_isUnlike_54 ?_
  refine lv_ior X.hx X.hb dX8_isUnlike_55 ?_
  obtain ⟨w56, e56, hf⟩ := lt_e hf
  refine lv_nm e56 ?_
  refine lv_istore_n (lv' := [(1, .int w56), (3, .int t0), (0, .ref (ad 0)), (2, .int x2)]) X.hx X.hb dX8_isUnlike_56 rfl hl (by decide) rfl (fun ls hl => ?_)
  refine lv_iload_n X.hx X.hb dX8_isUnlike_57 rfl (lv_at hl 1 rfl) ?_
  refine lv_if_eq (tgt := 78) X.hx X.hb dX8_isUnlike_58 (by decide) (fun c58 => ?_) (fun c58 => ?_)
  · replace hf := ite_t c58 hf
    exact f_X8_isUnlike_J78_w X hr hlk hr4 _ _ _ _ _  hf hW hS (lv_sub hl [2, 0, 3] rfl)
  · replace hf := ite_f c58 hf
    refine lv_iload_n X.hx X.hb dX8_isUnlike_61 rfl (lv_at hl 0 rfl) ?_
    refine lv_aload_n X.hx X.hb dX8_isUnlike_62 rfl (lv_at hl 2 rfl) ?_
    refine gX8_columnWord X hW dX8_isUnlike_63 ?_
    refine lv_iload_n X.hx X.hb dX8_isUnlike_66 rfl (lv_at hl 3 rfl) ?_
    obtain ⟨h67, hf⟩ := ite_n hf
    refine aM_ld X hW isM_7 rfl h67 dX8_isUnlike_67 ?_
    refine lv_ishr X.hx X.hb dX8_isUnlike_68 ?_
    refine lv_iconst (v := 1) X.hx X.hb dX8_isUnlike_69 (by decide) ?_
    refine lv_iand X.hx X.hb dX8_isUnlike_70 ?_
    refine lv_if_ne (tgt := 78) X.hx X.hb dX8_isUnlike_71 (by decide) (fun c71 => ?_) (fun c71 => ?_)
    · replace hf := ite_f c71 hf
      exact f_X8_isUnlike_J78_w X hr hlk hr4 _ _ _ _ _  hf hW hS (lv_sub hl [2, 0, 3] rfl)
    · replace hf := ite_t c71 hf
      refine lv_iconst (v := 1) X.hx X.hb dX8_isUnlike_74 (by decide) ?_
      refine lv_goto (tgt := 79) X.hx X.hb dX8_isUnlike_75 (by decide) ?_
      exact f_X8_isUnlike_J79_w X hr hlk hr4 _ _ _ _ _ _  hf hW hS (lv_sub hl [2, 0, 3] rfl)
noncomputable def f_X8_isUnlike_J44 (st : St) (r4 : Int32 → Int32 → Option Int32) (x1 : Int32) (x2 : Int32) : Option Int32 := f_X8_isUnlike_J45 st r4 x1 x2 0
set_option maxRecDepth 100000 in
theorem f_X8_isUnlike_J44_w {st : St} {r4 : Int32 → Int32 → Option Int32} {res : Int32} (X : Cx V A cX8_isUnlike 4 RX8 p m c s args) (hr : meth.sig.returnType = (some .boolean)) (hlk : meth.locks = false) (hr4 : ∀ (x1 : Int32) (x2 : Int32) (H : Heap) (locs : List Loc) (ls : Array Slot), r4 x1 x2 = some res → (WdM V ad A) st H → va_S A s.heap H locs → lv_has ls 4 [(0, .ref (ad 0)), (1, .int x1), (2, .int x2)] → W p l e (rmF 0 0 0 0) s m args below meth c H locs 0 0 (MQ below (Qwi A (WdM V ad A) res st) args s 0 0 A) (F0 m 4 ls [])) (x1 : Int32) (x2 : Int32) (H : Heap) (locs : List Loc) (ls : Array Slot)  (hf : f_X8_isUnlike_J44 st r4 x1 x2 = some res) (hW : (WdM V ad A) st H) (hS : va_S A s.heap H locs) (hl : lv_has ls 4 [(0, .ref (ad 0)), (1, .int x1), (2, .int x2)]) : W p l e (rmF 0 0 0 0) s m args below meth c H locs 0 0 (MQ below (Qwi A (WdM V ad A) res st) args s 0 0 A) (F0 m 44 ls []) := by
  
  unfold f_X8_isUnlike_J44 at hf
  refine lv_iconst (v := 0) X.hx X.hb dX8_isUnlike_44 (by decide) ?_
  exact f_X8_isUnlike_J45_w X hr hlk hr4 _ _ _ _ _ _  hf hW hS (lv_sub hl [0, 1, 2] rfl)
noncomputable def f_X8_isUnlike_L4 (st : St) : Nat → Int32 → Int32 → Option Int32
  | 0, _, _ => none
  | fu + 1, x1, x2 => if (st.1 0) ≤ x2 then some 1 else if inb x2 4 = true then if ((x1 >>> ((st.2.1 6 x2.toNatClampNeg) &&& 31)) &&& 1) = 0 then if inb x2 4 = true then if inb x2 4 = true then if (st.2.1 6 x2.toNatClampNeg) = (st.2.1 7 x2.toNatClampNeg) then f_X8_isUnlike_J44 st ((f_X8_isUnlike_L4 st fu)) x1 x2 else f_X8_isUnlike_J45 st ((f_X8_isUnlike_L4 st fu)) x1 x2 1 else none else none else f_X8_isUnlike_J44 st ((f_X8_isUnlike_L4 st fu)) x1 x2 else none
set_option maxRecDepth 100000 in
theorem f_X8_isUnlike_L4_w {st : St} {res : Int32} (X : Cx V A cX8_isUnlike 4 RX8 p m c s args) (hr : meth.sig.returnType = (some .boolean)) (hlk : meth.locks = false)  : ∀ (n9 : Nat) (x1 : Int32) (x2 : Int32) (H : Heap) (locs : List Loc) (ls : Array Slot), f_X8_isUnlike_L4 st n9 x1 x2 = some res → (WdM V ad A) st H → va_S A s.heap H locs → lv_has ls 4 [(0, .ref (ad 0)), (1, .int x1), (2, .int x2)] → W p l e (rmF 0 0 0 0) s m args below meth c H locs 0 0 (MQ below (Qwi A (WdM V ad A) res st) args s 0 0 A) (F0 m 4 ls []) := by
  intro n9
  induction n9 with
  | zero =>
    intro x1 x2 H locs ls hf
    exact absurd hf (by unfold f_X8_isUnlike_L4; exact fun h => by cases h)
  | succ n9 hr4 =>
    intro x1 x2 H locs ls hf hW hS hl
    
    unfold f_X8_isUnlike_L4 at hf
    refine lv_iload_n X.hx X.hb dX8_isUnlike_4 rfl (lv_at hl 2 rfl) ?_
    refine lv_aload_n X.hx X.hb dX8_isUnlike_5 rfl (lv_at hl 0 rfl) ?_
    refine gX8_length X hW dX8_isUnlike_6 ?_
    refine lv_icmp_ge (tgt := 103) X.hx X.hb dX8_isUnlike_9 (by decide) (fun c9 => ?_) (fun c9 => ?_)
    · replace hf := ite_t c9 hf
      refine lv_iconst (v := 1) X.hx X.hb dX8_isUnlike_103 (by decide) ?_
      exact rt_z X hr hlk hW hS (Or.inr rfl) (Option.some.inj hf) (Nat.le_refl _) (Nat.le_refl _) dX8_isUnlike_104
    · replace hf := ite_f c9 hf
      refine lv_iload_n X.hx X.hb dX8_isUnlike_12 rfl (lv_at hl 1 rfl) ?_
      refine lv_aload_n X.hx X.hb dX8_isUnlike_13 rfl (lv_at hl 0 rfl) ?_
      refine gX8_rowWord X hW dX8_isUnlike_14 ?_
      refine lv_iload_n X.hx X.hb dX8_isUnlike_17 rfl (lv_at hl 2 rfl) ?_
      obtain ⟨h18, hf⟩ := ite_n hf
      refine aM_ld X hW isM_6 rfl h18 dX8_isUnlike_18 ?_
      refine lv_ishr X.hx X.hb dX8_isUnlike_19 ?_
      refine lv_iconst (v := 1) X.hx X.hb dX8_isUnlike_20 (by decide) ?_
      refine lv_iand X.hx X.hb dX8_isUnlike_21 ?_
      refine lv_if_ne (tgt := 44) X.hx X.hb dX8_isUnlike_22 (by decide) (fun c22 => ?_) (fun c22 => ?_)
      · replace hf := ite_f c22 hf
        exact f_X8_isUnlike_J44_w X hr hlk hr4 _ _ _ _ _  hf hW hS (lv_sub hl [0, 1, 2] rfl)
      · replace hf := ite_t c22 hf
        refine lv_aload_n X.hx X.hb dX8_isUnlike_25 rfl (lv_at hl 0 rfl) ?_
        refine gX8_rowWord X hW dX8_isUnlike_26 ?_
        refine lv_iload_n X.hx X.hb dX8_isUnlike_29 rfl (lv_at hl 2 rfl) ?_
        obtain ⟨h30, hf⟩ := ite_n hf
        refine aM_ld X hW isM_6 rfl h30 dX8_isUnlike_30 ?_
        refine lv_aload_n X.hx X.hb dX8_isUnlike_31 rfl (lv_at hl 0 rfl) ?_
        refine gX8_columnWord X hW dX8_isUnlike_32 ?_
        refine lv_iload_n X.hx X.hb dX8_isUnlike_35 rfl (lv_at hl 2 rfl) ?_
        obtain ⟨h36, hf⟩ := ite_n hf
        refine aM_ld X hW isM_7 rfl h36 dX8_isUnlike_36 ?_
        refine lv_icmp_eq (tgt := 44) X.hx X.hb dX8_isUnlike_37 (by decide) (fun c37 => ?_) (fun c37 => ?_)
        · replace hf := ite_t c37 hf
          exact f_X8_isUnlike_J44_w X hr hlk hr4 _ _ _ _ _  hf hW hS (lv_sub hl [0, 1, 2] rfl)
        · replace hf := ite_f c37 hf
          refine lv_iconst (v := 1) X.hx X.hb dX8_isUnlike_40 (by decide) ?_
          refine lv_goto (tgt := 45) X.hx X.hb dX8_isUnlike_41 (by decide) ?_
          exact f_X8_isUnlike_J45_w X hr hlk hr4 _ _ _ _ _ _  hf hW hS (lv_sub hl [0, 1, 2] rfl)
noncomputable def f_X8_isUnlike (st : St) : Option Int32 := f_X8_isUnlike_L4 st FU 0 0
set_option maxRecDepth 100000 in
theorem w_X8_isUnlike (l : Launch) (V : Ev) (A : Nat → Prop) (ad : Nat → Nat) {st : St} {res : Int32} (hf : f_X8_isUnlike st = some res) : Cn l yX8_isUnlike cX8_isUnlike 4 (some .boolean) 0 0 0 0 V A (WdM V ad A) st [.ref (ad 0)] (Qwi A (WdM V ad A) res st) := by
  refine cn_of RX8 (by decide) rfl (fun p e s m below meth c ls X hr hlk hW hS hl => ?_) (Nat.le_of_ble_eq_true rfl)
  have hl : lv_has ls 4 [(0, .ref (ad 0))] := hl
  unfold f_X8_isUnlike at hf
  refine lv_iconst (v := 0) X.hx X.hb dX8_isUnlike_0 (by decide) ?_
  refine lv_istore_n (lv' := [(1, .int 0), (0, .ref (ad 0))]) X.hx X.hb dX8_isUnlike_1 rfl hl (by decide) rfl (fun ls hl => ?_)
  refine lv_iconst (v := 0) X.hx X.hb dX8_isUnlike_2 (by decide) ?_
  refine lv_istore_n (lv' := [(2, .int 0), (1, .int 0), (0, .ref (ad 0))]) X.hx X.hb dX8_isUnlike_3 rfl hl (by decide) rfl (fun ls hl => ?_)
  exact f_X8_isUnlike_L4_w X hr hlk FU _ _ _ _ _  hf hW hS (lv_sub hl [2, 1, 0] rfl)
-- WordSquaresModel.isOf
noncomputable def f_X8_isOf_J33 (st : St) : Option (Int32 × St) := some (1, st)
set_option maxRecDepth 100000 in
theorem f_X8_isOf_J33_w {res : (Int32 × St)} (X : Cx V A cX8_isOf 2 RX8 p m c s args) (hr : meth.sig.returnType = (some .boolean)) (hlk : meth.locks = false)  (st : St) (H : Heap) (locs : List Loc) (ls : Array Slot)  (hf : f_X8_isOf_J33 st = some res) (hW : (WdM V ad A) st H) (hS : va_S A s.heap H locs) (hl : lv_has ls 2 []) : W p l e (rmF 3 67 0 0) s m args below meth c H locs 0 0 (MQ below (Qwi A (WdM V ad A) res.1 res.2) args s 0 0 A) (F0 m 33 ls []) := by
  
  unfold f_X8_isOf_J33 at hf
  refine lv_iconst (v := 1) X.hx X.hb dX8_isOf_33 (by decide) ?_
  refine lv_goto (tgt := 38) X.hx X.hb dX8_isOf_34 (by decide) ?_
  exact rt_z X hr hlk (by rw [← Option.some.inj hf]; exact hW) hS (Or.inr rfl) (by rw [← Option.some.inj hf]) (Nat.le_refl _) (Nat.le_refl _) dX8_isOf_38
noncomputable def f_X8_isOf_J37 (st : St) : Option (Int32 × St) := some (0, st)
set_option maxRecDepth 100000 in
theorem f_X8_isOf_J37_w {res : (Int32 × St)} (X : Cx V A cX8_isOf 2 RX8 p m c s args) (hr : meth.sig.returnType = (some .boolean)) (hlk : meth.locks = false)  (st : St) (H : Heap) (locs : List Loc) (ls : Array Slot)  (hf : f_X8_isOf_J37 st = some res) (hW : (WdM V ad A) st H) (hS : va_S A s.heap H locs) (hl : lv_has ls 2 []) : W p l e (rmF 3 67 0 0) s m args below meth c H locs 0 0 (MQ below (Qwi A (WdM V ad A) res.1 res.2) args s 0 0 A) (F0 m 37 ls []) := by
  
  unfold f_X8_isOf_J37 at hf
  refine lv_iconst (v := 0) X.hx X.hb dX8_isOf_37 (by decide) ?_
  exact rt_z X hr hlk (by rw [← Option.some.inj hf]; exact hW) hS (Or.inl rfl) (by rw [← Option.some.inj hf]) (Nat.le_refl _) (Nat.le_refl _) dX8_isOf_38
noncomputable def f_X8_isOf (st : St) (a1 : Int32) : Option (Int32 × St) := (f_X8_isSquare st).bind fun b1 => if b1.1 = 0 then f_X8_isOf_J37 b1.2 else if a1 = 0 then f_X8_isOf_J33 b1.2 else if a1 = 1 then (f_X8_isSame b1.2).bind fun b17 => if b17 = 0 then f_X8_isOf_J37 b1.2 else f_X8_isOf_J33 b1.2 else (f_X8_isUnlike b1.2).bind fun b27 => if b27 = 0 then f_X8_isOf_J37 b1.2 else f_X8_isOf_J33 b1.2
set_option maxRecDepth 100000 in
theorem w_X8_isOf (l : Launch) (V : Ev) (A : Nat → Prop) (ad : Nat → Nat) {st : St} {a1 : Int32} {res : (Int32 × St)} (hf : f_X8_isOf st a1 = some res) : Cn l yX8_isOf cX8_isOf 2 (some .boolean) 3 67 0 0 V A (WdM V ad A) st [.ref (ad 0), .int a1] (Qwi A (WdM V ad A) res.1 res.2) := by
  refine cn_of RX8 (by decide) rfl (fun p e s m below meth c ls X hr hlk hW hS hl => ?_) (Nat.le_of_ble_eq_true rfl)
  have hl : lv_has ls 2 [(0, .ref (ad 0)), (1, .int a1)] := hl
  unfold f_X8_isOf at hf
  refine lv_aload_n X.hx X.hb dX8_isOf_0 rfl (lv_at hl 0 rfl) ?_
  obtain ⟨b1, h1, hf⟩ := bnd hf
  refine cl_i (run_V (As := []) (rest := []) X (w_X8_isSquare l V A ad h1) mw_X8_isSquare ln_X8_162 (rcX8 X hW) hW hS rfl hl.1 rfl (Nat.le_of_ble_eq_true rfl) ⟨Nat.le_of_ble_eq_true rfl, Nat.le_of_ble_eq_true rfl⟩ ⟨Nat.le_refl _, Nat.le_refl _⟩ dX8_isOf_1) hS (fun H locs hW hS => ?_)
  refine lv_if_eq (tgt := 37) X.hx X.hb dX8_isOf_4 (by decide) (fun c4 => ?_) (fun c4 => ?_)
  · replace hf := ite_t c4 hf
    exact f_X8_isOf_J37_w X hr hlk _ _ _ _  hf hW hS (lv_sub hl [] rfl)
  · replace hf := ite_f c4 hf
    refine lv_iload_n X.hx X.hb dX8_isOf_7 rfl (lv_at hl 1 rfl) ?_
    refine lv_if_eq (tgt := 33) X.hx X.hb dX8_isOf_8 (by decide) (fun c8 => ?_) (fun c8 => ?_)
    · replace hf := ite_t c8 hf
      exact f_X8_isOf_J33_w X hr hlk _ _ _ _  hf hW hS (lv_sub hl [] rfl)
    · replace hf := ite_f c8 hf
      refine lv_iload_n X.hx X.hb dX8_isOf_11 rfl (lv_at hl 1 rfl) ?_
      refine lv_iconst (v := 1) X.hx X.hb dX8_isOf_12 (by decide) ?_
      refine lv_icmp_ne (tgt := 26) X.hx X.hb dX8_isOf_13 (by decide) (fun c13 => ?_) (fun c13 => ?_)
      · replace hf := ite_f c13 hf
        refine lv_aload_n X.hx X.hb dX8_isOf_26 rfl (lv_at hl 0 rfl) ?_
        obtain ⟨b27, h27, hf⟩ := bnd hf
        refine cl_i (run_V (As := []) (rest := []) X (w_X8_isUnlike l V A ad h27) mw_X8_isUnlike ln_X8_168 (rcX8 X hW) hW hS rfl hl.1 rfl (Nat.le_of_ble_eq_true rfl) ⟨Nat.le_of_ble_eq_true rfl, Nat.le_of_ble_eq_true rfl⟩ ⟨Nat.le_refl _, Nat.le_refl _⟩ dX8_isOf_27) hS (fun H locs hW hS => ?_)
        refine lv_if_eq (tgt := 37) X.hx X.hb dX8_isOf_30 (by decide) (fun c30 => ?_) (fun c30 => ?_)
        · replace hf := ite_t c30 hf
          exact f_X8_isOf_J37_w X hr hlk _ _ _ _  hf hW hS (lv_sub hl [] rfl)
        · replace hf := ite_f c30 hf
          exact f_X8_isOf_J33_w X hr hlk _ _ _ _  hf hW hS (lv_sub hl [] rfl)
      · replace hf := ite_t c13 hf
        refine lv_aload_n X.hx X.hb dX8_isOf_16 rfl (lv_at hl 0 rfl) ?_
        obtain ⟨b17, h17, hf⟩ := bnd hf
        refine cl_i (run_V (As := []) (rest := []) X (w_X8_isSame l V A ad h17) mw_X8_isSame ln_X8_165 (rcX8 X hW) hW hS rfl hl.1 rfl (Nat.le_of_ble_eq_true rfl) ⟨Nat.le_of_ble_eq_true rfl, Nat.le_of_ble_eq_true rfl⟩ ⟨Nat.le_refl _, Nat.le_refl _⟩ dX8_isOf_17) hS (fun H locs hW hS => ?_)
        refine lv_if_eq (tgt := 37) X.hx X.hb dX8_isOf_20 (by decide) (fun c20 => ?_) (fun c20 => ?_)
        · replace hf := ite_t c20 hf
          exact f_X8_isOf_J37_w X hr hlk _ _ _ _  hf hW hS (lv_sub hl [] rfl)
        · replace hf := ite_f c20 hf
          refine lv_goto (tgt := 33) X.hx X.hb dX8_isOf_23 (by decide) ?_
          exact f_X8_isOf_J33_w X hr hlk _ _ _ _  hf hW hS (lv_sub hl [] rfl)
-- WordSquaresModel.squaresNow
noncomputable def f_X8_squaresNow_J37 (r19 : St → Int32 → Int32 → Int32 → Option (Int32 × St)) (st : St) (x1 : Int32) (t0 : Int32) (t1 : Int32) : Option (Int32 × St) := lt (t1 + t0) fun w38 => (f_X8_next st).bind fun b40 => r19 b40.2 x1 w38 b40.1
set_option maxRecDepth 100000 in
theorem f_X8_squaresNow_J37_w {r19 : St → Int32 → Int32 → Int32 → Option (Int32 × St)} {res : (Int32 × St)} (X : Cx V A cX8_squaresNow 4 RX8 p m c s args) (hr : meth.sig.returnType = (some .int)) (hlk : meth.locks = false) (hr19 : ∀ (st : St) (x1 : Int32) (x2 : Int32) (x3 : Int32) (H : Heap) (locs : List Loc) (ls : Array Slot), r19 st x1 x2 x3 = some res → (WdM V ad A) st H → va_S A s.heap H locs → lv_has ls 4 [(0, .ref (ad 0)), (1, .int x1), (2, .int x2), (3, .int x3)] → W p l e (rmF 4 88 0 0) s m args below meth c H locs 0 0 (MQ below (Qwi A (WdM V ad A) res.1 res.2) args s 0 0 A) (F0 m 19 ls [])) (st : St) (x1 : Int32) (t0 : Int32) (t1 : Int32) (H : Heap) (locs : List Loc) (ls : Array Slot)  (hf : f_X8_squaresNow_J37 r19 st x1 t0 t1 = some res) (hW : (WdM V ad A) st H) (hS : va_S A s.heap H locs) (hl : lv_has ls 4 [(0, .ref (ad 0)), (1, .int x1)]) : W p l e (rmF 4 88 0 0) s m args below meth c H locs 0 0 (MQ below (Qwi A (WdM V ad A) res.1 res.2) args s 0 0 A) (F0 m 37 ls [.int t0, .int t1]) := by
  
  unfold f_X8_squaresNow_J37 at hf
  refine lv_iadd X.hx X.hb dX8_squaresNow_37 ?_
  obtain ⟨w38, e38, hf⟩ := lt_e hf
  refine lv_nm e38 ?_
  refine lv_istore_n (lv' := [(2, .int w38), (0, .ref (ad 0)), (1, .int x1)]) X.hx X.hb dX8_squaresNow_38 rfl hl (by decide) rfl (fun ls hl => ?_)
  refine lv_aload_n X.hx X.hb dX8_squaresNow_39 rfl (lv_at hl 1 rfl) ?_
  obtain ⟨b40, h40, hf⟩ := bnd hf
  refine cl_i (run_V (As := []) (rest := []) X (w_X8_next l V A ad h40) mw_X8_next ln_X8_177 (rcX8 X hW) hW hS rfl hl.1 rfl (Nat.le_of_ble_eq_true rfl) ⟨Nat.le_of_ble_eq_true rfl, Nat.le_of_ble_eq_true rfl⟩ ⟨Nat.le_refl _, Nat.le_refl _⟩ dX8_squaresNow_40) hS (fun H locs hW hS => ?_)
  refine lv_istore_n (lv' := [(3, .int b40.1), (2, .int w38), (0, .ref (ad 0)), (1, .int x1)]) X.hx X.hb dX8_squaresNow_43 rfl hl (by decide) rfl (fun ls hl => ?_)
  refine lv_goto (tgt := 19) X.hx X.hb dX8_squaresNow_44 (by decide) ?_
  exact hr19 _ _ _ _ _ _ _  hf hW hS (lv_sub hl [2, 3, 1, 0] rfl)
noncomputable def f_X8_squaresNow_L19 : Nat → St → Int32 → Int32 → Int32 → Option (Int32 × St)
  | 0, _, _, _, _ => none
  | fu + 1, st, x1, x2, x3 => if x3 = 0 then some (x2, st) else (f_X8_isOf st x1).bind fun b26 => if b26.1 = 0 then f_X8_squaresNow_J37 ((f_X8_squaresNow_L19 fu)) b26.2 x1 0 x2 else f_X8_squaresNow_J37 ((f_X8_squaresNow_L19 fu)) b26.2 x1 1 x2
set_option maxRecDepth 100000 in
theorem f_X8_squaresNow_L19_w {res : (Int32 × St)} (X : Cx V A cX8_squaresNow 4 RX8 p m c s args) (hr : meth.sig.returnType = (some .int)) (hlk : meth.locks = false)  : ∀ (n9 : Nat) (st : St) (x1 : Int32) (x2 : Int32) (x3 : Int32) (H : Heap) (locs : List Loc) (ls : Array Slot), f_X8_squaresNow_L19 n9 st x1 x2 x3 = some res → (WdM V ad A) st H → va_S A s.heap H locs → lv_has ls 4 [(0, .ref (ad 0)), (1, .int x1), (2, .int x2), (3, .int x3)] → W p l e (rmF 4 88 0 0) s m args below meth c H locs 0 0 (MQ below (Qwi A (WdM V ad A) res.1 res.2) args s 0 0 A) (F0 m 19 ls []) := by
  intro n9
  induction n9 with
  | zero =>
    intro st x1 x2 x3 H locs ls hf
    exact absurd hf (by unfold f_X8_squaresNow_L19; exact fun h => by cases h)
  | succ n9 hr19 =>
    intro st x1 x2 x3 H locs ls hf hW hS hl
    
    unfold f_X8_squaresNow_L19 at hf
    refine lv_iload_n X.hx X.hb dX8_squaresNow_19 rfl (lv_at hl 3 rfl) ?_
    refine lv_if_eq (tgt := 47) X.hx X.hb dX8_squaresNow_20 (by decide) (fun c20 => ?_) (fun c20 => ?_)
    · replace hf := ite_t c20 hf
      refine lv_iload_n X.hx X.hb dX8_squaresNow_47 rfl (lv_at hl 2 rfl) ?_
      exact rt_i X hr hlk (by rw [← Option.some.inj hf]; exact hW) hS (by rw [← Option.some.inj hf]) (Nat.le_refl _) (Nat.le_refl _) dX8_squaresNow_48
    · replace hf := ite_f c20 hf
      refine lv_iload_n X.hx X.hb dX8_squaresNow_23 rfl (lv_at hl 2 rfl) ?_
      refine lv_aload_n X.hx X.hb dX8_squaresNow_24 rfl (lv_at hl 0 rfl) ?_
      refine lv_iload_n X.hx X.hb dX8_squaresNow_25 rfl (lv_at hl 1 rfl) ?_
      obtain ⟨b26, h26, hf⟩ := bnd hf
      refine cl_i (run_V (As := [.int x1]) (rest := [.int x2]) X (w_X8_isOf l V A ad h26) mw_X8_isOf ln_X8_174 (rcX8 X hW) hW hS rfl hl.1 rfl (Nat.le_of_ble_eq_true rfl) ⟨Nat.le_of_ble_eq_true rfl, Nat.le_of_ble_eq_true rfl⟩ ⟨Nat.le_refl _, Nat.le_refl _⟩ dX8_squaresNow_26) hS (fun H locs hW hS => ?_)
      refine lv_if_eq (tgt := 36) X.hx X.hb dX8_squaresNow_29 (by decide) (fun c29 => ?_) (fun c29 => ?_)
      · replace hf := ite_t c29 hf
        refine lv_iconst (v := 0) X.hx X.hb dX8_squaresNow_36 (by decide) ?_
        exact f_X8_squaresNow_J37_w X hr hlk hr19 _ _ _ _ _ _ _  hf hW hS (lv_sub hl [0, 1] rfl)
      · replace hf := ite_f c29 hf
        refine lv_iconst (v := 1) X.hx X.hb dX8_squaresNow_32 (by decide) ?_
        refine lv_goto (tgt := 37) X.hx X.hb dX8_squaresNow_33 (by decide) ?_
        exact f_X8_squaresNow_J37_w X hr hlk hr19 _ _ _ _ _ _ _  hf hW hS (lv_sub hl [0, 1] rfl)
noncomputable def f_X8_squaresNow_J18 (st : St) (x1 : Int32) (x2 : Int32) (t0 : Int32) : Option (Int32 × St) := f_X8_squaresNow_L19 FU st x1 x2 t0
set_option maxRecDepth 100000 in
theorem f_X8_squaresNow_J18_w {res : (Int32 × St)} (X : Cx V A cX8_squaresNow 4 RX8 p m c s args) (hr : meth.sig.returnType = (some .int)) (hlk : meth.locks = false)  (st : St) (x1 : Int32) (x2 : Int32) (t0 : Int32) (H : Heap) (locs : List Loc) (ls : Array Slot)  (hf : f_X8_squaresNow_J18 st x1 x2 t0 = some res) (hW : (WdM V ad A) st H) (hS : va_S A s.heap H locs) (hl : lv_has ls 4 [(0, .ref (ad 0)), (1, .int x1), (2, .int x2)]) : W p l e (rmF 4 88 0 0) s m args below meth c H locs 0 0 (MQ below (Qwi A (WdM V ad A) res.1 res.2) args s 0 0 A) (F0 m 18 ls [.int t0]) := by
  
  unfold f_X8_squaresNow_J18 at hf
  refine lv_istore_n (lv' := [(3, .int t0), (0, .ref (ad 0)), (1, .int x1), (2, .int x2)]) X.hx X.hb dX8_squaresNow_18 rfl hl (by decide) rfl (fun ls hl => ?_)
  exact f_X8_squaresNow_L19_w X hr hlk FU _ _ _ _ _ _ _  hf hW hS (lv_sub hl [1, 2, 3, 0] rfl)
noncomputable def f_X8_squaresNow (st : St) (a1 : Int32) : Option (Int32 × St) := (f_X8_begin st).bind fun b3 => if (b3.1 1) ≤ 0 then f_X8_squaresNow_J18 b3 a1 0 0 else f_X8_squaresNow_J18 b3 a1 0 1
set_option maxRecDepth 100000 in
theorem w_X8_squaresNow (l : Launch) (V : Ev) (A : Nat → Prop) (ad : Nat → Nat) {st : St} {a1 : Int32} {res : (Int32 × St)} (hf : f_X8_squaresNow st a1 = some res) : Cn l yX8_squaresNow cX8_squaresNow 4 (some .int) 4 88 0 0 V A (WdM V ad A) st [.ref (ad 0), .int a1] (Qwi A (WdM V ad A) res.1 res.2) := by
  refine cn_of RX8 (by decide) rfl (fun p e s m below meth c ls X hr hlk hW hS hl => ?_) (Nat.le_of_ble_eq_true rfl)
  have hl : lv_has ls 4 [(0, .ref (ad 0)), (1, .int a1)] := hl
  unfold f_X8_squaresNow at hf
  refine lv_iconst (v := 0) X.hx X.hb dX8_squaresNow_0 (by decide) ?_
  refine lv_istore_n (lv' := [(2, .int 0), (0, .ref (ad 0)), (1, .int a1)]) X.hx X.hb dX8_squaresNow_1 rfl hl (by decide) rfl (fun ls hl => ?_)
  refine lv_aload_n X.hx X.hb dX8_squaresNow_2 rfl (lv_at hl 1 rfl) ?_
  obtain ⟨b3, h3, hf⟩ := bnd hf
  refine cl_v (run_V (As := []) (rest := []) X (w_X8_begin l V A ad h3) mw_X8_begin ln_X8_171 (rcX8 X hW) hW hS rfl hl.1 rfl (Nat.le_of_ble_eq_true rfl) ⟨Nat.le_of_ble_eq_true rfl, Nat.le_of_ble_eq_true rfl⟩ ⟨Nat.le_refl _, Nat.le_refl _⟩ dX8_squaresNow_3) hS (fun H locs hW hS => ?_)
  refine lv_aload_n X.hx X.hb dX8_squaresNow_6 rfl (lv_at hl 1 rfl) ?_
  refine gX8_words X hW dX8_squaresNow_7 ?_
  refine lv_if_le (tgt := 17) X.hx X.hb dX8_squaresNow_10 (by decide) (fun c10 => ?_) (fun c10 => ?_)
  · replace hf := ite_t c10 hf
    refine lv_iconst (v := 0) X.hx X.hb dX8_squaresNow_17 (by decide) ?_
    exact f_X8_squaresNow_J18_w X hr hlk _ _ _ _ _ _ _  hf hW hS (lv_sub hl [1, 2, 0] rfl)
  · replace hf := ite_f c10 hf
    refine lv_iconst (v := 1) X.hx X.hb dX8_squaresNow_13 (by decide) ?_
    refine lv_goto (tgt := 18) X.hx X.hb dX8_squaresNow_14 (by decide) ?_
    exact f_X8_squaresNow_J18_w X hr hlk _ _ _ _ _ _ _  hf hW hS (lv_sub hl [1, 2, 0] rfl)
-- WordSquaresModel.squares
noncomputable def f_X8_squares (st : St) (a1 : Int32) : Option (Int32 × St) := (f_X8_within a1 0 2).bind fun b3 => if b3 = 0 then some ((-102), st) else (f_X8_squaresNow st a1).bind fun b11 => some (b11.1, b11.2)
set_option maxRecDepth 100000 in
theorem w_X8_squares (l : Launch) (V : Ev) (A : Nat → Prop) (ad : Nat → Nat) {st : St} {a1 : Int32} {res : (Int32 × St)} (hf : f_X8_squares st a1 = some res) : Cn l yX8_squares cX8_squares 2 (some .int) 5 111 0 0 V A (WdM V ad A) st [.ref (ad 0), .int a1] (Qwi A (WdM V ad A) res.1 res.2) := by
  refine cn_of RX8 (by decide) rfl (fun p e s m below meth c ls X hr hlk hW hS hl => ?_) (Nat.le_of_ble_eq_true rfl)
  have hl : lv_has ls 2 [(0, .ref (ad 0)), (1, .int a1)] := hl
  unfold f_X8_squares at hf
  refine lv_iload_n X.hx X.hb dX8_squares_0 rfl (lv_at hl 1 rfl) ?_
  refine lv_iconst (v := 0) X.hx X.hb dX8_squares_1 (by decide) ?_
  refine lv_iconst (v := 2) X.hx X.hb dX8_squares_2 (by decide) ?_
  obtain ⟨b3, h3, hf⟩ := bnd hf
  refine cl_i (run_S (As := [.int a1, .int 0, .int 2]) (rest := []) X (w_X8_within l V A (WdM V ad A) st h3) mw_X8_within ln_X8_65 hW hS rfl hl.1 rfl (Nat.le_of_ble_eq_true rfl) ⟨Nat.le_of_ble_eq_true rfl, Nat.le_of_ble_eq_true rfl⟩ ⟨Nat.le_refl _, Nat.le_refl _⟩ dX8_squares_3) hS (fun H locs hW hS => ?_)
  refine lv_if_eq (tgt := 17) X.hx X.hb dX8_squares_6 (by decide) (fun c6 => ?_) (fun c6 => ?_)
  · replace hf := ite_t c6 hf
    refine lv_bipush (v := (-102)) X.hx X.hb dX8_squares_17 (by decide) ?_
    exact rt_i X hr hlk (by rw [← Option.some.inj hf]; exact hW) hS (by rw [← Option.some.inj hf]) (Nat.le_refl _) (Nat.le_refl _) dX8_squares_19
  · replace hf := ite_f c6 hf
    refine lv_aload_n X.hx X.hb dX8_squares_9 rfl (lv_at hl 0 rfl) ?_
    refine lv_iload_n X.hx X.hb dX8_squares_10 rfl (lv_at hl 1 rfl) ?_
    obtain ⟨b11, h11, hf⟩ := bnd hf
    refine cl_i (run_V (As := [.int a1]) (rest := []) X (w_X8_squaresNow l V A ad h11) mw_X8_squaresNow ln_X8_180 (rcX8 X hW) hW hS rfl hl.1 rfl (Nat.le_of_ble_eq_true rfl) ⟨Nat.le_of_ble_eq_true rfl, Nat.le_of_ble_eq_true rfl⟩ ⟨Nat.le_refl _, Nat.le_refl _⟩ dX8_squares_11) hS (fun H locs hW hS => ?_)
    refine lv_goto (tgt := 19) X.hx X.hb dX8_squares_14 (by decide) ?_
    exact rt_i X hr hlk (by rw [← Option.some.inj hf]; exact hW) hS (by rw [← Option.some.inj hf]) (Nat.le_refl _) (Nat.le_refl _) dX8_squares_19
-- WordSquaresModel.lay
noncomputable def f_X8_lay_J46 (r24 : St → Int32 → Int32 → Int32 → Option (Int32 × St)) (st : St) (x1 : Int32) (x3 : Int32) : Option (Int32 × St) := (f_X8_next st).bind fun b47 => r24 b47.2 x1 x3 b47.1
set_option maxRecDepth 100000 in
theorem f_X8_lay_J46_w {r24 : St → Int32 → Int32 → Int32 → Option (Int32 × St)} {res : (Int32 × St)} (X : Cx V A cX8_lay 5 RX8 p m c s args) (hr : meth.sig.returnType = (some .boolean)) (hlk : meth.locks = false) (hr24 : ∀ (st : St) (x1 : Int32) (x3 : Int32) (x4 : Int32) (H : Heap) (locs : List Loc) (ls : Array Slot), r24 st x1 x3 x4 = some res → (WdM V ad A) st H → va_S A s.heap H locs → lv_has ls 5 [(0, .ref (ad 0)), (1, .int x1), (3, .int x3), (4, .int x4)] → W p l e (rmF 4 88 0 0) s m args below meth c H locs 0 0 (MQ below (Qwi A (WdM V ad A) res.1 res.2) args s 0 0 A) (F0 m 24 ls [])) (st : St) (x1 : Int32) (x3 : Int32) (H : Heap) (locs : List Loc) (ls : Array Slot)  (hf : f_X8_lay_J46 r24 st x1 x3 = some res) (hW : (WdM V ad A) st H) (hS : va_S A s.heap H locs) (hl : lv_has ls 5 [(0, .ref (ad 0)), (1, .int x1), (3, .int x3)]) : W p l e (rmF 4 88 0 0) s m args below meth c H locs 0 0 (MQ below (Qwi A (WdM V ad A) res.1 res.2) args s 0 0 A) (F0 m 46 ls []) := by
  
  unfold f_X8_lay_J46 at hf
  refine lv_aload_n X.hx X.hb dX8_lay_46 rfl (lv_at hl 0 rfl) ?_
  obtain ⟨b47, h47, hf⟩ := bnd hf
  refine cl_i (run_V (As := []) (rest := []) X (w_X8_next l V A ad h47) mw_X8_next ln_X8_177 (rcX8 X hW) hW hS rfl hl.1 rfl (Nat.le_of_ble_eq_true rfl) ⟨Nat.le_of_ble_eq_true rfl, Nat.le_of_ble_eq_true rfl⟩ ⟨Nat.le_refl _, Nat.le_refl _⟩ dX8_lay_47) hS (fun H locs hW hS => ?_)
  refine lv_istore (lv' := [(4, .int b47.1), (0, .ref (ad 0)), (1, .int x1), (3, .int x3)]) X.hx X.hb dX8_lay_50 hl (by decide) rfl (fun ls hl => ?_)
  refine lv_goto (tgt := 24) X.hx X.hb dX8_lay_52 (by decide) ?_
  exact hr24 _ _ _ _ _ _ _  hf hW hS (lv_sub hl [1, 2, 3, 0] rfl)
noncomputable def f_X8_lay_L24 : Nat → St → Int32 → Int32 → Int32 → Option (Int32 × St)
  | 0, _, _, _, _ => none
  | fu + 1, st, x1, x3, x4 => if x4 = 0 then some (0, st) else (f_X8_isOf st x1).bind fun b31 => if b31.1 = 0 then f_X8_lay_J46 ((f_X8_lay_L24 fu)) b31.2 x1 x3 else if x3 = 0 then some (1, b31.2) else lt (x3 + (-1)) fun w43 => f_X8_lay_J46 ((f_X8_lay_L24 fu)) b31.2 x1 w43
set_option maxRecDepth 100000 in
theorem f_X8_lay_L24_w {res : (Int32 × St)} (X : Cx V A cX8_lay 5 RX8 p m c s args) (hr : meth.sig.returnType = (some .boolean)) (hlk : meth.locks = false)  : ∀ (n9 : Nat) (st : St) (x1 : Int32) (x3 : Int32) (x4 : Int32) (H : Heap) (locs : List Loc) (ls : Array Slot), f_X8_lay_L24 n9 st x1 x3 x4 = some res → (WdM V ad A) st H → va_S A s.heap H locs → lv_has ls 5 [(0, .ref (ad 0)), (1, .int x1), (3, .int x3), (4, .int x4)] → W p l e (rmF 4 88 0 0) s m args below meth c H locs 0 0 (MQ below (Qwi A (WdM V ad A) res.1 res.2) args s 0 0 A) (F0 m 24 ls []) := by
  intro n9
  induction n9 with
  | zero =>
    intro st x1 x3 x4 H locs ls hf
    exact absurd hf (by unfold f_X8_lay_L24; exact fun h => by cases h)
  | succ n9 hr24 =>
    intro st x1 x3 x4 H locs ls hf hW hS hl
    
    unfold f_X8_lay_L24 at hf
    refine lv_iload X.hx X.hb dX8_lay_24 (lv_at hl 3 rfl) ?_
    refine lv_if_eq (tgt := 55) X.hx X.hb dX8_lay_26 (by decide) (fun c26 => ?_) (fun c26 => ?_)
    · replace hf := ite_t c26 hf
      refine lv_iconst (v := 0) X.hx X.hb dX8_lay_55 (by decide) ?_
      exact rt_z X hr hlk (by rw [← Option.some.inj hf]; exact hW) hS (Or.inl rfl) (by rw [← Option.some.inj hf]) (Nat.le_refl _) (Nat.le_refl _) dX8_lay_56
    · replace hf := ite_f c26 hf
      refine lv_aload_n X.hx X.hb dX8_lay_29 rfl (lv_at hl 0 rfl) ?_
      refine lv_iload_n X.hx X.hb dX8_lay_30 rfl (lv_at hl 1 rfl) ?_
      obtain ⟨b31, h31, hf⟩ := bnd hf
      refine cl_i (run_V (As := [.int x1]) (rest := []) X (w_X8_isOf l V A ad h31) mw_X8_isOf ln_X8_174 (rcX8 X hW) hW hS rfl hl.1 rfl (Nat.le_of_ble_eq_true rfl) ⟨Nat.le_of_ble_eq_true rfl, Nat.le_of_ble_eq_true rfl⟩ ⟨Nat.le_refl _, Nat.le_refl _⟩ dX8_lay_31) hS (fun H locs hW hS => ?_)
      refine lv_if_eq (tgt := 46) X.hx X.hb dX8_lay_34 (by decide) (fun c34 => ?_) (fun c34 => ?_)
      · replace hf := ite_t c34 hf
        exact f_X8_lay_J46_w X hr hlk hr24 _ _ _ _ _ _  hf hW hS (lv_sub hl [0, 1, 2] rfl)
      · replace hf := ite_f c34 hf
        refine lv_iload_n X.hx X.hb dX8_lay_37 rfl (lv_at hl 2 rfl) ?_
        refine lv_if_ne (tgt := 43) X.hx X.hb dX8_lay_38 (by decide) (fun c38 => ?_) (fun c38 => ?_)
        · replace hf := ite_f c38 hf
          obtain ⟨w43, e43, hf⟩ := lt_e hf
          refine lv_iinc (v := w43) (lv' := [(3, .int w43), (0, .ref (ad 0)), (1, .int x1), (4, .int x4)]) X.hx X.hb dX8_lay_43 hl (k := 2) rfl (by rw [e43]; rfl) (by decide) rfl (fun ls hl => ?_)
          exact f_X8_lay_J46_w X hr hlk hr24 _ _ _ _ _ _  hf hW hS (lv_sub hl [1, 2, 0] rfl)
        · replace hf := ite_t c38 hf
          refine lv_iconst (v := 1) X.hx X.hb dX8_lay_41 (by decide) ?_
          exact rt_z X hr hlk (by rw [← Option.some.inj hf]; exact hW) hS (Or.inr rfl) (by rw [← Option.some.inj hf]) (Nat.le_refl _) (Nat.le_refl _) dX8_lay_42
noncomputable def f_X8_lay_J22 (st : St) (x1 : Int32) (x3 : Int32) (t0 : Int32) : Option (Int32 × St) := f_X8_lay_L24 FU st x1 x3 t0
set_option maxRecDepth 100000 in
theorem f_X8_lay_J22_w {res : (Int32 × St)} (X : Cx V A cX8_lay 5 RX8 p m c s args) (hr : meth.sig.returnType = (some .boolean)) (hlk : meth.locks = false)  (st : St) (x1 : Int32) (x3 : Int32) (t0 : Int32) (H : Heap) (locs : List Loc) (ls : Array Slot)  (hf : f_X8_lay_J22 st x1 x3 t0 = some res) (hW : (WdM V ad A) st H) (hS : va_S A s.heap H locs) (hl : lv_has ls 5 [(0, .ref (ad 0)), (1, .int x1), (3, .int x3)]) : W p l e (rmF 4 88 0 0) s m args below meth c H locs 0 0 (MQ below (Qwi A (WdM V ad A) res.1 res.2) args s 0 0 A) (F0 m 22 ls [.int t0]) := by
  
  unfold f_X8_lay_J22 at hf
  refine lv_istore (lv' := [(4, .int t0), (0, .ref (ad 0)), (1, .int x1), (3, .int x3)]) X.hx X.hb dX8_lay_22 hl (by decide) rfl (fun ls hl => ?_)
  exact f_X8_lay_L24_w X hr hlk FU _ _ _ _ _ _ _  hf hW hS (lv_sub hl [1, 2, 3, 0] rfl)
noncomputable def f_X8_lay_J21 (st : St) (x1 : Int32) (x3 : Int32) : Option (Int32 × St) := f_X8_lay_J22 st x1 x3 0
set_option maxRecDepth 100000 in
theorem f_X8_lay_J21_w {res : (Int32 × St)} (X : Cx V A cX8_lay 5 RX8 p m c s args) (hr : meth.sig.returnType = (some .boolean)) (hlk : meth.locks = false)  (st : St) (x1 : Int32) (x3 : Int32) (H : Heap) (locs : List Loc) (ls : Array Slot)  (hf : f_X8_lay_J21 st x1 x3 = some res) (hW : (WdM V ad A) st H) (hS : va_S A s.heap H locs) (hl : lv_has ls 5 [(0, .ref (ad 0)), (1, .int x1), (3, .int x3)]) : W p l e (rmF 4 88 0 0) s m args below meth c H locs 0 0 (MQ below (Qwi A (WdM V ad A) res.1 res.2) args s 0 0 A) (F0 m 21 ls []) := by
  
  unfold f_X8_lay_J21 at hf
  refine lv_iconst (v := 0) X.hx X.hb dX8_lay_21 (by decide) ?_
  exact f_X8_lay_J22_w X hr hlk _ _ _ _ _ _ _  hf hW hS (lv_sub hl [0, 1, 2] rfl)
noncomputable def f_X8_lay (st : St) (a1 : Int32) (a2 : Int32) : Option (Int32 × St) := (f_X8_begin st).bind fun b3 => if (b3.1 1) ≤ 0 then f_X8_lay_J21 b3 a1 a2 else if a2 < 0 then f_X8_lay_J21 b3 a1 a2 else f_X8_lay_J22 b3 a1 a2 1
set_option maxRecDepth 100000 in
theorem w_X8_lay (l : Launch) (V : Ev) (A : Nat → Prop) (ad : Nat → Nat) {st : St} {a1 : Int32} {a2 : Int32} {res : (Int32 × St)} (hf : f_X8_lay st a1 a2 = some res) : Cn l yX8_lay cX8_lay 5 (some .boolean) 4 88 0 0 V A (WdM V ad A) st [.ref (ad 0), .int a1, .int a2] (Qwi A (WdM V ad A) res.1 res.2) := by
  refine cn_of RX8 (by decide) rfl (fun p e s m below meth c ls X hr hlk hW hS hl => ?_) (Nat.le_of_ble_eq_true rfl)
  have hl : lv_has ls 5 [(0, .ref (ad 0)), (1, .int a1), (2, .int a2)] := hl
  unfold f_X8_lay at hf
  refine lv_iload_n X.hx X.hb dX8_lay_0 rfl (lv_at hl 2 rfl) ?_
  refine lv_istore_n (lv' := [(3, .int a2), (0, .ref (ad 0)), (1, .int a1), (2, .int a2)]) X.hx X.hb dX8_lay_1 rfl hl (by decide) rfl (fun ls hl => ?_)
  refine lv_aload_n X.hx X.hb dX8_lay_2 rfl (lv_at hl 1 rfl) ?_
  obtain ⟨b3, h3, hf⟩ := bnd hf
  refine cl_v (run_V (As := []) (rest := []) X (w_X8_begin l V A ad h3) mw_X8_begin ln_X8_171 (rcX8 X hW) hW hS rfl hl.1 rfl (Nat.le_of_ble_eq_true rfl) ⟨Nat.le_of_ble_eq_true rfl, Nat.le_of_ble_eq_true rfl⟩ ⟨Nat.le_refl _, Nat.le_refl _⟩ dX8_lay_3) hS (fun H locs hW hS => ?_)
  refine lv_aload_n X.hx X.hb dX8_lay_6 rfl (lv_at hl 1 rfl) ?_
  refine gX8_words X hW dX8_lay_7 ?_
  refine lv_if_le (tgt := 21) X.hx X.hb dX8_lay_10 (by decide) (fun c10 => ?_) (fun c10 => ?_)
  · replace hf := ite_t c10 hf
    exact f_X8_lay_J21_w X hr hlk _ _ _ _ _ _  hf hW hS (lv_sub hl [1, 2, 0] rfl)
  · replace hf := ite_f c10 hf
    refine lv_iload_n X.hx X.hb dX8_lay_13 rfl (lv_at hl 3 rfl) ?_
    refine lv_if_lt (tgt := 21) X.hx X.hb dX8_lay_14 (by decide) (fun c14 => ?_) (fun c14 => ?_)
    · replace hf := ite_t c14 hf
      exact f_X8_lay_J21_w X hr hlk _ _ _ _ _ _  hf hW hS (lv_sub hl [1, 2, 0] rfl)
    · replace hf := ite_f c14 hf
      refine lv_iconst (v := 1) X.hx X.hb dX8_lay_17 (by decide) ?_
      refine lv_goto (tgt := 22) X.hx X.hb dX8_lay_18 (by decide) ?_
      exact f_X8_lay_J22_w X hr hlk _ _ _ _ _ _ _  hf hW hS (lv_sub hl [1, 2, 0] rfl)
-- WordSquaresModel.row
noncomputable def f_X8_row_J44 (st : St) : Option (Int32 × St) := some ((-101), st)
set_option maxRecDepth 100000 in
theorem f_X8_row_J44_w {res : (Int32 × St)} (X : Cx V A cX8_row 4 RX8 p m c s args) (hr : meth.sig.returnType = (some .int)) (hlk : meth.locks = false)  (st : St) (H : Heap) (locs : List Loc) (ls : Array Slot)  (hf : f_X8_row_J44 st = some res) (hW : (WdM V ad A) st H) (hS : va_S A s.heap H locs) (hl : lv_has ls 4 []) : W p l e (rmF 5 112 0 0) s m args below meth c H locs 0 0 (MQ below (Qwi A (WdM V ad A) res.1 res.2) args s 0 0 A) (F0 m 44 ls []) := by
  
  unfold f_X8_row_J44 at hf
  refine lv_bipush (v := (-101)) X.hx X.hb dX8_row_44 (by decide) ?_
  exact rt_i X hr hlk (by rw [← Option.some.inj hf]; exact hW) hS (by rw [← Option.some.inj hf]) (Nat.le_refl _) (Nat.le_refl _) dX8_row_46
noncomputable def f_X8_row (st : St) (a1 : Int32) (a2 : Int32) (a3 : Int32) : Option (Int32 × St) := (f_X8_within a1 0 2).bind fun b3 => if b3 = 0 then some ((-102), st) else (f_X8_within a3 0 ((st.1 0) - 1)).bind fun b20 => if b20 = 0 then f_X8_row_J44 st else (f_X8_lay st a1 a2).bind fun b29 => if b29.1 = 0 then f_X8_row_J44 b29.2 else if inb a3 4 = true then some (b29.2.2.1 6 a3.toNatClampNeg, b29.2) else none
set_option maxRecDepth 100000 in
theorem w_X8_row (l : Launch) (V : Ev) (A : Nat → Prop) (ad : Nat → Nat) {st : St} {a1 : Int32} {a2 : Int32} {a3 : Int32} {res : (Int32 × St)} (hf : f_X8_row st a1 a2 a3 = some res) : Cn l yX8_row cX8_row 4 (some .int) 5 112 0 0 V A (WdM V ad A) st [.ref (ad 0), .int a1, .int a2, .int a3] (Qwi A (WdM V ad A) res.1 res.2) := by
  refine cn_of RX8 (by decide) rfl (fun p e s m below meth c ls X hr hlk hW hS hl => ?_) (Nat.le_of_ble_eq_true rfl)
  have hl : lv_has ls 4 [(0, .ref (ad 0)), (1, .int a1), (2, .int a2), (3, .int a3)] := hl
  unfold f_X8_row at hf
  refine lv_iload_n X.hx X.hb dX8_row_0 rfl (lv_at hl 1 rfl) ?_
  refine lv_iconst (v := 0) X.hx X.hb dX8_row_1 (by decide) ?_
  refine lv_iconst (v := 2) X.hx X.hb dX8_row_2 (by decide) ?_
  obtain ⟨b3, h3, hf⟩ := bnd hf
  refine cl_i (run_S (As := [.int a1, .int 0, .int 2]) (rest := []) X (w_X8_within l V A (WdM V ad A) st h3) mw_X8_within ln_X8_65 hW hS rfl hl.1 rfl (Nat.le_of_ble_eq_true rfl) ⟨Nat.le_of_ble_eq_true rfl, Nat.le_of_ble_eq_true rfl⟩ ⟨Nat.le_refl _, Nat.le_refl _⟩ dX8_row_3) hS (fun H locs hW hS => ?_)
  refine lv_if_ne (tgt := 12) X.hx X.hb dX8_row_6 (by decide) (fun c6 => ?_) (fun c6 => ?_)
  · replace hf := ite_f c6 hf
    refine lv_iload_n X.hx X.hb dX8_row_12 rfl (lv_at hl 3 rfl) ?_
    refine lv_iconst (v := 0) X.hx X.hb dX8_row_13 (by decide) ?_
    refine lv_aload_n X.hx X.hb dX8_row_14 rfl (lv_at hl 0 rfl) ?_
    refine gX8_length X hW dX8_row_15 ?_
    refine lv_iconst (v := 1) X.hx X.hb dX8_row_18 (by decide) ?_
    refine lv_isub X.hx X.hb dX8_row_19 ?_
    obtain ⟨b20, h20, hf⟩ := bnd hf
    refine cl_i (run_S (As := [.int a3, .int 0, .int ((st.1 0) - 1)]) (rest := []) X (w_X8_within l V A (WdM V ad A) st h20) mw_X8_within ln_X8_65 hW hS rfl hl.1 rfl (Nat.le_of_ble_eq_true rfl) ⟨Nat.le_of_ble_eq_true rfl, Nat.le_of_ble_eq_true rfl⟩ ⟨Nat.le_refl _, Nat.le_refl _⟩ dX8_row_20) hS (fun H locs hW hS => ?_)
    refine lv_if_eq (tgt := 44) X.hx X.hb dX8_row_23 (by decide) (fun c23 => ?_) (fun c23 => ?_)
    · replace hf := ite_t c23 hf
      exact f_X8_row_J44_w X hr hlk _ _ _ _  hf hW hS (lv_sub hl [] rfl)
    · replace hf := ite_f c23 hf
      refine lv_aload_n X.hx X.hb dX8_row_26 rfl (lv_at hl 0 rfl) ?_
      refine lv_iload_n X.hx X.hb dX8_row_27 rfl (lv_at hl 1 rfl) ?_
      refine lv_iload_n X.hx X.hb dX8_row_28 rfl (lv_at hl 2 rfl) ?_
      obtain ⟨b29, h29, hf⟩ := bnd hf
      refine cl_i (run_V (As := [.int a1, .int a2]) (rest := []) X (w_X8_lay l V A ad h29) mw_X8_lay ln_X8_183 (rcX8 X hW) hW hS rfl hl.1 rfl (Nat.le_of_ble_eq_true rfl) ⟨Nat.le_of_ble_eq_true rfl, Nat.le_of_ble_eq_true rfl⟩ ⟨Nat.le_refl _, Nat.le_refl _⟩ dX8_row_29) hS (fun H locs hW hS => ?_)
      refine lv_if_eq (tgt := 44) X.hx X.hb dX8_row_32 (by decide) (fun c32 => ?_) (fun c32 => ?_)
      · replace hf := ite_t c32 hf
        exact f_X8_row_J44_w X hr hlk _ _ _ _  hf hW hS (lv_sub hl [] rfl)
      · replace hf := ite_f c32 hf
        refine lv_aload_n X.hx X.hb dX8_row_35 rfl (lv_at hl 0 rfl) ?_
        refine gX8_rowWord X hW dX8_row_36 ?_
        refine lv_iload_n X.hx X.hb dX8_row_39 rfl (lv_at hl 3 rfl) ?_
        obtain ⟨h40, hf⟩ := ite_n hf
        refine aM_ld X hW isM_6 rfl h40 dX8_row_40 ?_
        refine lv_goto (tgt := 46) X.hx X.hb dX8_row_41 (by decide) ?_
        exact rt_i X hr hlk (by rw [← Option.some.inj hf]; exact hW) hS (by rw [← Option.some.inj hf]) (Nat.le_refl _) (Nat.le_refl _) dX8_row_46
  · replace hf := ite_t c6 hf
    refine lv_bipush (v := (-102)) X.hx X.hb dX8_row_9 (by decide) ?_
    exact rt_i X hr hlk (by rw [← Option.some.inj hf]; exact hW) hS (by rw [← Option.some.inj hf]) (Nat.le_refl _) (Nat.le_refl _) dX8_row_11
-- WordSquaresModel.turnedNow
noncomputable def f_X8_turnedNow_J73 (r33 : St → Int32 → Int32 → Option (Int32 × St)) (r41 : St → Int32 → Int32 → Int32 → Option (Int32 × St)) (st : St) (x1 : Int32) (x3 : Int32) (t0 : Int32) : Option (Int32 × St) := lt (x3 + 1) fun w74 => r41 st x1 t0 w74
set_option maxRecDepth 100000 in
theorem f_X8_turnedNow_J73_w {r33 : St → Int32 → Int32 → Option (Int32 × St)} {r41 : St → Int32 → Int32 → Int32 → Option (Int32 × St)} {res : (Int32 × St)} (X : Cx V A cX8_turnedNow 4 RX8 p m c s args) (hr : meth.sig.returnType = (some .int)) (hlk : meth.locks = false) (hr33 : ∀ (st : St) (x1 : Int32) (x2 : Int32) (H : Heap) (locs : List Loc) (ls : Array Slot), r33 st x1 x2 = some res → (WdM V ad A) st H → va_S A s.heap H locs → lv_has ls 4 [(0, .ref (ad 0)), (1, .int x1), (2, .int x2)] → W p l e (rmF 3 67 0 0) s m args below meth c H locs 0 0 (MQ below (Qwi A (WdM V ad A) res.1 res.2) args s 0 0 A) (F0 m 33 ls [])) (hr41 : ∀ (st : St) (x1 : Int32) (x2 : Int32) (x3 : Int32) (H : Heap) (locs : List Loc) (ls : Array Slot), r41 st x1 x2 x3 = some res → (WdM V ad A) st H → va_S A s.heap H locs → lv_has ls 4 [(0, .ref (ad 0)), (1, .int x1), (2, .int x2), (3, .int x3)] → W p l e (rmF 3 67 0 0) s m args below meth c H locs 0 0 (MQ below (Qwi A (WdM V ad A) res.1 res.2) args s 0 0 A) (F0 m 41 ls [])) (st : St) (x1 : Int32) (x3 : Int32) (t0 : Int32) (H : Heap) (locs : List Loc) (ls : Array Slot)  (hf : f_X8_turnedNow_J73 r33 r41 st x1 x3 t0 = some res) (hW : (WdM V ad A) st H) (hS : va_S A s.heap H locs) (hl : lv_has ls 4 [(0, .ref (ad 0)), (1, .int x1), (3, .int x3)]) : W p l e (rmF 3 67 0 0) s m args below meth c H locs 0 0 (MQ below (Qwi A (WdM V ad A) res.1 res.2) args s 0 0 A) (F0 m 73 ls [.int t0]) := by
  
  unfold f_X8_turnedNow_J73 at hf
  refine lv_istore_n (lv' := [(2, .int t0), (0, .ref (ad 0)), (1, .int x1), (3, .int x3)]) X.hx X.hb dX8_turnedNow_73 rfl hl (by decide) rfl (fun ls hl => ?_)
  obtain ⟨w74, e74, hf⟩ := lt_e hf
  refine lv_iinc (v := w74) (lv' := [(3, .int w74), (2, .int t0), (0, .ref (ad 0)), (1, .int x1)]) X.hx X.hb dX8_turnedNow_74 hl (k := 3) rfl (by rw [e74]; rfl) (by decide) rfl (fun ls hl => ?_)
  refine lv_goto (tgt := 41) X.hx X.hb dX8_turnedNow_77 (by decide) ?_
  exact hr41 _ _ _ _ _ _ _  hf hW hS (lv_sub hl [2, 3, 1, 0] rfl)
noncomputable def f_X8_turnedNow_J72 (r33 : St → Int32 → Int32 → Option (Int32 × St)) (r41 : St → Int32 → Int32 → Int32 → Option (Int32 × St)) (st : St) (x1 : Int32) (x3 : Int32) : Option (Int32 × St) := f_X8_turnedNow_J73 r33 r41 st x1 x3 0
set_option maxRecDepth 100000 in
theorem f_X8_turnedNow_J72_w {r33 : St → Int32 → Int32 → Option (Int32 × St)} {r41 : St → Int32 → Int32 → Int32 → Option (Int32 × St)} {res : (Int32 × St)} (X : Cx V A cX8_turnedNow 4 RX8 p m c s args) (hr : meth.sig.returnType = (some .int)) (hlk : meth.locks = false) (hr33 : ∀ (st : St) (x1 : Int32) (x2 : Int32) (H : Heap) (locs : List Loc) (ls : Array Slot), r33 st x1 x2 = some res → (WdM V ad A) st H → va_S A s.heap H locs → lv_has ls 4 [(0, .ref (ad 0)), (1, .int x1), (2, .int x2)] → W p l e (rmF 3 67 0 0) s m args below meth c H locs 0 0 (MQ below (Qwi A (WdM V ad A) res.1 res.2) args s 0 0 A) (F0 m 33 ls [])) (hr41 : ∀ (st : St) (x1 : Int32) (x2 : Int32) (x3 : Int32) (H : Heap) (locs : List Loc) (ls : Array Slot), r41 st x1 x2 x3 = some res → (WdM V ad A) st H → va_S A s.heap H locs → lv_has ls 4 [(0, .ref (ad 0)), (1, .int x1), (2, .int x2), (3, .int x3)] → W p l e (rmF 3 67 0 0) s m args below meth c H locs 0 0 (MQ below (Qwi A (WdM V ad A) res.1 res.2) args s 0 0 A) (F0 m 41 ls [])) (st : St) (x1 : Int32) (x3 : Int32) (H : Heap) (locs : List Loc) (ls : Array Slot)  (hf : f_X8_turnedNow_J72 r33 r41 st x1 x3 = some res) (hW : (WdM V ad A) st H) (hS : va_S A s.heap H locs) (hl : lv_has ls 4 [(0, .ref (ad 0)), (1, .int x1), (3, .int x3)]) : W p l e (rmF 3 67 0 0) s m args below meth c H locs 0 0 (MQ below (Qwi A (WdM V ad A) res.1 res.2) args s 0 0 A) (F0 m 72 ls []) := by
  
  unfold f_X8_turnedNow_J72 at hf
  refine lv_iconst (v := 0) X.hx X.hb dX8_turnedNow_72 (by decide) ?_
  exact f_X8_turnedNow_J73_w X hr hlk hr33 hr41 _ _ _ _ _ _ _  hf hW hS (lv_sub hl [0, 1, 2] rfl)
noncomputable def f_X8_turnedNow_J97 (r33 : St → Int32 → Int32 → Option (Int32 × St)) (st : St) (x2 : Int32) (t0 : Int32) (t1 : Int32) : Option (Int32 × St) := lt (t1 + t0) fun w98 => (f_X8_next st).bind fun b100 => r33 b100.2 w98 x2
set_option maxRecDepth 100000 in
theorem f_X8_turnedNow_J97_w {r33 : St → Int32 → Int32 → Option (Int32 × St)} {res : (Int32 × St)} (X : Cx V A cX8_turnedNow 4 RX8 p m c s args) (hr : meth.sig.returnType = (some .int)) (hlk : meth.locks = false) (hr33 : ∀ (st : St) (x1 : Int32) (x2 : Int32) (H : Heap) (locs : List Loc) (ls : Array Slot), r33 st x1 x2 = some res → (WdM V ad A) st H → va_S A s.heap H locs → lv_has ls 4 [(0, .ref (ad 0)), (1, .int x1), (2, .int x2)] → W p l e (rmF 3 67 0 0) s m args below meth c H locs 0 0 (MQ below (Qwi A (WdM V ad A) res.1 res.2) args s 0 0 A) (F0 m 33 ls [])) (st : St) (x2 : Int32) (t0 : Int32) (t1 : Int32) (H : Heap) (locs : List Loc) (ls : Array Slot)  (hf : f_X8_turnedNow_J97 r33 st x2 t0 t1 = some res) (hW : (WdM V ad A) st H) (hS : va_S A s.heap H locs) (hl : lv_has ls 4 [(0, .ref (ad 0)), (2, .int x2)]) : W p l e (rmF 3 67 0 0) s m args below meth c H locs 0 0 (MQ below (Qwi A (WdM V ad A) res.1 res.2) args s 0 0 A) (F0 m 97 ls [.int t0, .int t1]) := by
  
  unfold f_X8_turnedNow_J97 at hf
  refine lv_iadd X.hx X.hb dX8_turnedNow_97 ?_
  obtain ⟨w98, e98, hf⟩ := lt_e hf
  refine lv_nm e98 ?_
  refine lv_istore_n (lv' := [(1, .int w98), (0, .ref (ad 0)), (2, .int x2)]) X.hx X.hb dX8_turnedNow_98 rfl hl (by decide) rfl (fun ls hl => ?_)
  refine lv_aload_n X.hx X.hb dX8_turnedNow_99 rfl (lv_at hl 1 rfl) ?_
  obtain ⟨b100, h100, hf⟩ := bnd hf
  refine cl_i (run_V (As := []) (rest := []) X (w_X8_next l V A ad h100) mw_X8_next ln_X8_177 (rcX8 X hW) hW hS rfl hl.1 rfl (Nat.le_of_ble_eq_true rfl) ⟨Nat.le_of_ble_eq_true rfl, Nat.le_of_ble_eq_true rfl⟩ ⟨Nat.le_refl _, Nat.le_refl _⟩ dX8_turnedNow_100) hS (fun H locs hW hS => ?_)
  refine lv_pop X.hx X.hb dX8_turnedNow_103 rfl ?_
  refine lv_goto (tgt := 33) X.hx X.hb dX8_turnedNow_104 (by decide) ?_
  exact hr33 _ _ _ _ _ _  hf hW hS (lv_sub hl [1, 0, 2] rfl)
noncomputable def f_X8_turnedNow_L41 (r33 : St → Int32 → Int32 → Option (Int32 × St)) : Nat → St → Int32 → Int32 → Int32 → Option (Int32 × St)
  | 0, _, _, _, _ => none
  | fu + 1, st, x1, x2, x3 => if (st.1 0) ≤ x3 then if x2 = 0 then (f_X8_isSquare st).bind fun b86 => if b86.1 = 0 then f_X8_turnedNow_J97 r33 b86.2 x2 0 x1 else f_X8_turnedNow_J97 r33 b86.2 x2 1 x1 else r33 st x1 x2 else if x2 = 0 then f_X8_turnedNow_J72 r33 ((f_X8_turnedNow_L41 r33 fu)) st x1 x3 else if inb x3 4 = true then if inb x3 4 = true then if (st.2.1 6 x3.toNatClampNeg) = (st.2.1 8 x3.toNatClampNeg) then f_X8_turnedNow_J73 r33 ((f_X8_turnedNow_L41 r33 fu)) st x1 x3 1 else f_X8_turnedNow_J72 r33 ((f_X8_turnedNow_L41 r33 fu)) st x1 x3 else none else none
set_option maxRecDepth 100000 in
theorem f_X8_turnedNow_L41_w {r33 : St → Int32 → Int32 → Option (Int32 × St)} {res : (Int32 × St)} (X : Cx V A cX8_turnedNow 4 RX8 p m c s args) (hr : meth.sig.returnType = (some .int)) (hlk : meth.locks = false) (hr33 : ∀ (st : St) (x1 : Int32) (x2 : Int32) (H : Heap) (locs : List Loc) (ls : Array Slot), r33 st x1 x2 = some res → (WdM V ad A) st H → va_S A s.heap H locs → lv_has ls 4 [(0, .ref (ad 0)), (1, .int x1), (2, .int x2)] → W p l e (rmF 3 67 0 0) s m args below meth c H locs 0 0 (MQ below (Qwi A (WdM V ad A) res.1 res.2) args s 0 0 A) (F0 m 33 ls [])) : ∀ (n9 : Nat) (st : St) (x1 : Int32) (x2 : Int32) (x3 : Int32) (H : Heap) (locs : List Loc) (ls : Array Slot), f_X8_turnedNow_L41 r33 n9 st x1 x2 x3 = some res → (WdM V ad A) st H → va_S A s.heap H locs → lv_has ls 4 [(0, .ref (ad 0)), (1, .int x1), (2, .int x2), (3, .int x3)] → W p l e (rmF 3 67 0 0) s m args below meth c H locs 0 0 (MQ below (Qwi A (WdM V ad A) res.1 res.2) args s 0 0 A) (F0 m 41 ls []) := by
  intro n9
  induction n9 with
  | zero =>
    intro st x1 x2 x3 H locs ls hf
    exact absurd hf (by unfold f_X8_turnedNow_L41; exact fun h => by cases h)
  | succ n9 hr41 =>
    intro st x1 x2 x3 H locs ls hf hW hS hl
    
    unfold f_X8_turnedNow_L41 at hf
    refine lv_iload_n X.hx X.hb dX8_turnedNow_41 rfl (lv_at hl 3 rfl) ?_
    refine lv_aload_n X.hx X.hb dX8_turnedNow_42 rfl (lv_at hl 0 rfl) ?_
    refine gX8_length X hW dX8_turnedNow_43 ?_
    refine lv_icmp_ge (tgt := 80) X.hx X.hb dX8_turnedNow_46 (by decide) (fun c46 => ?_) (fun c46 => ?_)
    · replace hf := ite_t c46 hf
      refine lv_iload_n X.hx X.hb dX8_turnedNow_80 rfl (lv_at hl 2 rfl) ?_
      refine lv_if_ne (tgt := 33) X.hx X.hb dX8_turnedNow_81 (by decide) (fun c81 => ?_) (fun c81 => ?_)
      · replace hf := ite_f c81 hf
        exact hr33 _ _ _ _ _ _  hf hW hS (lv_sub hl [0, 1, 2] rfl)
      · replace hf := ite_t c81 hf
        refine lv_iload_n X.hx X.hb dX8_turnedNow_84 rfl (lv_at hl 1 rfl) ?_
        refine lv_aload_n X.hx X.hb dX8_turnedNow_85 rfl (lv_at hl 0 rfl) ?_
        obtain ⟨b86, h86, hf⟩ := bnd hf
        refine cl_i (run_V (As := []) (rest := [.int x1]) X (w_X8_isSquare l V A ad h86) mw_X8_isSquare ln_X8_162 (rcX8 X hW) hW hS rfl hl.1 rfl (Nat.le_of_ble_eq_true rfl) ⟨Nat.le_of_ble_eq_true rfl, Nat.le_of_ble_eq_true rfl⟩ ⟨Nat.le_refl _, Nat.le_refl _⟩ dX8_turnedNow_86) hS (fun H locs hW hS => ?_)
        refine lv_if_eq (tgt := 96) X.hx X.hb dX8_turnedNow_89 (by decide) (fun c89 => ?_) (fun c89 => ?_)
        · replace hf := ite_t c89 hf
          refine lv_iconst (v := 0) X.hx X.hb dX8_turnedNow_96 (by decide) ?_
          exact f_X8_turnedNow_J97_w X hr hlk hr33 _ _ _ _ _ _ _  hf hW hS (lv_sub hl [0, 2] rfl)
        · replace hf := ite_f c89 hf
          refine lv_iconst (v := 1) X.hx X.hb dX8_turnedNow_92 (by decide) ?_
          refine lv_goto (tgt := 97) X.hx X.hb dX8_turnedNow_93 (by decide) ?_
          exact f_X8_turnedNow_J97_w X hr hlk hr33 _ _ _ _ _ _ _  hf hW hS (lv_sub hl [0, 2] rfl)
    · replace hf := ite_f c46 hf
      refine lv_iload_n X.hx X.hb dX8_turnedNow_49 rfl (lv_at hl 2 rfl) ?_
      refine lv_if_eq (tgt := 72) X.hx X.hb dX8_turnedNow_50 (by decide) (fun c50 => ?_) (fun c50 => ?_)
      · replace hf := ite_t c50 hf
        exact f_X8_turnedNow_J72_w X hr hlk hr33 hr41 _ _ _ _ _ _  hf hW hS (lv_sub hl [0, 1, 3] rfl)
      · replace hf := ite_f c50 hf
        refine lv_aload_n X.hx X.hb dX8_turnedNow_53 rfl (lv_at hl 0 rfl) ?_
        refine gX8_rowWord X hW dX8_turnedNow_54 ?_
        refine lv_iload_n X.hx X.hb dX8_turnedNow_57 rfl (lv_at hl 3 rfl) ?_
        obtain ⟨h58, hf⟩ := ite_n hf
        refine aM_ld X hW isM_6 rfl h58 dX8_turnedNow_58 ?_
        refine lv_aload_n X.hx X.hb dX8_turnedNow_59 rfl (lv_at hl 0 rfl) ?_
        refine gX8_sought X hW dX8_turnedNow_60 ?_
        refine lv_iload_n X.hx X.hb dX8_turnedNow_63 rfl (lv_at hl 3 rfl) ?_
        obtain ⟨h64, hf⟩ := ite_n hf
        refine aM_ld X hW isM_8 rfl h64 dX8_turnedNow_64 ?_
        refine lv_icmp_ne (tgt := 72) X.hx X.hb dX8_turnedNow_65 (by decide) (fun c65 => ?_) (fun c65 => ?_)
        · replace hf := ite_f c65 hf
          exact f_X8_turnedNow_J72_w X hr hlk hr33 hr41 _ _ _ _ _ _  hf hW hS (lv_sub hl [0, 1, 3] rfl)
        · replace hf := ite_t c65 hf
          refine lv_iconst (v := 1) X.hx X.hb dX8_turnedNow_68 (by decide) ?_
          refine lv_goto (tgt := 73) X.hx X.hb dX8_turnedNow_69 (by decide) ?_
          exact f_X8_turnedNow_J73_w X hr hlk hr33 hr41 _ _ _ _ _ _ _  hf hW hS (lv_sub hl [0, 1, 3] rfl)
noncomputable def f_X8_turnedNow_L33 : Nat → St → Int32 → Int32 → Option (Int32 × St)
  | 0, _, _, _ => none
  | fu + 1, st, x1, x2 => if x2 = 0 then f_X8_turnedNow_L41 ((f_X8_turnedNow_L33 fu)) FU st x1 1 0 else some (x1, st)
set_option maxRecDepth 100000 in
theorem f_X8_turnedNow_L33_w {res : (Int32 × St)} (X : Cx V A cX8_turnedNow 4 RX8 p m c s args) (hr : meth.sig.returnType = (some .int)) (hlk : meth.locks = false)  : ∀ (n9 : Nat) (st : St) (x1 : Int32) (x2 : Int32) (H : Heap) (locs : List Loc) (ls : Array Slot), f_X8_turnedNow_L33 n9 st x1 x2 = some res → (WdM V ad A) st H → va_S A s.heap H locs → lv_has ls 4 [(0, .ref (ad 0)), (1, .int x1), (2, .int x2)] → W p l e (rmF 3 67 0 0) s m args below meth c H locs 0 0 (MQ below (Qwi A (WdM V ad A) res.1 res.2) args s 0 0 A) (F0 m 33 ls []) := by
  intro n9
  induction n9 with
  | zero =>
    intro st x1 x2 H locs ls hf
    exact absurd hf (by unfold f_X8_turnedNow_L33; exact fun h => by cases h)
  | succ n9 hr33 =>
    intro st x1 x2 H locs ls hf hW hS hl
    
    unfold f_X8_turnedNow_L33 at hf
    refine lv_iload_n X.hx X.hb dX8_turnedNow_33 rfl (lv_at hl 2 rfl) ?_
    refine lv_if_ne (tgt := 107) X.hx X.hb dX8_turnedNow_34 (by decide) (fun c34 => ?_) (fun c34 => ?_)
    · replace hf := ite_f c34 hf
      refine lv_iload_n X.hx X.hb dX8_turnedNow_107 rfl (lv_at hl 1 rfl) ?_
      exact rt_i X hr hlk (by rw [← Option.some.inj hf]; exact hW) hS (by rw [← Option.some.inj hf]) (Nat.le_refl _) (Nat.le_refl _) dX8_turnedNow_108
    · replace hf := ite_t c34 hf
      refine lv_iconst (v := 1) X.hx X.hb dX8_turnedNow_37 (by decide) ?_
      refine lv_istore_n (lv' := [(2, .int 1), (0, .ref (ad 0)), (1, .int x1)]) X.hx X.hb dX8_turnedNow_38 rfl hl (by decide) rfl (fun ls hl => ?_)
      refine lv_iconst (v := 0) X.hx X.hb dX8_turnedNow_39 (by decide) ?_
      refine lv_istore_n (lv' := [(3, .int 0), (2, .int 1), (0, .ref (ad 0)), (1, .int x1)]) X.hx X.hb dX8_turnedNow_40 rfl hl (by decide) rfl (fun ls hl => ?_)
      exact f_X8_turnedNow_L41_w X hr hlk hr33 FU _ _ _ _ _ _ _  hf hW hS (lv_sub hl [2, 3, 1, 0] rfl)
noncomputable def f_X8_turnedNow_L2 : Nat → St → Int32 → Option (Int32 × St)
  | 0, _, _ => none
  | fu + 1, st, x1 => if 4 ≤ x1 then (f_X8_begin st).bind fun b28 => f_X8_turnedNow_L33 FU b28 0 0 else if inb x1 4 = true then if inb x1 4 = true then lt (sA st 8 x1.toNatClampNeg (st.2.1 7 x1.toNatClampNeg)) fun s18 => lt (x1 + 1) fun w19 => (f_X8_turnedNow_L2 fu) s18 w19 else none else none
set_option maxRecDepth 100000 in
theorem f_X8_turnedNow_L2_w {res : (Int32 × St)} (X : Cx V A cX8_turnedNow 4 RX8 p m c s args) (hr : meth.sig.returnType = (some .int)) (hlk : meth.locks = false)  : ∀ (n9 : Nat) (st : St) (x1 : Int32) (H : Heap) (locs : List Loc) (ls : Array Slot), f_X8_turnedNow_L2 n9 st x1 = some res → (WdM V ad A) st H → va_S A s.heap H locs → lv_has ls 4 [(0, .ref (ad 0)), (1, .int x1)] → W p l e (rmF 3 67 0 0) s m args below meth c H locs 0 0 (MQ below (Qwi A (WdM V ad A) res.1 res.2) args s 0 0 A) (F0 m 2 ls []) := by
  intro n9
  induction n9 with
  | zero =>
    intro st x1 H locs ls hf
    exact absurd hf (by unfold f_X8_turnedNow_L2; exact fun h => by cases h)
  | succ n9 hr2 =>
    intro st x1 H locs ls hf hW hS hl
    
    unfold f_X8_turnedNow_L2 at hf
    refine lv_iload_n X.hx X.hb dX8_turnedNow_2 rfl (lv_at hl 1 rfl) ?_
    refine lv_iconst (v := 4) X.hx X.hb dX8_turnedNow_3 (by decide) ?_
    refine lv_icmp_ge (tgt := 25) X.hx X.hb dX8_turnedNow_4 (by decide) (fun c4 => ?_) (fun c4 => ?_)
    · replace hf := ite_t c4 hf
      refine lv_iconst (v := 0) X.hx X.hb dX8_turnedNow_25 (by decide) ?_
      refine lv_istore_n (lv' := [(1, .int 0), (0, .ref (ad 0))]) X.hx X.hb dX8_turnedNow_26 rfl hl (by decide) rfl (fun ls hl => ?_)
      refine lv_aload_n X.hx X.hb dX8_turnedNow_27 rfl (lv_at hl 1 rfl) ?_
      obtain ⟨b28, h28, hf⟩ := bnd hf
      refine cl_v (run_V (As := []) (rest := []) X (w_X8_begin l V A ad h28) mw_X8_begin ln_X8_171 (rcX8 X hW) hW hS rfl hl.1 rfl (Nat.le_of_ble_eq_true rfl) ⟨Nat.le_of_ble_eq_true rfl, Nat.le_of_ble_eq_true rfl⟩ ⟨Nat.le_refl _, Nat.le_refl _⟩ dX8_turnedNow_28) hS (fun H locs hW hS => ?_)
      refine lv_iconst (v := 0) X.hx X.hb dX8_turnedNow_31 (by decide) ?_
      refine lv_istore_n (lv' := [(2, .int 0), (1, .int 0), (0, .ref (ad 0))]) X.hx X.hb dX8_turnedNow_32 rfl hl (by decide) rfl (fun ls hl => ?_)
      exact f_X8_turnedNow_L33_w X hr hlk FU _ _ _ _ _ _  hf hW hS (lv_sub hl [2, 1, 0] rfl)
    · replace hf := ite_f c4 hf
      refine lv_aload_n X.hx X.hb dX8_turnedNow_7 rfl (lv_at hl 0 rfl) ?_
      refine gX8_sought X hW dX8_turnedNow_8 ?_
      refine lv_iload_n X.hx X.hb dX8_turnedNow_11 rfl (lv_at hl 1 rfl) ?_
      refine lv_aload_n X.hx X.hb dX8_turnedNow_12 rfl (lv_at hl 0 rfl) ?_
      refine gX8_columnWord X hW dX8_turnedNow_13 ?_
      refine lv_iload_n X.hx X.hb dX8_turnedNow_16 rfl (lv_at hl 1 rfl) ?_
      obtain ⟨h17, hf⟩ := ite_n hf
      refine aM_ld X hW isM_7 rfl h17 dX8_turnedNow_17 ?_
      obtain ⟨h18, hf⟩ := ite_n hf
      obtain ⟨s18, e18, hf⟩ := lt_e hf
      refine aM_st X hW hS isM_8 rfl h18 dX8_turnedNow_18 (fun H locs hW hS => ?_)
      rw [← e18] at hW
      obtain ⟨w19, e19, hf⟩ := lt_e hf
      refine lv_iinc (v := w19) (lv' := [(1, .int w19), (0, .ref (ad 0))]) X.hx X.hb dX8_turnedNow_19 hl (k := 1) rfl (by rw [e19]; rfl) (by decide) rfl (fun ls hl => ?_)
      refine lv_goto (tgt := 2) X.hx X.hb dX8_turnedNow_22 (by decide) ?_
      exact hr2 _ _ _ _ _  hf hW hS (lv_sub hl [1, 0] rfl)
noncomputable def f_X8_turnedNow (st : St) : Option (Int32 × St) := f_X8_turnedNow_L2 FU st 0
set_option maxRecDepth 100000 in
theorem w_X8_turnedNow (l : Launch) (V : Ev) (A : Nat → Prop) (ad : Nat → Nat) {st : St} {res : (Int32 × St)} (hf : f_X8_turnedNow st = some res) : Cn l yX8_turnedNow cX8_turnedNow 4 (some .int) 3 67 0 0 V A (WdM V ad A) st [.ref (ad 0)] (Qwi A (WdM V ad A) res.1 res.2) := by
  refine cn_of RX8 (by decide) rfl (fun p e s m below meth c ls X hr hlk hW hS hl => ?_) (Nat.le_of_ble_eq_true rfl)
  have hl : lv_has ls 4 [(0, .ref (ad 0))] := hl
  unfold f_X8_turnedNow at hf
  refine lv_iconst (v := 0) X.hx X.hb dX8_turnedNow_0 (by decide) ?_
  refine lv_istore_n (lv' := [(1, .int 0), (0, .ref (ad 0))]) X.hx X.hb dX8_turnedNow_1 rfl hl (by decide) rfl (fun ls hl => ?_)
  exact f_X8_turnedNow_L2_w X hr hlk FU _ _ _ _ _  hf hW hS (lv_sub hl [1, 0] rfl)
-- WordSquaresModel.turned
noncomputable def f_X8_turned (st : St) (a1 : Int32) : Option (Int32 × St) := (f_X8_lay st 0 a1).bind fun b3 => if b3.1 = 0 then some ((-101), b3.2) else (f_X8_turnedNow b3.2).bind fun b10 => some (b10.1, b10.2)
set_option maxRecDepth 100000 in
theorem w_X8_turned (l : Launch) (V : Ev) (A : Nat → Prop) (ad : Nat → Nat) {st : St} {a1 : Int32} {res : (Int32 × St)} (hf : f_X8_turned st a1 = some res) : Cn l yX8_turned cX8_turned 2 (some .int) 5 112 0 0 V A (WdM V ad A) st [.ref (ad 0), .int a1] (Qwi A (WdM V ad A) res.1 res.2) := by
  refine cn_of RX8 (by decide) rfl (fun p e s m below meth c ls X hr hlk hW hS hl => ?_) (Nat.le_of_ble_eq_true rfl)
  have hl : lv_has ls 2 [(0, .ref (ad 0)), (1, .int a1)] := hl
  unfold f_X8_turned at hf
  refine lv_aload_n X.hx X.hb dX8_turned_0 rfl (lv_at hl 0 rfl) ?_
  refine lv_iconst (v := 0) X.hx X.hb dX8_turned_1 (by decide) ?_
  refine lv_iload_n X.hx X.hb dX8_turned_2 rfl (lv_at hl 1 rfl) ?_
  obtain ⟨b3, h3, hf⟩ := bnd hf
  refine cl_i (run_V (As := [.int 0, .int a1]) (rest := []) X (w_X8_lay l V A ad h3) mw_X8_lay ln_X8_183 (rcX8 X hW) hW hS rfl hl.1 rfl (Nat.le_of_ble_eq_true rfl) ⟨Nat.le_of_ble_eq_true rfl, Nat.le_of_ble_eq_true rfl⟩ ⟨Nat.le_refl _, Nat.le_refl _⟩ dX8_turned_3) hS (fun H locs hW hS => ?_)
  refine lv_if_eq (tgt := 16) X.hx X.hb dX8_turned_6 (by decide) (fun c6 => ?_) (fun c6 => ?_)
  · replace hf := ite_t c6 hf
    refine lv_bipush (v := (-101)) X.hx X.hb dX8_turned_16 (by decide) ?_
    exact rt_i X hr hlk (by rw [← Option.some.inj hf]; exact hW) hS (by rw [← Option.some.inj hf]) (Nat.le_refl _) (Nat.le_refl _) dX8_turned_18
  · replace hf := ite_f c6 hf
    refine lv_aload_n X.hx X.hb dX8_turned_9 rfl (lv_at hl 0 rfl) ?_
    obtain ⟨b10, h10, hf⟩ := bnd hf
    refine cl_i (run_V (As := []) (rest := []) X (w_X8_turnedNow l V A ad h10) mw_X8_turnedNow ln_X8_186 (rcX8 X hW) hW hS rfl hl.1 rfl (Nat.le_of_ble_eq_true rfl) ⟨Nat.le_of_ble_eq_true rfl, Nat.le_of_ble_eq_true rfl⟩ ⟨Nat.le_refl _, Nat.le_refl _⟩ dX8_turned_10) hS (fun H locs hW hS => ?_)
    refine lv_goto (tgt := 18) X.hx X.hb dX8_turned_13 (by decide) ?_
    exact rt_i X hr hlk (by rw [← Option.some.inj hf]; exact hW) hS (by rw [← Option.some.inj hf]) (Nat.le_refl _) (Nat.le_refl _) dX8_turned_18
-- WordSquaresModel.heavyNow
noncomputable def f_X8_heavyNow_L4 (st : St) : Nat → Int32 → Int32 → Option Int32
  | 0, _, _ => none
  | fu + 1, x1, x2 => if (st.1 0) ≤ x2 then some x1 else if inb x2 4 = true then if inb (st.2.1 6 x2.toNatClampNeg) 12 = true then if inb x2 4 = true then if inb (st.2.1 7 x2.toNatClampNeg) 12 = true then lt (x1 + ((st.2.1 2 (st.2.1 6 x2.toNatClampNeg).toNatClampNeg) + (st.2.1 2 (st.2.1 7 x2.toNatClampNeg).toNatClampNeg))) fun w37 => lt (x2 + 1) fun w38 => (f_X8_heavyNow_L4 st fu) w37 w38 else none else none else none else none
set_option maxRecDepth 100000 in
theorem f_X8_heavyNow_L4_w {st : St} {res : Int32} (X : Cx V A cX8_heavyNow 3 RX8 p m c s args) (hr : meth.sig.returnType = (some .int)) (hlk : meth.locks = false)  : ∀ (n9 : Nat) (x1 : Int32) (x2 : Int32) (H : Heap) (locs : List Loc) (ls : Array Slot), f_X8_heavyNow_L4 st n9 x1 x2 = some res → (WdM V ad A) st H → va_S A s.heap H locs → lv_has ls 3 [(0, .ref (ad 0)), (1, .int x1), (2, .int x2)] → W p l e (rmF 0 0 0 0) s m args below meth c H locs 0 0 (MQ below (Qwi A (WdM V ad A) res st) args s 0 0 A) (F0 m 4 ls []) := by
  intro n9
  induction n9 with
  | zero =>
    intro x1 x2 H locs ls hf
    exact absurd hf (by unfold f_X8_heavyNow_L4; exact fun h => by cases h)
  | succ n9 hr4 =>
    intro x1 x2 H locs ls hf hW hS hl
    
    unfold f_X8_heavyNow_L4 at hf
    refine lv_iload_n X.hx X.hb dX8_heavyNow_4 rfl (lv_at hl 2 rfl) ?_
    refine lv_aload_n X.hx X.hb dX8_heavyNow_5 rfl (lv_at hl 0 rfl) ?_
    refine gX8_length X hW dX8_heavyNow_6 ?_
    refine lv_icmp_ge (tgt := 44) X.hx X.hb dX8_heavyNow_9 (by decide) (fun c9 => ?_) (fun c9 => ?_)
    · replace hf := ite_t c9 hf
      refine lv_iload_n X.hx X.hb dX8_heavyNow_44 rfl (lv_at hl 1 rfl) ?_
      exact rt_i X hr hlk hW hS (Option.some.inj hf) (Nat.le_refl _) (Nat.le_refl _) dX8_heavyNow_45
    · replace hf := ite_f c9 hf
      refine lv_iload_n X.hx X.hb dX8_heavyNow_12 rfl (lv_at hl 1 rfl) ?_
      refine lv_aload_n X.hx X.hb dX8_heavyNow_13 rfl (lv_at hl 0 rfl) ?_
      refine gX8_weights X hW dX8_heavyNow_14 ?_
      refine lv_aload_n X.hx X.hb dX8_heavyNow_17 rfl (lv_at hl 0 rfl) ?_
      refine gX8_rowWord X hW dX8_heavyNow_18 ?_
      refine lv_iload_n X.hx X.hb dX8_heavyNow_21 rfl (lv_at hl 2 rfl) ?_
      obtain ⟨h22, hf⟩ := ite_n hf
      refine aM_ld X hW isM_6 rfl h22 dX8_heavyNow_22 ?_
      obtain ⟨h23, hf⟩ := ite_n hf
      refine aM_ld X hW isM_2 rfl h23 dX8_heavyNow_23 ?_
      refine lv_aload_n X.hx X.hb dX8_heavyNow_24 rfl (lv_at hl 0 rfl) ?_
      refine gX8_weights X hW dX8_heavyNow_25 ?_
      refine lv_aload_n X.hx X.hb dX8_heavyNow_28 rfl (lv_at hl 0 rfl) ?_
      refine gX8_columnWord X hW dX8_heavyNow_29 ?_
      refine lv_iload_n X.hx X.hb dX8_heavyNow_32 rfl (lv_at hl 2 rfl) ?_
      obtain ⟨h33, hf⟩ := ite_n hf
      refine aM_ld X hW isM_7 rfl h33 dX8_heavyNow_33 ?_
      obtain ⟨h34, hf⟩ := ite_n hf
      refine aM_ld X hW isM_2 rfl h34 dX8_heavyNow_34 ?_
      refine lv_iadd X.hx X.hb dX8_heavyNow_35 ?_
      refine lv_iadd X.hx X.hb dX8_heavyNow_36 ?_
      obtain ⟨w37, e37, hf⟩ := lt_e hf
      refine lv_nm e37 ?_
      refine lv_istore_n (lv' := [(1, .int w37), (0, .ref (ad 0)), (2, .int x2)]) X.hx X.hb dX8_heavyNow_37 rfl hl (by decide) rfl (fun ls hl => ?_)
      obtain ⟨w38, e38, hf⟩ := lt_e hf
      refine lv_iinc (v := w38) (lv' := [(2, .int w38), (1, .int w37), (0, .ref (ad 0))]) X.hx X.hb dX8_heavyNow_38 hl (k := 2) rfl (by rw [e38]; rfl) (by decide) rfl (fun ls hl => ?_)
      refine lv_goto (tgt := 4) X.hx X.hb dX8_heavyNow_41 (by decide) ?_
      exact hr4 _ _ _ _ _  hf hW hS (lv_sub hl [2, 1, 0] rfl)
noncomputable def f_X8_heavyNow (st : St) : Option Int32 := f_X8_heavyNow_L4 st FU 0 0
set_option maxRecDepth 100000 in
theorem w_X8_heavyNow (l : Launch) (V : Ev) (A : Nat → Prop) (ad : Nat → Nat) {st : St} {res : Int32} (hf : f_X8_heavyNow st = some res) : Cn l yX8_heavyNow cX8_heavyNow 3 (some .int) 0 0 0 0 V A (WdM V ad A) st [.ref (ad 0)] (Qwi A (WdM V ad A) res st) := by
  refine cn_of RX8 (by decide) rfl (fun p e s m below meth c ls X hr hlk hW hS hl => ?_) (Nat.le_of_ble_eq_true rfl)
  have hl : lv_has ls 3 [(0, .ref (ad 0))] := hl
  unfold f_X8_heavyNow at hf
  refine lv_iconst (v := 0) X.hx X.hb dX8_heavyNow_0 (by decide) ?_
  refine lv_istore_n (lv' := [(1, .int 0), (0, .ref (ad 0))]) X.hx X.hb dX8_heavyNow_1 rfl hl (by decide) rfl (fun ls hl => ?_)
  refine lv_iconst (v := 0) X.hx X.hb dX8_heavyNow_2 (by decide) ?_
  refine lv_istore_n (lv' := [(2, .int 0), (1, .int 0), (0, .ref (ad 0))]) X.hx X.hb dX8_heavyNow_3 rfl hl (by decide) rfl (fun ls hl => ?_)
  exact f_X8_heavyNow_L4_w X hr hlk FU _ _ _ _ _  hf hW hS (lv_sub hl [2, 1, 0] rfl)
-- WordSquaresModel.heavy
noncomputable def f_X8_heavy (st : St) (a1 : Int32) : Option (Int32 × St) := (f_X8_lay st 0 a1).bind fun b3 => if b3.1 = 0 then some ((-101), b3.2) else (f_X8_heavyNow b3.2).bind fun b10 => some (b10, b3.2)
set_option maxRecDepth 100000 in
theorem w_X8_heavy (l : Launch) (V : Ev) (A : Nat → Prop) (ad : Nat → Nat) {st : St} {a1 : Int32} {res : (Int32 × St)} (hf : f_X8_heavy st a1 = some res) : Cn l yX8_heavy cX8_heavy 2 (some .int) 5 112 0 0 V A (WdM V ad A) st [.ref (ad 0), .int a1] (Qwi A (WdM V ad A) res.1 res.2) := by
  refine cn_of RX8 (by decide) rfl (fun p e s m below meth c ls X hr hlk hW hS hl => ?_) (Nat.le_of_ble_eq_true rfl)
  have hl : lv_has ls 2 [(0, .ref (ad 0)), (1, .int a1)] := hl
  unfold f_X8_heavy at hf
  refine lv_aload_n X.hx X.hb dX8_heavy_0 rfl (lv_at hl 0 rfl) ?_
  refine lv_iconst (v := 0) X.hx X.hb dX8_heavy_1 (by decide) ?_
  refine lv_iload_n X.hx X.hb dX8_heavy_2 rfl (lv_at hl 1 rfl) ?_
  obtain ⟨b3, h3, hf⟩ := bnd hf
  refine cl_i (run_V (As := [.int 0, .int a1]) (rest := []) X (w_X8_lay l V A ad h3) mw_X8_lay ln_X8_183 (rcX8 X hW) hW hS rfl hl.1 rfl (Nat.le_of_ble_eq_true rfl) ⟨Nat.le_of_ble_eq_true rfl, Nat.le_of_ble_eq_true rfl⟩ ⟨Nat.le_refl _, Nat.le_refl _⟩ dX8_heavy_3) hS (fun H locs hW hS => ?_)
  refine lv_if_eq (tgt := 16) X.hx X.hb dX8_heavy_6 (by decide) (fun c6 => ?_) (fun c6 => ?_)
  · replace hf := ite_t c6 hf
    refine lv_bipush (v := (-101)) X.hx X.hb dX8_heavy_16 (by decide) ?_
    exact rt_i X hr hlk (by rw [← Option.some.inj hf]; exact hW) hS (by rw [← Option.some.inj hf]) (Nat.le_refl _) (Nat.le_refl _) dX8_heavy_18
  · replace hf := ite_f c6 hf
    refine lv_aload_n X.hx X.hb dX8_heavy_9 rfl (lv_at hl 0 rfl) ?_
    obtain ⟨b10, h10, hf⟩ := bnd hf
    refine cl_i (run_V (As := []) (rest := []) X (w_X8_heavyNow l V A ad h10) mw_X8_heavyNow ln_X8_189 (rcX8 X hW) hW hS rfl hl.1 rfl (Nat.le_of_ble_eq_true rfl) ⟨Nat.le_of_ble_eq_true rfl, Nat.le_of_ble_eq_true rfl⟩ ⟨Nat.le_refl _, Nat.le_refl _⟩ dX8_heavy_10) hS (fun H locs hW hS => ?_)
    refine lv_goto (tgt := 18) X.hx X.hb dX8_heavy_13 (by decide) ?_
    exact rt_i X hr hlk (by rw [← Option.some.inj hf]; exact hW) hS (by rw [← Option.some.inj hf]) (Nat.le_refl _) (Nat.le_refl _) dX8_heavy_18
-- WordSquaresModel.heaviestNow
noncomputable def f_X8_heaviestNow_J73 (r25 : St → Int32 → Int32 → Int32 → Int32 → Int32 → Option (Int32 × St)) (st : St) (x1 : Int32) (x2 : Int32) (x3 : Int32) (x4 : Int32) : Option (Int32 × St) := (f_X8_next st).bind fun b74 => r25 b74.2 x1 x2 x3 x4 b74.1
set_option maxRecDepth 100000 in
theorem f_X8_heaviestNow_J73_w {r25 : St → Int32 → Int32 → Int32 → Int32 → Int32 → Option (Int32 × St)} {res : (Int32 × St)} (X : Cx V A cX8_heaviestNow 7 RX8 p m c s args) (hr : meth.sig.returnType = (some .int)) (hlk : meth.locks = false) (hr25 : ∀ (st : St) (x1 : Int32) (x2 : Int32) (x3 : Int32) (x4 : Int32) (x5 : Int32) (H : Heap) (locs : List Loc) (ls : Array Slot), r25 st x1 x2 x3 x4 x5 = some res → (WdM V ad A) st H → va_S A s.heap H locs → lv_has ls 7 [(0, .ref (ad 0)), (1, .int x1), (2, .int x2), (3, .int x3), (4, .int x4), (5, .int x5)] → W p l e (rmF 4 88 0 0) s m args below meth c H locs 0 0 (MQ below (Qwi A (WdM V ad A) res.1 res.2) args s 0 0 A) (F0 m 25 ls [])) (st : St) (x1 : Int32) (x2 : Int32) (x3 : Int32) (x4 : Int32) (H : Heap) (locs : List Loc) (ls : Array Slot)  (hf : f_X8_heaviestNow_J73 r25 st x1 x2 x3 x4 = some res) (hW : (WdM V ad A) st H) (hS : va_S A s.heap H locs) (hl : lv_has ls 7 [(0, .ref (ad 0)), (1, .int x1), (2, .int x2), (3, .int x3), (4, .int x4)]) : W p l e (rmF 4 88 0 0) s m args below meth c H locs 0 0 (MQ below (Qwi A (WdM V ad A) res.1 res.2) args s 0 0 A) (F0 m 73 ls []) := by
  
  unfold f_X8_heaviestNow_J73 at hf
  refine lv_aload_n X.hx X.hb dX8_heaviestNow_73 rfl (lv_at hl 0 rfl) ?_
  obtain ⟨b74, h74, hf⟩ := bnd hf
  refine cl_i (run_V (As := []) (rest := []) X (w_X8_next l V A ad h74) mw_X8_next ln_X8_177 (rcX8 X hW) hW hS rfl hl.1 rfl (Nat.le_of_ble_eq_true rfl) ⟨Nat.le_of_ble_eq_true rfl, Nat.le_of_ble_eq_true rfl⟩ ⟨Nat.le_refl _, Nat.le_refl _⟩ dX8_heaviestNow_74) hS (fun H locs hW hS => ?_)
  refine lv_istore (lv' := [(5, .int b74.1), (0, .ref (ad 0)), (1, .int x1), (2, .int x2), (3, .int x3), (4, .int x4)]) X.hx X.hb dX8_heaviestNow_77 hl (by decide) rfl (fun ls hl => ?_)
  refine lv_goto (tgt := 25) X.hx X.hb dX8_heaviestNow_79 (by decide) ?_
  exact hr25 _ _ _ _ _ _ _ _ _  hf hW hS (lv_sub hl [1, 2, 3, 4, 5, 0] rfl)
noncomputable def f_X8_heaviestNow_J69 (r25 : St → Int32 → Int32 → Int32 → Int32 → Int32 → Option (Int32 × St)) (st : St) (x1 : Int32) (x2 : Int32) (x4 : Int32) (t0 : Int32) : Option (Int32 × St) := lt (x4 + 1) fun w70 => f_X8_heaviestNow_J73 r25 st x1 x2 t0 w70
set_option maxRecDepth 100000 in
theorem f_X8_heaviestNow_J69_w {r25 : St → Int32 → Int32 → Int32 → Int32 → Int32 → Option (Int32 × St)} {res : (Int32 × St)} (X : Cx V A cX8_heaviestNow 7 RX8 p m c s args) (hr : meth.sig.returnType = (some .int)) (hlk : meth.locks = false) (hr25 : ∀ (st : St) (x1 : Int32) (x2 : Int32) (x3 : Int32) (x4 : Int32) (x5 : Int32) (H : Heap) (locs : List Loc) (ls : Array Slot), r25 st x1 x2 x3 x4 x5 = some res → (WdM V ad A) st H → va_S A s.heap H locs → lv_has ls 7 [(0, .ref (ad 0)), (1, .int x1), (2, .int x2), (3, .int x3), (4, .int x4), (5, .int x5)] → W p l e (rmF 4 88 0 0) s m args below meth c H locs 0 0 (MQ below (Qwi A (WdM V ad A) res.1 res.2) args s 0 0 A) (F0 m 25 ls [])) (st : St) (x1 : Int32) (x2 : Int32) (x4 : Int32) (t0 : Int32) (H : Heap) (locs : List Loc) (ls : Array Slot)  (hf : f_X8_heaviestNow_J69 r25 st x1 x2 x4 t0 = some res) (hW : (WdM V ad A) st H) (hS : va_S A s.heap H locs) (hl : lv_has ls 7 [(0, .ref (ad 0)), (1, .int x1), (2, .int x2), (4, .int x4)]) : W p l e (rmF 4 88 0 0) s m args below meth c H locs 0 0 (MQ below (Qwi A (WdM V ad A) res.1 res.2) args s 0 0 A) (F0 m 69 ls [.int t0]) := by
  
  unfold f_X8_heaviestNow_J69 at hf
  refine lv_istore_n (lv' := [(3, .int t0), (0, .ref (ad 0)), (1, .int x1), (2, .int x2), (4, .int x4)]) X.hx X.hb dX8_heaviestNow_69 rfl hl (by decide) rfl (fun ls hl => ?_)
  obtain ⟨w70, e70, hf⟩ := lt_e hf
  refine lv_iinc (v := w70) (lv' := [(4, .int w70), (3, .int t0), (0, .ref (ad 0)), (1, .int x1), (2, .int x2)]) X.hx X.hb dX8_heaviestNow_70 hl (k := 4) rfl (by rw [e70]; rfl) (by decide) rfl (fun ls hl => ?_)
  exact f_X8_heaviestNow_J73_w X hr hlk hr25 _ _ _ _ _ _ _ _  hf hW hS (lv_sub hl [2, 3, 4, 1, 0] rfl)
noncomputable def f_X8_heaviestNow_J56 (r25 : St → Int32 → Int32 → Int32 → Int32 → Int32 → Option (Int32 × St)) (st : St) (x1 : Int32) (x3 : Int32) (x4 : Int32) (x6 : Int32) (t0 : Int32) : Option (Int32 × St) := if x6 ≤ x3 then f_X8_heaviestNow_J69 r25 st x1 t0 x4 x3 else f_X8_heaviestNow_J69 r25 st x1 t0 x4 x6
set_option maxRecDepth 100000 in
theorem f_X8_heaviestNow_J56_w {r25 : St → Int32 → Int32 → Int32 → Int32 → Int32 → Option (Int32 × St)} {res : (Int32 × St)} (X : Cx V A cX8_heaviestNow 7 RX8 p m c s args) (hr : meth.sig.returnType = (some .int)) (hlk : meth.locks = false) (hr25 : ∀ (st : St) (x1 : Int32) (x2 : Int32) (x3 : Int32) (x4 : Int32) (x5 : Int32) (H : Heap) (locs : List Loc) (ls : Array Slot), r25 st x1 x2 x3 x4 x5 = some res → (WdM V ad A) st H → va_S A s.heap H locs → lv_has ls 7 [(0, .ref (ad 0)), (1, .int x1), (2, .int x2), (3, .int x3), (4, .int x4), (5, .int x5)] → W p l e (rmF 4 88 0 0) s m args below meth c H locs 0 0 (MQ below (Qwi A (WdM V ad A) res.1 res.2) args s 0 0 A) (F0 m 25 ls [])) (st : St) (x1 : Int32) (x3 : Int32) (x4 : Int32) (x6 : Int32) (t0 : Int32) (H : Heap) (locs : List Loc) (ls : Array Slot)  (hf : f_X8_heaviestNow_J56 r25 st x1 x3 x4 x6 t0 = some res) (hW : (WdM V ad A) st H) (hS : va_S A s.heap H locs) (hl : lv_has ls 7 [(0, .ref (ad 0)), (1, .int x1), (3, .int x3), (4, .int x4), (6, .int x6)]) : W p l e (rmF 4 88 0 0) s m args below meth c H locs 0 0 (MQ below (Qwi A (WdM V ad A) res.1 res.2) args s 0 0 A) (F0 m 56 ls [.int t0]) := by
  
  unfold f_X8_heaviestNow_J56 at hf
  refine lv_istore_n (lv' := [(2, .int t0), (0, .ref (ad 0)), (1, .int x1), (3, .int x3), (4, .int x4), (6, .int x6)]) X.hx X.hb dX8_heaviestNow_56 rfl hl (by decide) rfl (fun ls hl => ?_)
  refine lv_iload X.hx X.hb dX8_heaviestNow_57 (lv_at hl 5 rfl) ?_
  refine lv_iload_n X.hx X.hb dX8_heaviestNow_59 rfl (lv_at hl 3 rfl) ?_
  refine lv_icmp_le (tgt := 68) X.hx X.hb dX8_heaviestNow_60 (by decide) (fun c60 => ?_) (fun c60 => ?_)
  · replace hf := ite_t c60 hf
    refine lv_iload_n X.hx X.hb dX8_heaviestNow_68 rfl (lv_at hl 3 rfl) ?_
    exact f_X8_heaviestNow_J69_w X hr hlk hr25 _ _ _ _ _ _ _ _  hf hW hS (lv_sub hl [1, 2, 0, 4] rfl)
  · replace hf := ite_f c60 hf
    refine lv_iload X.hx X.hb dX8_heaviestNow_63 (lv_at hl 5 rfl) ?_
    refine lv_goto (tgt := 69) X.hx X.hb dX8_heaviestNow_65 (by decide) ?_
    exact f_X8_heaviestNow_J69_w X hr hlk hr25 _ _ _ _ _ _ _ _  hf hW hS (lv_sub hl [1, 2, 0, 4] rfl)
noncomputable def f_X8_heaviestNow_L25 : Nat → St → Int32 → Int32 → Int32 → Int32 → Int32 → Option (Int32 × St)
  | 0, _, _, _, _, _, _ => none
  | fu + 1, st, x1, x2, x3, x4, x5 => if x5 = 0 then some (x2, st) else (f_X8_isOf st x1).bind fun b32 => if b32.1 = 0 then f_X8_heaviestNow_J73 ((f_X8_heaviestNow_L25 fu)) b32.2 x1 x2 x3 x4 else (f_X8_heavyNow b32.2).bind fun b39 => if b39 ≤ x3 then f_X8_heaviestNow_J56 ((f_X8_heaviestNow_L25 fu)) b32.2 x1 x3 x4 b39 x2 else f_X8_heaviestNow_J56 ((f_X8_heaviestNow_L25 fu)) b32.2 x1 x3 x4 b39 x4
set_option maxRecDepth 100000 in
theorem f_X8_heaviestNow_L25_w {res : (Int32 × St)} (X : Cx V A cX8_heaviestNow 7 RX8 p m c s args) (hr : meth.sig.returnType = (some .int)) (hlk : meth.locks = false)  : ∀ (n9 : Nat) (st : St) (x1 : Int32) (x2 : Int32) (x3 : Int32) (x4 : Int32) (x5 : Int32) (H : Heap) (locs : List Loc) (ls : Array Slot), f_X8_heaviestNow_L25 n9 st x1 x2 x3 x4 x5 = some res → (WdM V ad A) st H → va_S A s.heap H locs → lv_has ls 7 [(0, .ref (ad 0)), (1, .int x1), (2, .int x2), (3, .int x3), (4, .int x4), (5, .int x5)] → W p l e (rmF 4 88 0 0) s m args below meth c H locs 0 0 (MQ below (Qwi A (WdM V ad A) res.1 res.2) args s 0 0 A) (F0 m 25 ls []) := by
  intro n9
  induction n9 with
  | zero =>
    intro st x1 x2 x3 x4 x5 H locs ls hf
    exact absurd hf (by unfold f_X8_heaviestNow_L25; exact fun h => by cases h)
  | succ n9 hr25 =>
    intro st x1 x2 x3 x4 x5 H locs ls hf hW hS hl
    
    unfold f_X8_heaviestNow_L25 at hf
    refine lv_iload X.hx X.hb dX8_heaviestNow_25 (lv_at hl 5 rfl) ?_
    refine lv_if_eq (tgt := 82) X.hx X.hb dX8_heaviestNow_27 (by decide) (fun c27 => ?_) (fun c27 => ?_)
    · replace hf := ite_t c27 hf
      refine lv_iload_n X.hx X.hb dX8_heaviestNow_82 rfl (lv_at hl 2 rfl) ?_
      exact rt_i X hr hlk (by rw [← Option.some.inj hf]; exact hW) hS (by rw [← Option.some.inj hf]) (Nat.le_refl _) (Nat.le_refl _) dX8_heaviestNow_83
    · replace hf := ite_f c27 hf
      refine lv_aload_n X.hx X.hb dX8_heaviestNow_30 rfl (lv_at hl 0 rfl) ?_
      refine lv_iload_n X.hx X.hb dX8_heaviestNow_31 rfl (lv_at hl 1 rfl) ?_
      obtain ⟨b32, h32, hf⟩ := bnd hf
      refine cl_i (run_V (As := [.int x1]) (rest := []) X (w_X8_isOf l V A ad h32) mw_X8_isOf ln_X8_174 (rcX8 X hW) hW hS rfl hl.1 rfl (Nat.le_of_ble_eq_true rfl) ⟨Nat.le_of_ble_eq_true rfl, Nat.le_of_ble_eq_true rfl⟩ ⟨Nat.le_refl _, Nat.le_refl _⟩ dX8_heaviestNow_32) hS (fun H locs hW hS => ?_)
      refine lv_if_eq (tgt := 73) X.hx X.hb dX8_heaviestNow_35 (by decide) (fun c35 => ?_) (fun c35 => ?_)
      · replace hf := ite_t c35 hf
        exact f_X8_heaviestNow_J73_w X hr hlk hr25 _ _ _ _ _ _ _ _  hf hW hS (lv_sub hl [0, 1, 2, 3, 4] rfl)
      · replace hf := ite_f c35 hf
        refine lv_aload_n X.hx X.hb dX8_heaviestNow_38 rfl (lv_at hl 0 rfl) ?_
        obtain ⟨b39, h39, hf⟩ := bnd hf
        refine cl_i (run_V (As := []) (rest := []) X (w_X8_heavyNow l V A ad h39) mw_X8_heavyNow ln_X8_189 (rcX8 X hW) hW hS rfl hl.1 rfl (Nat.le_of_ble_eq_true rfl) ⟨Nat.le_of_ble_eq_true rfl, Nat.le_of_ble_eq_true rfl⟩ ⟨Nat.le_refl _, Nat.le_refl _⟩ dX8_heaviestNow_39) hS (fun H locs hW hS => ?_)
        refine lv_istore (lv' := [(6, .int b39), (0, .ref (ad 0)), (1, .int x1), (2, .int x2), (3, .int x3), (4, .int x4), (5, .int x5)]) X.hx X.hb dX8_heaviestNow_42 hl (by decide) rfl (fun ls hl => ?_)
        refine lv_iload X.hx X.hb dX8_heaviestNow_44 (lv_at hl 0 rfl) ?_
        refine lv_iload_n X.hx X.hb dX8_heaviestNow_46 rfl (lv_at hl 4 rfl) ?_
        refine lv_icmp_le (tgt := 55) X.hx X.hb dX8_heaviestNow_47 (by decide) (fun c47 => ?_) (fun c47 => ?_)
        · replace hf := ite_t c47 hf
          refine lv_iload_n X.hx X.hb dX8_heaviestNow_55 rfl (lv_at hl 3 rfl) ?_
          exact f_X8_heaviestNow_J56_w X hr hlk hr25 _ _ _ _ _ _ _ _ _  hf hW hS (lv_sub hl [1, 2, 4, 5, 0] rfl)
        · replace hf := ite_f c47 hf
          refine lv_iload X.hx X.hb dX8_heaviestNow_50 (lv_at hl 5 rfl) ?_
          refine lv_goto (tgt := 56) X.hx X.hb dX8_heaviestNow_52 (by decide) ?_
          exact f_X8_heaviestNow_J56_w X hr hlk hr25 _ _ _ _ _ _ _ _ _  hf hW hS (lv_sub hl [1, 2, 4, 5, 0] rfl)
noncomputable def f_X8_heaviestNow_J23 (st : St) (x1 : Int32) (x2 : Int32) (x3 : Int32) (x4 : Int32) (t0 : Int32) : Option (Int32 × St) := f_X8_heaviestNow_L25 FU st x1 x2 x3 x4 t0
set_option maxRecDepth 100000 in
theorem f_X8_heaviestNow_J23_w {res : (Int32 × St)} (X : Cx V A cX8_heaviestNow 7 RX8 p m c s args) (hr : meth.sig.returnType = (some .int)) (hlk : meth.locks = false)  (st : St) (x1 : Int32) (x2 : Int32) (x3 : Int32) (x4 : Int32) (t0 : Int32) (H : Heap) (locs : List Loc) (ls : Array Slot)  (hf : f_X8_heaviestNow_J23 st x1 x2 x3 x4 t0 = some res) (hW : (WdM V ad A) st H) (hS : va_S A s.heap H locs) (hl : lv_has ls 7 [(0, .ref (ad 0)), (1, .int x1), (2, .int x2), (3, .int x3), (4, .int x4)]) : W p l e (rmF 4 88 0 0) s m args below meth c H locs 0 0 (MQ below (Qwi A (WdM V ad A) res.1 res.2) args s 0 0 A) (F0 m 23 ls [.int t0]) := by
  
  unfold f_X8_heaviestNow_J23 at hf
  refine lv_istore (lv' := [(5, .int t0), (0, .ref (ad 0)), (1, .int x1), (2, .int x2), (3, .int x3), (4, .int x4)]) X.hx X.hb dX8_heaviestNow_23 hl (by decide) rfl (fun ls hl => ?_)
  exact f_X8_heaviestNow_L25_w X hr hlk FU _ _ _ _ _ _ _ _ _  hf hW hS (lv_sub hl [1, 2, 3, 4, 5, 0] rfl)
noncomputable def f_X8_heaviestNow (st : St) (a1 : Int32) : Option (Int32 × St) := (f_X8_begin st).bind fun b8 => if (b8.1 1) ≤ 0 then f_X8_heaviestNow_J23 b8 a1 (-1) 0 0 0 else f_X8_heaviestNow_J23 b8 a1 (-1) 0 0 1
set_option maxRecDepth 100000 in
theorem w_X8_heaviestNow (l : Launch) (V : Ev) (A : Nat → Prop) (ad : Nat → Nat) {st : St} {a1 : Int32} {res : (Int32 × St)} (hf : f_X8_heaviestNow st a1 = some res) : Cn l yX8_heaviestNow cX8_heaviestNow 7 (some .int) 4 88 0 0 V A (WdM V ad A) st [.ref (ad 0), .int a1] (Qwi A (WdM V ad A) res.1 res.2) := by
  refine cn_of RX8 (by decide) rfl (fun p e s m below meth c ls X hr hlk hW hS hl => ?_) (Nat.le_of_ble_eq_true rfl)
  have hl : lv_has ls 7 [(0, .ref (ad 0)), (1, .int a1)] := hl
  unfold f_X8_heaviestNow at hf
  refine lv_iconst (v := (-1)) X.hx X.hb dX8_heaviestNow_0 (by decide) ?_
  refine lv_istore_n (lv' := [(2, .int (-1)), (0, .ref (ad 0)), (1, .int a1)]) X.hx X.hb dX8_heaviestNow_1 rfl hl (by decide) rfl (fun ls hl => ?_)
  refine lv_iconst (v := 0) X.hx X.hb dX8_heaviestNow_2 (by decide) ?_
  refine lv_istore_n (lv' := [(3, .int 0), (2, .int (-1)), (0, .ref (ad 0)), (1, .int a1)]) X.hx X.hb dX8_heaviestNow_3 rfl hl (by decide) rfl (fun ls hl => ?_)
  refine lv_iconst (v := 0) X.hx X.hb dX8_heaviestNow_4 (by decide) ?_
  refine lv_istore (lv' := [(4, .int 0), (3, .int 0), (2, .int (-1)), (0, .ref (ad 0)), (1, .int a1)]) X.hx X.hb dX8_heaviestNow_5 hl (by decide) rfl (fun ls hl => ?_)
  refine lv_aload_n X.hx X.hb dX8_heaviestNow_7 rfl (lv_at hl 3 rfl) ?_
  obtain ⟨b8, h8, hf⟩ := bnd hf
  refine cl_v (run_V (As := []) (rest := []) X (w_X8_begin l V A ad h8) mw_X8_begin ln_X8_171 (rcX8 X hW) hW hS rfl hl.1 rfl (Nat.le_of_ble_eq_true rfl) ⟨Nat.le_of_ble_eq_true rfl, Nat.le_of_ble_eq_true rfl⟩ ⟨Nat.le_refl _, Nat.le_refl _⟩ dX8_heaviestNow_8) hS (fun H locs hW hS => ?_)
  refine lv_aload_n X.hx X.hb dX8_heaviestNow_11 rfl (lv_at hl 3 rfl) ?_
  refine gX8_words X hW dX8_heaviestNow_12 ?_
  refine lv_if_le (tgt := 22) X.hx X.hb dX8_heaviestNow_15 (by decide) (fun c15 => ?_) (fun c15 => ?_)
  · replace hf := ite_t c15 hf
    refine lv_iconst (v := 0) X.hx X.hb dX8_heaviestNow_22 (by decide) ?_
    exact f_X8_heaviestNow_J23_w X hr hlk _ _ _ _ _ _ _ _ _  hf hW hS (lv_sub hl [3, 4, 2, 1, 0] rfl)
  · replace hf := ite_f c15 hf
    refine lv_iconst (v := 1) X.hx X.hb dX8_heaviestNow_18 (by decide) ?_
    refine lv_goto (tgt := 23) X.hx X.hb dX8_heaviestNow_19 (by decide) ?_
    exact f_X8_heaviestNow_J23_w X hr hlk _ _ _ _ _ _ _ _ _  hf hW hS (lv_sub hl [3, 4, 2, 1, 0] rfl)
-- WordSquaresModel.heaviest
noncomputable def f_X8_heaviest (st : St) (a1 : Int32) : Option (Int32 × St) := (f_X8_within a1 0 2).bind fun b3 => if b3 = 0 then some ((-102), st) else (f_X8_heaviestNow st a1).bind fun b11 => some (b11.1, b11.2)
set_option maxRecDepth 100000 in
theorem w_X8_heaviest (l : Launch) (V : Ev) (A : Nat → Prop) (ad : Nat → Nat) {st : St} {a1 : Int32} {res : (Int32 × St)} (hf : f_X8_heaviest st a1 = some res) : Cn l yX8_heaviest cX8_heaviest 2 (some .int) 5 114 0 0 V A (WdM V ad A) st [.ref (ad 0), .int a1] (Qwi A (WdM V ad A) res.1 res.2) := by
  refine cn_of RX8 (by decide) rfl (fun p e s m below meth c ls X hr hlk hW hS hl => ?_) (Nat.le_of_ble_eq_true rfl)
  have hl : lv_has ls 2 [(0, .ref (ad 0)), (1, .int a1)] := hl
  unfold f_X8_heaviest at hf
  refine lv_iload_n X.hx X.hb dX8_heaviest_0 rfl (lv_at hl 1 rfl) ?_
  refine lv_iconst (v := 0) X.hx X.hb dX8_heaviest_1 (by decide) ?_
  refine lv_iconst (v := 2) X.hx X.hb dX8_heaviest_2 (by decide) ?_
  obtain ⟨b3, h3, hf⟩ := bnd hf
  refine cl_i (run_S (As := [.int a1, .int 0, .int 2]) (rest := []) X (w_X8_within l V A (WdM V ad A) st h3) mw_X8_within ln_X8_65 hW hS rfl hl.1 rfl (Nat.le_of_ble_eq_true rfl) ⟨Nat.le_of_ble_eq_true rfl, Nat.le_of_ble_eq_true rfl⟩ ⟨Nat.le_refl _, Nat.le_refl _⟩ dX8_heaviest_3) hS (fun H locs hW hS => ?_)
  refine lv_if_eq (tgt := 17) X.hx X.hb dX8_heaviest_6 (by decide) (fun c6 => ?_) (fun c6 => ?_)
  · replace hf := ite_t c6 hf
    refine lv_bipush (v := (-102)) X.hx X.hb dX8_heaviest_17 (by decide) ?_
    exact rt_i X hr hlk (by rw [← Option.some.inj hf]; exact hW) hS (by rw [← Option.some.inj hf]) (Nat.le_refl _) (Nat.le_refl _) dX8_heaviest_19
  · replace hf := ite_f c6 hf
    refine lv_aload_n X.hx X.hb dX8_heaviest_9 rfl (lv_at hl 0 rfl) ?_
    refine lv_iload_n X.hx X.hb dX8_heaviest_10 rfl (lv_at hl 1 rfl) ?_
    obtain ⟨b11, h11, hf⟩ := bnd hf
    refine cl_i (run_V (As := [.int a1]) (rest := []) X (w_X8_heaviestNow l V A ad h11) mw_X8_heaviestNow ln_X8_192 (rcX8 X hW) hW hS rfl hl.1 rfl (Nat.le_of_ble_eq_true rfl) ⟨Nat.le_of_ble_eq_true rfl, Nat.le_of_ble_eq_true rfl⟩ ⟨Nat.le_refl _, Nat.le_refl _⟩ dX8_heaviest_11) hS (fun H locs hW hS => ?_)
    refine lv_goto (tgt := 19) X.hx X.hb dX8_heaviest_14 (by decide) ?_
    exact rt_i X hr hlk (by rw [← Option.some.inj hf]; exact hW) hS (by rw [← Option.some.inj hf]) (Nat.le_refl _) (Nat.le_refl _) dX8_heaviest_19
-- WordSquaresModel.countSquare
noncomputable def f_X8_countSquare_J99 (r66 : St → Int32 → Int32 → Int32 → Option St) (st : St) (x1 : Int32) (x2 : Int32) (x3 : Int32) (t0 : Int32) (t1 : Int32) (t2 : Int32) : Option St := if inb t2 12 = true then lt (sA st 11 t2.toNatClampNeg (t1 + t0)) fun s100 => lt (x3 + 1) fun w101 => r66 s100 x1 x2 w101 else none
set_option maxRecDepth 100000 in
theorem f_X8_countSquare_J99_w {r66 : St → Int32 → Int32 → Int32 → Option St} {res : St} (X : Cx V A cX8_countSquare 4 RX8 p m c s args) (hr : meth.sig.returnType = none) (hlk : meth.locks = false) (hr66 : ∀ (st : St) (x1 : Int32) (x2 : Int32) (x3 : Int32) (H : Heap) (locs : List Loc) (ls : Array Slot), r66 st x1 x2 x3 = some res → (WdM V ad A) st H → va_S A s.heap H locs → lv_has ls 4 [(0, .ref (ad 0)), (1, .int x1), (2, .int x2), (3, .int x3)] → W p l e (rmF 1 22 0 0) s m args below meth c H locs 0 0 (MQ below (Qwv A (WdM V ad A) res) args s 0 0 A) (F0 m 66 ls [])) (st : St) (x1 : Int32) (x2 : Int32) (x3 : Int32) (t0 : Int32) (t1 : Int32) (t2 : Int32) (H : Heap) (locs : List Loc) (ls : Array Slot)  (hf : f_X8_countSquare_J99 r66 st x1 x2 x3 t0 t1 t2 = some res) (hW : (WdM V ad A) st H) (hS : va_S A s.heap H locs) (hl : lv_has ls 4 [(0, .ref (ad 0)), (1, .int x1), (2, .int x2), (3, .int x3)]) : W p l e (rmF 1 22 0 0) s m args below meth c H locs 0 0 (MQ below (Qwv A (WdM V ad A) res) args s 0 0 A) (F0 m 99 ls [.int t0, .int t1, .int t2, .ref (ad 11)]) := by
  
  unfold f_X8_countSquare_J99 at hf
  refine lv_iadd X.hx X.hb dX8_countSquare_99 ?_
  obtain ⟨h100, hf⟩ := ite_n hf
  obtain ⟨s100, e100, hf⟩ := lt_e hf
  refine aM_st X hW hS isM_11 rfl h100 dX8_countSquare_100 (fun H locs hW hS => ?_)
  rw [← e100] at hW
  obtain ⟨w101, e101, hf⟩ := lt_e hf
  refine lv_iinc (v := w101) (lv' := [(3, .int w101), (0, .ref (ad 0)), (1, .int x1), (2, .int x2)]) X.hx X.hb dX8_countSquare_101 hl (k := 3) rfl (by rw [e101]; rfl) (by decide) rfl (fun ls hl => ?_)
  refine lv_goto (tgt := 66) X.hx X.hb dX8_countSquare_104 (by decide) ?_
  exact hr66 _ _ _ _ _ _ _  hf hW hS (lv_sub hl [1, 2, 3, 0] rfl)
noncomputable def f_X8_countSquare_J98 (r66 : St → Int32 → Int32 → Int32 → Option St) (st : St) (x1 : Int32) (x2 : Int32) (x3 : Int32) (t0 : Int32) (t1 : Int32) : Option St := f_X8_countSquare_J99 r66 st x1 x2 x3 0 t0 t1
set_option maxRecDepth 100000 in
theorem f_X8_countSquare_J98_w {r66 : St → Int32 → Int32 → Int32 → Option St} {res : St} (X : Cx V A cX8_countSquare 4 RX8 p m c s args) (hr : meth.sig.returnType = none) (hlk : meth.locks = false) (hr66 : ∀ (st : St) (x1 : Int32) (x2 : Int32) (x3 : Int32) (H : Heap) (locs : List Loc) (ls : Array Slot), r66 st x1 x2 x3 = some res → (WdM V ad A) st H → va_S A s.heap H locs → lv_has ls 4 [(0, .ref (ad 0)), (1, .int x1), (2, .int x2), (3, .int x3)] → W p l e (rmF 1 22 0 0) s m args below meth c H locs 0 0 (MQ below (Qwv A (WdM V ad A) res) args s 0 0 A) (F0 m 66 ls [])) (st : St) (x1 : Int32) (x2 : Int32) (x3 : Int32) (t0 : Int32) (t1 : Int32) (H : Heap) (locs : List Loc) (ls : Array Slot)  (hf : f_X8_countSquare_J98 r66 st x1 x2 x3 t0 t1 = some res) (hW : (WdM V ad A) st H) (hS : va_S A s.heap H locs) (hl : lv_has ls 4 [(0, .ref (ad 0)), (1, .int x1), (2, .int x2), (3, .int x3)]) : W p l e (rmF 1 22 0 0) s m args below meth c H locs 0 0 (MQ below (Qwv A (WdM V ad A) res) args s 0 0 A) (F0 m 98 ls [.int t0, .int t1, .ref (ad 11)]) := by
  
  unfold f_X8_countSquare_J98 at hf
  refine lv_iconst (v := 0) X.hx X.hb dX8_countSquare_98 (by decide) ?_
  exact f_X8_countSquare_J99_w X hr hlk hr66 _ _ _ _ _ _ _ _ _ _  hf hW hS (lv_sub hl [0, 1, 2, 3] rfl)
noncomputable def f_X8_countSquare_L66 : Nat → St → Int32 → Int32 → Int32 → Option St
  | 0, _, _, _, _ => none
  | fu + 1, st, x1, x2, x3 => if (st.1 1) ≤ x3 then some st else if inb x3 12 = true then if x2 = 0 then f_X8_countSquare_J98 ((f_X8_countSquare_L66 fu)) st x1 x2 x3 (st.2.1 11 x3.toNatClampNeg) x3 else if ((x1 >>> (x3 &&& 31)) &&& 1) = 1 then f_X8_countSquare_J99 ((f_X8_countSquare_L66 fu)) st x1 x2 x3 1 (st.2.1 11 x3.toNatClampNeg) x3 else f_X8_countSquare_J98 ((f_X8_countSquare_L66 fu)) st x1 x2 x3 (st.2.1 11 x3.toNatClampNeg) x3 else none
set_option maxRecDepth 100000 in
theorem f_X8_countSquare_L66_w {res : St} (X : Cx V A cX8_countSquare 4 RX8 p m c s args) (hr : meth.sig.returnType = none) (hlk : meth.locks = false)  : ∀ (n9 : Nat) (st : St) (x1 : Int32) (x2 : Int32) (x3 : Int32) (H : Heap) (locs : List Loc) (ls : Array Slot), f_X8_countSquare_L66 n9 st x1 x2 x3 = some res → (WdM V ad A) st H → va_S A s.heap H locs → lv_has ls 4 [(0, .ref (ad 0)), (1, .int x1), (2, .int x2), (3, .int x3)] → W p l e (rmF 1 22 0 0) s m args below meth c H locs 0 0 (MQ below (Qwv A (WdM V ad A) res) args s 0 0 A) (F0 m 66 ls []) := by
  intro n9
  induction n9 with
  | zero =>
    intro st x1 x2 x3 H locs ls hf
    exact absurd hf (by unfold f_X8_countSquare_L66; exact fun h => by cases h)
  | succ n9 hr66 =>
    intro st x1 x2 x3 H locs ls hf hW hS hl
    
    unfold f_X8_countSquare_L66 at hf
    refine lv_iload_n X.hx X.hb dX8_countSquare_66 rfl (lv_at hl 3 rfl) ?_
    refine lv_aload_n X.hx X.hb dX8_countSquare_67 rfl (lv_at hl 0 rfl) ?_
    refine gX8_words X hW dX8_countSquare_68 ?_
    refine lv_icmp_ge (tgt := 107) X.hx X.hb dX8_countSquare_71 (by decide) (fun c71 => ?_) (fun c71 => ?_)
    · replace hf := ite_t c71 hf
      exact rt_v X hr hlk (by rw [← Option.some.inj hf]; exact hW) hS (Nat.le_refl _) (Nat.le_refl _) dX8_countSquare_107
    · replace hf := ite_f c71 hf
      refine lv_aload_n X.hx X.hb dX8_countSquare_74 rfl (lv_at hl 0 rfl) ?_
      refine gX8_inSame X hW dX8_countSquare_75 ?_
      refine lv_iload_n X.hx X.hb dX8_countSquare_78 rfl (lv_at hl 3 rfl) ?_
      refine lv_dup2_11 X.hx X.hb dX8_countSquare_79 rfl rfl ?_
      obtain ⟨h80, hf⟩ := ite_n hf
      refine aM_ld X hW isM_11 rfl h80 dX8_countSquare_80 ?_
      refine lv_iload_n X.hx X.hb dX8_countSquare_81 rfl (lv_at hl 2 rfl) ?_
      refine lv_if_eq (tgt := 98) X.hx X.hb dX8_countSquare_82 (by decide) (fun c82 => ?_) (fun c82 => ?_)
      · replace hf := ite_t c82 hf
        exact f_X8_countSquare_J98_w X hr hlk hr66 _ _ _ _ _ _ _ _ _  hf hW hS (lv_sub hl [0, 1, 2, 3] rfl)
      · replace hf := ite_f c82 hf
        refine lv_iload_n X.hx X.hb dX8_countSquare_85 rfl (lv_at hl 1 rfl) ?_
        refine lv_iload_n X.hx X.hb dX8_countSquare_86 rfl (lv_at hl 3 rfl) ?_
        refine lv_ishr X.hx X.hb dX8_countSquare_87 ?_
        refine lv_iconst (v := 1) X.hx X.hb dX8_countSquare_88 (by decide) ?_
        refine lv_iand X.hx X.hb dX8_countSquare_89 ?_
        refine lv_iconst (v := 1) X.hx X.hb dX8_countSquare_90 (by decide) ?_
        refine lv_icmp_ne (tgt := 98) X.hx X.hb dX8_countSquare_91 (by decide) (fun c91 => ?_) (fun c91 => ?_)
        · replace hf := ite_f c91 hf
          exact f_X8_countSquare_J98_w X hr hlk hr66 _ _ _ _ _ _ _ _ _  hf hW hS (lv_sub hl [0, 1, 2, 3] rfl)
        · replace hf := ite_t c91 hf
          refine lv_iconst (v := 1) X.hx X.hb dX8_countSquare_94 (by decide) ?_
          refine lv_goto (tgt := 99) X.hx X.hb dX8_countSquare_95 (by decide) ?_
          exact f_X8_countSquare_J99_w X hr hlk hr66 _ _ _ _ _ _ _ _ _ _  hf hW hS (lv_sub hl [0, 1, 2, 3] rfl)
noncomputable def f_X8_countSquare_L4 : Nat → St → Int32 → Int32 → Option St
  | 0, _, _, _ => none
  | fu + 1, st, x1, x2 => if (st.1 0) ≤ x2 then (f_X8_isSame st).bind fun b60 => f_X8_countSquare_L66 FU st x1 b60 0 else if inb x2 4 = true then if inb (st.2.1 6 x2.toNatClampNeg) 12 = true then if inb (st.2.1 6 x2.toNatClampNeg) 12 = true then lt (sA st 9 (st.2.1 6 x2.toNatClampNeg).toNatClampNeg ((st.2.1 9 (st.2.1 6 x2.toNatClampNeg).toNatClampNeg) + 1)) fun s26 => if inb x2 4 = true then if inb (s26.2.1 7 x2.toNatClampNeg) 12 = true then if inb (s26.2.1 7 x2.toNatClampNeg) 12 = true then lt (sA s26 10 (s26.2.1 7 x2.toNatClampNeg).toNatClampNeg ((s26.2.1 10 (s26.2.1 7 x2.toNatClampNeg).toNatClampNeg) + 1)) fun s41 => if inb x2 4 = true then lt (x1 ||| (1 <<< ((s41.2.1 6 x2.toNatClampNeg) &&& 31))) fun w52 => lt (x2 + 1) fun w53 => (f_X8_countSquare_L4 fu) s41 w52 w53 else none else none else none else none else none else none else none
set_option maxRecDepth 100000 in
theorem f_X8_countSquare_L4_w {res : St} (X : Cx V A cX8_countSquare 4 RX8 p m c s args) (hr : meth.sig.returnType = none) (hlk : meth.locks = false)  : ∀ (n9 : Nat) (st : St) (x1 : Int32) (x2 : Int32) (H : Heap) (locs : List Loc) (ls : Array Slot), f_X8_countSquare_L4 n9 st x1 x2 = some res → (WdM V ad A) st H → va_S A s.heap H locs → lv_has ls 4 [(0, .ref (ad 0)), (1, .int x1), (2, .int x2)] → W p l e (rmF 1 22 0 0) s m args below meth c H locs 0 0 (MQ below (Qwv A (WdM V ad A) res) args s 0 0 A) (F0 m 4 ls []) := by
  intro n9
  induction n9 with
  | zero =>
    intro st x1 x2 H locs ls hf
    exact absurd hf (by unfold f_X8_countSquare_L4; exact fun h => by cases h)
  | succ n9 hr4 =>
    intro st x1 x2 H locs ls hf hW hS hl
    
    unfold f_X8_countSquare_L4 at hf
    refine lv_iload_n X.hx X.hb dX8_countSquare_4 rfl (lv_at hl 2 rfl) ?_
    refine lv_aload_n X.hx X.hb dX8_countSquare_5 rfl (lv_at hl 0 rfl) ?_
    refine gX8_length X hW dX8_countSquare_6 ?_
    refine lv_icmp_ge (tgt := 59) X.hx X.hb dX8_countSquare_9 (by decide) (fun c9 => ?_) (fun c9 => ?_)
    · replace hf := ite_t c9 hf
      refine lv_aload_n X.hx X.hb dX8_countSquare_59 rfl (lv_at hl 0 rfl) ?_
      obtain ⟨b60, h60, hf⟩ := bnd hf
      refine cl_i (run_V (As := []) (rest := []) X (w_X8_isSame l V A ad h60) mw_X8_isSame ln_X8_165 (rcX8 X hW) hW hS rfl hl.1 rfl (Nat.le_of_ble_eq_true rfl) ⟨Nat.le_of_ble_eq_true rfl, Nat.le_of_ble_eq_true rfl⟩ ⟨Nat.le_refl _, Nat.le_refl _⟩ dX8_countSquare_60) hS (fun H locs hW hS => ?_)
      refine lv_istore_n (lv' := [(2, .int b60), (0, .ref (ad 0)), (1, .int x1)]) X.hx X.hb dX8_countSquare_63 rfl hl (by decide) rfl (fun ls hl => ?_)
      refine lv_iconst (v := 0) X.hx X.hb dX8_countSquare_64 (by decide) ?_
      refine lv_istore_n (lv' := [(3, .int 0), (2, .int b60), (0, .ref (ad 0)), (1, .int x1)]) X.hx X.hb dX8_countSquare_65 rfl hl (by decide) rfl (fun ls hl => ?_)
      exact f_X8_countSquare_L66_w X hr hlk FU _ _ _ _ _ _ _  hf hW hS (lv_sub hl [2, 3, 1, 0] rfl)
    · replace hf := ite_f c9 hf
      refine lv_aload_n X.hx X.hb dX8_countSquare_12 rfl (lv_at hl 0 rfl) ?_
      refine gX8_inRows X hW dX8_countSquare_13 ?_
      refine lv_aload_n X.hx X.hb dX8_countSquare_16 rfl (lv_at hl 0 rfl) ?_
      refine gX8_rowWord X hW dX8_countSquare_17 ?_
      refine lv_iload_n X.hx X.hb dX8_countSquare_20 rfl (lv_at hl 2 rfl) ?_
      obtain ⟨h21, hf⟩ := ite_n hf
      refine aM_ld X hW isM_6 rfl h21 dX8_countSquare_21 ?_
      refine lv_dup2_11 X.hx X.hb dX8_countSquare_22 rfl rfl ?_
      obtain ⟨h23, hf⟩ := ite_n hf
      refine aM_ld X hW isM_9 rfl h23 dX8_countSquare_23 ?_
      refine lv_iconst (v := 1) X.hx X.hb dX8_countSquare_24 (by decide) ?_
      refine lv_iadd X.hx X.hb dX8_countSquare_25 ?_
      obtain ⟨h26, hf⟩ := ite_n hf
      obtain ⟨s26, e26, hf⟩ := lt_e hf
      refine aM_st X hW hS isM_9 rfl h26 dX8_countSquare_26 (fun H locs hW hS => ?_)
      rw [← e26] at hW
      refine lv_aload_n X.hx X.hb dX8_countSquare_27 rfl (lv_at hl 0 rfl) ?_
      refine gX8_inColumns X hW dX8_countSquare_28 ?_
      refine lv_aload_n X.hx X.hb dX8_countSquare_31 rfl (lv_at hl 0 rfl) ?_
      refine gX8_columnWord X hW dX8_countSquare_32 ?_
      refine lv_iload_n X.hx X.hb dX8_countSquare_35 rfl (lv_at hl 2 rfl) ?_
      obtain ⟨h36, hf⟩ := ite_n hf
      refine aM_ld X hW isM_7 rfl h36 dX8_countSquare_36 ?_
      refine lv_dup2_11 X.hx X.hb dX8_countSquare_37 rfl rfl ?_
      obtain ⟨h38, hf⟩ := ite_n hf
      refine aM_ld X hW isM_10 rfl h38 dX8_countSquare_38 ?_
      refine lv_iconst (v := 1) X.hx X.hb dX8_countSquare_39 (by decide) ?_
      refine lv_iadd X.hx X.hb dX8_countSquare_40 ?_
      obtain ⟨h41, hf⟩ := ite_n hf
      obtain ⟨s41, e41, hf⟩ := lt_e hf
      refine aM_st X hW hS isM_10 rfl h41 dX8_countSquare_41 (fun H locs hW hS => ?_)
      rw [← e41] at hW
      refine lv_iload_n X.hx X.hb dX8_countSquare_42 rfl (lv_at hl 1 rfl) ?_
      refine lv_iconst (v := 1) X.hx X.hb dX8_countSquare_43 (by decide) ?_
      refine lv_aload_n X.hx X.hb dX8_countSquare_44 rfl (lv_at hl 0 rfl) ?_
      refine gX8_rowWord X hW dX8_countSquare_45 ?_
      refine lv_iload_n X.hx X.hb dX8_countSquare_48 rfl (lv_at hl 2 rfl) ?_
      obtain ⟨h49, hf⟩ := ite_n hf
      refine aM_ld X hW isM_6 rfl h49 dX8_countSquare_49 ?_
      refine lv_ishl X.hx X.hb dX8_countSquare_50 ?_
      refine lv_ior X.hx X.hb dX8_countSquare_51 ?_
      obtain ⟨w52, e52, hf⟩ := lt_e hf
      refine lv_nm e52 ?_
      refine lv_istore_n (lv' := [(1, .int w52), (0, .ref (ad 0)), (2, .int x2)]) X.hx X.hb dX8_countSquare_52 rfl hl (by decide) rfl (fun ls hl => ?_)
      obtain ⟨w53, e53, hf⟩ := lt_e hf
      refine lv_iinc (v := w53) (lv' := [(2, .int w53), (1, .int w52), (0, .ref (ad 0))]) X.hx X.hb dX8_countSquare_53 hl (k := 2) rfl (by rw [e53]; rfl) (by decide) rfl (fun ls hl => ?_)
      refine lv_goto (tgt := 4) X.hx X.hb dX8_countSquare_56 (by decide) ?_
      exact hr4 _ _ _ _ _ _  hf hW hS (lv_sub hl [2, 1, 0] rfl)
noncomputable def f_X8_countSquare (st : St) : Option St := f_X8_countSquare_L4 FU st 0 0
set_option maxRecDepth 100000 in
theorem w_X8_countSquare (l : Launch) (V : Ev) (A : Nat → Prop) (ad : Nat → Nat) {st : St} {res : St} (hf : f_X8_countSquare st = some res) : Cn l yX8_countSquare cX8_countSquare 4 none 1 22 0 0 V A (WdM V ad A) st [.ref (ad 0)] (Qwv A (WdM V ad A) res) := by
  refine cn_of RX8 (by decide) rfl (fun p e s m below meth c ls X hr hlk hW hS hl => ?_) (Nat.le_of_ble_eq_true rfl)
  have hl : lv_has ls 4 [(0, .ref (ad 0))] := hl
  unfold f_X8_countSquare at hf
  refine lv_iconst (v := 0) X.hx X.hb dX8_countSquare_0 (by decide) ?_
  refine lv_istore_n (lv' := [(1, .int 0), (0, .ref (ad 0))]) X.hx X.hb dX8_countSquare_1 rfl hl (by decide) rfl (fun ls hl => ?_)
  refine lv_iconst (v := 0) X.hx X.hb dX8_countSquare_2 (by decide) ?_
  refine lv_istore_n (lv' := [(2, .int 0), (1, .int 0), (0, .ref (ad 0))]) X.hx X.hb dX8_countSquare_3 rfl hl (by decide) rfl (fun ls hl => ?_)
  exact f_X8_countSquare_L4_w X hr hlk FU _ _ _ _ _ _  hf hW hS (lv_sub hl [2, 1, 0] rfl)
-- WordSquaresModel.layCounts
noncomputable def f_X8_layCounts_J67 (r52 : St → Int32 → Option St) (st : St) : Option St := (f_X8_next st).bind fun b68 => r52 b68.2 b68.1
set_option maxRecDepth 100000 in
theorem f_X8_layCounts_J67_w {r52 : St → Int32 → Option St} {res : St} (X : Cx V A cX8_layCounts 2 RX8 p m c s args) (hr : meth.sig.returnType = none) (hlk : meth.locks = false) (hr52 : ∀ (st : St) (x1 : Int32) (H : Heap) (locs : List Loc) (ls : Array Slot), r52 st x1 = some res → (WdM V ad A) st H → va_S A s.heap H locs → lv_has ls 2 [(0, .ref (ad 0)), (1, .int x1)] → W p l e (rmF 3 67 0 0) s m args below meth c H locs 0 0 (MQ below (Qwv A (WdM V ad A) res) args s 0 0 A) (F0 m 52 ls [])) (st : St) (H : Heap) (locs : List Loc) (ls : Array Slot)  (hf : f_X8_layCounts_J67 r52 st = some res) (hW : (WdM V ad A) st H) (hS : va_S A s.heap H locs) (hl : lv_has ls 2 [(0, .ref (ad 0))]) : W p l e (rmF 3 67 0 0) s m args below meth c H locs 0 0 (MQ below (Qwv A (WdM V ad A) res) args s 0 0 A) (F0 m 67 ls []) := by
  
  unfold f_X8_layCounts_J67 at hf
  refine lv_aload_n X.hx X.hb dX8_layCounts_67 rfl (lv_at hl 0 rfl) ?_
  obtain ⟨b68, h68, hf⟩ := bnd hf
  refine cl_i (run_V (As := []) (rest := []) X (w_X8_next l V A ad h68) mw_X8_next ln_X8_177 (rcX8 X hW) hW hS rfl hl.1 rfl (Nat.le_of_ble_eq_true rfl) ⟨Nat.le_of_ble_eq_true rfl, Nat.le_of_ble_eq_true rfl⟩ ⟨Nat.le_refl _, Nat.le_refl _⟩ dX8_layCounts_68) hS (fun H locs hW hS => ?_)
  refine lv_istore_n (lv' := [(1, .int b68.1), (0, .ref (ad 0))]) X.hx X.hb dX8_layCounts_71 rfl hl (by decide) rfl (fun ls hl => ?_)
  refine lv_goto (tgt := 52) X.hx X.hb dX8_layCounts_72 (by decide) ?_
  exact hr52 _ _ _ _ _  hf hW hS (lv_sub hl [1, 0] rfl)
noncomputable def f_X8_layCounts_L52 : Nat → St → Int32 → Option St
  | 0, _, _ => none
  | fu + 1, st, x1 => if x1 = 0 then some st else (f_X8_isSquare st).bind fun b57 => if b57.1 = 0 then f_X8_layCounts_J67 ((f_X8_layCounts_L52 fu)) b57.2 else (f_X8_countSquare b57.2).bind fun b64 => f_X8_layCounts_J67 ((f_X8_layCounts_L52 fu)) b64
set_option maxRecDepth 100000 in
theorem f_X8_layCounts_L52_w {res : St} (X : Cx V A cX8_layCounts 2 RX8 p m c s args) (hr : meth.sig.returnType = none) (hlk : meth.locks = false)  : ∀ (n9 : Nat) (st : St) (x1 : Int32) (H : Heap) (locs : List Loc) (ls : Array Slot), f_X8_layCounts_L52 n9 st x1 = some res → (WdM V ad A) st H → va_S A s.heap H locs → lv_has ls 2 [(0, .ref (ad 0)), (1, .int x1)] → W p l e (rmF 3 67 0 0) s m args below meth c H locs 0 0 (MQ below (Qwv A (WdM V ad A) res) args s 0 0 A) (F0 m 52 ls []) := by
  intro n9
  induction n9 with
  | zero =>
    intro st x1 H locs ls hf
    exact absurd hf (by unfold f_X8_layCounts_L52; exact fun h => by cases h)
  | succ n9 hr52 =>
    intro st x1 H locs ls hf hW hS hl
    
    unfold f_X8_layCounts_L52 at hf
    refine lv_iload_n X.hx X.hb dX8_layCounts_52 rfl (lv_at hl 1 rfl) ?_
    refine lv_if_eq (tgt := 75) X.hx X.hb dX8_layCounts_53 (by decide) (fun c53 => ?_) (fun c53 => ?_)
    · replace hf := ite_t c53 hf
      exact rt_v X hr hlk (by rw [← Option.some.inj hf]; exact hW) hS (Nat.le_refl _) (Nat.le_refl _) dX8_layCounts_75
    · replace hf := ite_f c53 hf
      refine lv_aload_n X.hx X.hb dX8_layCounts_56 rfl (lv_at hl 0 rfl) ?_
      obtain ⟨b57, h57, hf⟩ := bnd hf
      refine cl_i (run_V (As := []) (rest := []) X (w_X8_isSquare l V A ad h57) mw_X8_isSquare ln_X8_162 (rcX8 X hW) hW hS rfl hl.1 rfl (Nat.le_of_ble_eq_true rfl) ⟨Nat.le_of_ble_eq_true rfl, Nat.le_of_ble_eq_true rfl⟩ ⟨Nat.le_refl _, Nat.le_refl _⟩ dX8_layCounts_57) hS (fun H locs hW hS => ?_)
      refine lv_if_eq (tgt := 67) X.hx X.hb dX8_layCounts_60 (by decide) (fun c60 => ?_) (fun c60 => ?_)
      · replace hf := ite_t c60 hf
        exact f_X8_layCounts_J67_w X hr hlk hr52 _ _ _ _  hf hW hS (lv_sub hl [0] rfl)
      · replace hf := ite_f c60 hf
        refine lv_aload_n X.hx X.hb dX8_layCounts_63 rfl (lv_at hl 0 rfl) ?_
        obtain ⟨b64, h64, hf⟩ := bnd hf
        refine cl_v (run_V (As := []) (rest := []) X (w_X8_countSquare l V A ad h64) mw_X8_countSquare ln_X8_195 (rcX8 X hW) hW hS rfl hl.1 rfl (Nat.le_of_ble_eq_true rfl) ⟨Nat.le_of_ble_eq_true rfl, Nat.le_of_ble_eq_true rfl⟩ ⟨Nat.le_refl _, Nat.le_refl _⟩ dX8_layCounts_64) hS (fun H locs hW hS => ?_)
        exact f_X8_layCounts_J67_w X hr hlk hr52 _ _ _ _  hf hW hS (lv_sub hl [0] rfl)
noncomputable def f_X8_layCounts_J51 (st : St) (t0 : Int32) : Option St := f_X8_layCounts_L52 FU st t0
set_option maxRecDepth 100000 in
theorem f_X8_layCounts_J51_w {res : St} (X : Cx V A cX8_layCounts 2 RX8 p m c s args) (hr : meth.sig.returnType = none) (hlk : meth.locks = false)  (st : St) (t0 : Int32) (H : Heap) (locs : List Loc) (ls : Array Slot)  (hf : f_X8_layCounts_J51 st t0 = some res) (hW : (WdM V ad A) st H) (hS : va_S A s.heap H locs) (hl : lv_has ls 2 [(0, .ref (ad 0))]) : W p l e (rmF 3 67 0 0) s m args below meth c H locs 0 0 (MQ below (Qwv A (WdM V ad A) res) args s 0 0 A) (F0 m 51 ls [.int t0]) := by
  
  unfold f_X8_layCounts_J51 at hf
  refine lv_istore_n (lv' := [(1, .int t0), (0, .ref (ad 0))]) X.hx X.hb dX8_layCounts_51 rfl hl (by decide) rfl (fun ls hl => ?_)
  exact f_X8_layCounts_L52_w X hr hlk FU _ _ _ _ _  hf hW hS (lv_sub hl [1, 0] rfl)
noncomputable def f_X8_layCounts_L2 : Nat → St → Int32 → Option St
  | 0, _, _ => none
  | fu + 1, st, x1 => if 12 ≤ x1 then (f_X8_begin st).bind fun b36 => if (b36.1 1) ≤ 0 then f_X8_layCounts_J51 b36 0 else f_X8_layCounts_J51 b36 1 else if inb x1 12 = true then lt (sA st 9 x1.toNatClampNeg 0) fun s14 => if inb x1 12 = true then lt (sA s14 10 x1.toNatClampNeg 0) fun s21 => if inb x1 12 = true then lt (sA s21 11 x1.toNatClampNeg 0) fun s28 => lt (x1 + 1) fun w29 => (f_X8_layCounts_L2 fu) s28 w29 else none else none else none
set_option maxRecDepth 100000 in
theorem f_X8_layCounts_L2_w {res : St} (X : Cx V A cX8_layCounts 2 RX8 p m c s args) (hr : meth.sig.returnType = none) (hlk : meth.locks = false)  : ∀ (n9 : Nat) (st : St) (x1 : Int32) (H : Heap) (locs : List Loc) (ls : Array Slot), f_X8_layCounts_L2 n9 st x1 = some res → (WdM V ad A) st H → va_S A s.heap H locs → lv_has ls 2 [(0, .ref (ad 0)), (1, .int x1)] → W p l e (rmF 3 67 0 0) s m args below meth c H locs 0 0 (MQ below (Qwv A (WdM V ad A) res) args s 0 0 A) (F0 m 2 ls []) := by
  intro n9
  induction n9 with
  | zero =>
    intro st x1 H locs ls hf
    exact absurd hf (by unfold f_X8_layCounts_L2; exact fun h => by cases h)
  | succ n9 hr2 =>
    intro st x1 H locs ls hf hW hS hl
    
    unfold f_X8_layCounts_L2 at hf
    refine lv_iload_n X.hx X.hb dX8_layCounts_2 rfl (lv_at hl 1 rfl) ?_
    refine lv_bipush (v := 12) X.hx X.hb dX8_layCounts_3 (by decide) ?_
    refine lv_icmp_ge (tgt := 35) X.hx X.hb dX8_layCounts_5 (by decide) (fun c5 => ?_) (fun c5 => ?_)
    · replace hf := ite_t c5 hf
      refine lv_aload_n X.hx X.hb dX8_layCounts_35 rfl (lv_at hl 0 rfl) ?_
      obtain ⟨b36, h36, hf⟩ := bnd hf
      refine cl_v (run_V (As := []) (rest := []) X (w_X8_begin l V A ad h36) mw_X8_begin ln_X8_171 (rcX8 X hW) hW hS rfl hl.1 rfl (Nat.le_of_ble_eq_true rfl) ⟨Nat.le_of_ble_eq_true rfl, Nat.le_of_ble_eq_true rfl⟩ ⟨Nat.le_refl _, Nat.le_refl _⟩ dX8_layCounts_36) hS (fun H locs hW hS => ?_)
      refine lv_aload_n X.hx X.hb dX8_layCounts_39 rfl (lv_at hl 0 rfl) ?_
      refine gX8_words X hW dX8_layCounts_40 ?_
      refine lv_if_le (tgt := 50) X.hx X.hb dX8_layCounts_43 (by decide) (fun c43 => ?_) (fun c43 => ?_)
      · replace hf := ite_t c43 hf
        refine lv_iconst (v := 0) X.hx X.hb dX8_layCounts_50 (by decide) ?_
        exact f_X8_layCounts_J51_w X hr hlk _ _ _ _ _  hf hW hS (lv_sub hl [0] rfl)
      · replace hf := ite_f c43 hf
        refine lv_iconst (v := 1) X.hx X.hb dX8_layCounts_46 (by decide) ?_
        refine lv_goto (tgt := 51) X.hx X.hb dX8_layCounts_47 (by decide) ?_
        exact f_X8_layCounts_J51_w X hr hlk _ _ _ _ _  hf hW hS (lv_sub hl [0] rfl)
    · replace hf := ite_f c5 hf
      refine lv_aload_n X.hx X.hb dX8_layCounts_8 rfl (lv_at hl 0 rfl) ?_
      refine gX8_inRows X hW dX8_layCounts_9 ?_
      refine lv_iload_n X.hx X.hb dX8_layCounts_12 rfl (lv_at hl 1 rfl) ?_
      refine lv_iconst (v := 0) X.hx X.hb dX8_layCounts_13 (by decide) ?_
      obtain ⟨h14, hf⟩ := ite_n hf
      obtain ⟨s14, e14, hf⟩ := lt_e hf
      refine aM_st X hW hS isM_9 rfl h14 dX8_layCounts_14 (fun H locs hW hS => ?_)
      rw [← e14] at hW
      refine lv_aload_n X.hx X.hb dX8_layCounts_15 rfl (lv_at hl 0 rfl) ?_
      refine gX8_inColumns X hW dX8_layCounts_16 ?_
      refine lv_iload_n X.hx X.hb dX8_layCounts_19 rfl (lv_at hl 1 rfl) ?_
      refine lv_iconst (v := 0) X.hx X.hb dX8_layCounts_20 (by decide) ?_
      obtain ⟨h21, hf⟩ := ite_n hf
      obtain ⟨s21, e21, hf⟩ := lt_e hf
      refine aM_st X hW hS isM_10 rfl h21 dX8_layCounts_21 (fun H locs hW hS => ?_)
      rw [← e21] at hW
      refine lv_aload_n X.hx X.hb dX8_layCounts_22 rfl (lv_at hl 0 rfl) ?_
      refine gX8_inSame X hW dX8_layCounts_23 ?_
      refine lv_iload_n X.hx X.hb dX8_layCounts_26 rfl (lv_at hl 1 rfl) ?_
      refine lv_iconst (v := 0) X.hx X.hb dX8_layCounts_27 (by decide) ?_
      obtain ⟨h28, hf⟩ := ite_n hf
      obtain ⟨s28, e28, hf⟩ := lt_e hf
      refine aM_st X hW hS isM_11 rfl h28 dX8_layCounts_28 (fun H locs hW hS => ?_)
      rw [← e28] at hW
      obtain ⟨w29, e29, hf⟩ := lt_e hf
      refine lv_iinc (v := w29) (lv' := [(1, .int w29), (0, .ref (ad 0))]) X.hx X.hb dX8_layCounts_29 hl (k := 1) rfl (by rw [e29]; rfl) (by decide) rfl (fun ls hl => ?_)
      refine lv_goto (tgt := 2) X.hx X.hb dX8_layCounts_32 (by decide) ?_
      exact hr2 _ _ _ _ _  hf hW hS (lv_sub hl [1, 0] rfl)
noncomputable def f_X8_layCounts (st : St) : Option St := f_X8_layCounts_L2 FU st 0
set_option maxRecDepth 100000 in
theorem w_X8_layCounts (l : Launch) (V : Ev) (A : Nat → Prop) (ad : Nat → Nat) {st : St} {res : St} (hf : f_X8_layCounts st = some res) : Cn l yX8_layCounts cX8_layCounts 2 none 3 67 0 0 V A (WdM V ad A) st [.ref (ad 0)] (Qwv A (WdM V ad A) res) := by
  refine cn_of RX8 (by decide) rfl (fun p e s m below meth c ls X hr hlk hW hS hl => ?_) (Nat.le_of_ble_eq_true rfl)
  have hl : lv_has ls 2 [(0, .ref (ad 0))] := hl
  unfold f_X8_layCounts at hf
  refine lv_iconst (v := 0) X.hx X.hb dX8_layCounts_0 (by decide) ?_
  refine lv_istore_n (lv' := [(1, .int 0), (0, .ref (ad 0))]) X.hx X.hb dX8_layCounts_1 rfl hl (by decide) rfl (fun ls hl => ?_)
  exact f_X8_layCounts_L2_w X hr hlk FU _ _ _ _ _  hf hW hS (lv_sub hl [1, 0] rfl)
-- WordSquaresModel.wordNow
noncomputable def f_X8_wordNow (st : St) (a1 : Int32) (a2 : Int32) : Option Int32 := if a2 = 0 then if inb a1 12 = true then some (st.2.1 2 a1.toNatClampNeg) else none else if a2 = 1 then (f_X8_mirrorOf st a1).bind fun b41 => some b41 else if a2 = 2 then if inb a1 12 = true then some (st.2.1 9 a1.toNatClampNeg) else none else if a2 = 3 then if inb a1 12 = true then some (st.2.1 10 a1.toNatClampNeg) else none else if inb a1 12 = true then some (st.2.1 11 a1.toNatClampNeg) else none
set_option maxRecDepth 100000 in
theorem w_X8_wordNow (l : Launch) (V : Ev) (A : Nat → Prop) (ad : Nat → Nat) {st : St} {a1 : Int32} {a2 : Int32} {res : Int32} (hf : f_X8_wordNow st a1 a2 = some res) : Cn l yX8_wordNow cX8_wordNow 3 (some .int) 2 46 0 0 V A (WdM V ad A) st [.ref (ad 0), .int a1, .int a2] (Qwi A (WdM V ad A) res st) := by
  refine cn_of RX8 (by decide) rfl (fun p e s m below meth c ls X hr hlk hW hS hl => ?_) (Nat.le_of_ble_eq_true rfl)
  have hl : lv_has ls 3 [(0, .ref (ad 0)), (1, .int a1), (2, .int a2)] := hl
  unfold f_X8_wordNow at hf
  refine lv_iload_n X.hx X.hb dX8_wordNow_0 rfl (lv_at hl 2 rfl) ?_
  by_cases c1_0 : a2 = 0
  · replace hf := ite_t c1_0 hf
    refine lv_tableIn (tgt := 32) X.hx X.hb dX8_wordNow_1 (by rw [c1_0]; decide) (by rw [c1_0]; decide) (by rw [c1_0]; rfl) (by decide) ?_
    refine lv_aload_n X.hx X.hb dX8_wordNow_32 rfl (lv_at hl 0 rfl) ?_
    refine gX8_weights X hW dX8_wordNow_33 ?_
    refine lv_iload_n X.hx X.hb dX8_wordNow_36 rfl (lv_at hl 1 rfl) ?_
    obtain ⟨h37, hf⟩ := ite_n hf
    refine aM_ld X hW isM_2 rfl h37 dX8_wordNow_37 ?_
    exact rt_i X hr hlk hW hS (Option.some.inj hf) (Nat.le_refl _) (Nat.le_refl _) dX8_wordNow_38
  replace hf := ite_f c1_0 hf
  by_cases c1_1 : a2 = 1
  · replace hf := ite_t c1_1 hf
    refine lv_tableIn (tgt := 39) X.hx X.hb dX8_wordNow_1 (by rw [c1_1]; decide) (by rw [c1_1]; decide) (by rw [c1_1]; rfl) (by decide) ?_
    refine lv_aload_n X.hx X.hb dX8_wordNow_39 rfl (lv_at hl 0 rfl) ?_
    refine lv_iload_n X.hx X.hb dX8_wordNow_40 rfl (lv_at hl 1 rfl) ?_
    obtain ⟨b41, h41, hf⟩ := bnd hf
    refine cl_i (run_V (As := [.int a1]) (rest := []) X (w_X8_mirrorOf l V A ad h41) mw_X8_mirrorOf ln_X8_137 (rcX8 X hW) hW hS rfl hl.1 rfl (Nat.le_of_ble_eq_true rfl) ⟨Nat.le_of_ble_eq_true rfl, Nat.le_of_ble_eq_true rfl⟩ ⟨Nat.le_refl _, Nat.le_refl _⟩ dX8_wordNow_41) hS (fun H locs hW hS => ?_)
    exact rt_i X hr hlk hW hS (Option.some.inj hf) (Nat.le_refl _) (Nat.le_refl _) dX8_wordNow_44
  replace hf := ite_f c1_1 hf
  by_cases c1_2 : a2 = 2
  · replace hf := ite_t c1_2 hf
    refine lv_tableIn (tgt := 45) X.hx X.hb dX8_wordNow_1 (by rw [c1_2]; decide) (by rw [c1_2]; decide) (by rw [c1_2]; rfl) (by decide) ?_
    refine lv_aload_n X.hx X.hb dX8_wordNow_45 rfl (lv_at hl 0 rfl) ?_
    refine gX8_inRows X hW dX8_wordNow_46 ?_
    refine lv_iload_n X.hx X.hb dX8_wordNow_49 rfl (lv_at hl 1 rfl) ?_
    obtain ⟨h50, hf⟩ := ite_n hf
    refine aM_ld X hW isM_9 rfl h50 dX8_wordNow_50 ?_
    exact rt_i X hr hlk hW hS (Option.some.inj hf) (Nat.le_refl _) (Nat.le_refl _) dX8_wordNow_51
  replace hf := ite_f c1_2 hf
  by_cases c1_3 : a2 = 3
  · replace hf := ite_t c1_3 hf
    refine lv_tableIn (tgt := 52) X.hx X.hb dX8_wordNow_1 (by rw [c1_3]; decide) (by rw [c1_3]; decide) (by rw [c1_3]; rfl) (by decide) ?_
    refine lv_aload_n X.hx X.hb dX8_wordNow_52 rfl (lv_at hl 0 rfl) ?_
    refine gX8_inColumns X hW dX8_wordNow_53 ?_
    refine lv_iload_n X.hx X.hb dX8_wordNow_56 rfl (lv_at hl 1 rfl) ?_
    obtain ⟨h57, hf⟩ := ite_n hf
    refine aM_ld X hW isM_10 rfl h57 dX8_wordNow_57 ?_
    exact rt_i X hr hlk hW hS (Option.some.inj hf) (Nat.le_refl _) (Nat.le_refl _) dX8_wordNow_58
  replace hf := ite_f c1_3 hf
  have n1 : (a2).toInt < 0 ∨ 3 < (a2).toInt := by
    have q0 := lv_neT (a := 0) c1_0 (by decide)
    have q1 := lv_neT (a := 1) c1_1 (by decide)
    have q2 := lv_neT (a := 2) c1_2 (by decide)
    have q3 := lv_neT (a := 3) c1_3 (by decide)
    omega
  refine lv_tableOut (tgt := 59) X.hx X.hb dX8_wordNow_1 n1 (by decide) ?_
  refine lv_aload_n X.hx X.hb dX8_wordNow_59 rfl (lv_at hl 0 rfl) ?_
  refine gX8_inSame X hW dX8_wordNow_60 ?_
  refine lv_iload_n X.hx X.hb dX8_wordNow_63 rfl (lv_at hl 1 rfl) ?_
  obtain ⟨h64, hf⟩ := ite_n hf
  refine aM_ld X hW isM_11 rfl h64 dX8_wordNow_64 ?_
  exact rt_i X hr hlk hW hS (Option.some.inj hf) (Nat.le_refl _) (Nat.le_refl _) dX8_wordNow_65
-- WordSquaresModel.wordTold
noncomputable def f_X8_wordTold_J9 (st : St) (x1 : Int32) (x2 : Int32) : Option (Int32 × St) := (f_X8_wordNow st x1 x2).bind fun b12 => some (b12, st)
set_option maxRecDepth 100000 in
theorem f_X8_wordTold_J9_w {res : (Int32 × St)} (X : Cx V A cX8_wordTold 3 RX8 p m c s args) (hr : meth.sig.returnType = (some .int)) (hlk : meth.locks = false)  (st : St) (x1 : Int32) (x2 : Int32) (H : Heap) (locs : List Loc) (ls : Array Slot)  (hf : f_X8_wordTold_J9 st x1 x2 = some res) (hW : (WdM V ad A) st H) (hS : va_S A s.heap H locs) (hl : lv_has ls 3 [(0, .ref (ad 0)), (1, .int x1), (2, .int x2)]) : W p l e (rmF 4 88 0 0) s m args below meth c H locs 0 0 (MQ below (Qwi A (WdM V ad A) res.1 res.2) args s 0 0 A) (F0 m 9 ls []) := by
  
  unfold f_X8_wordTold_J9 at hf
  refine lv_aload_n X.hx X.hb dX8_wordTold_9 rfl (lv_at hl 0 rfl) ?_
  refine lv_iload_n X.hx X.hb dX8_wordTold_10 rfl (lv_at hl 1 rfl) ?_
  refine lv_iload_n X.hx X.hb dX8_wordTold_11 rfl (lv_at hl 2 rfl) ?_
  obtain ⟨b12, h12, hf⟩ := bnd hf
  refine cl_i (run_V (As := [.int x1, .int x2]) (rest := []) X (w_X8_wordNow l V A ad h12) mw_X8_wordNow ln_X8_201 (rcX8 X hW) hW hS rfl hl.1 rfl (Nat.le_of_ble_eq_true rfl) ⟨Nat.le_of_ble_eq_true rfl, Nat.le_of_ble_eq_true rfl⟩ ⟨Nat.le_refl _, Nat.le_refl _⟩ dX8_wordTold_12) hS (fun H locs hW hS => ?_)
  exact rt_i X hr hlk (by rw [← Option.some.inj hf]; exact hW) hS (by rw [← Option.some.inj hf]) (Nat.le_refl _) (Nat.le_refl _) dX8_wordTold_15
noncomputable def f_X8_wordTold (st : St) (a1 : Int32) (a2 : Int32) : Option (Int32 × St) := if a2 ≤ 1 then f_X8_wordTold_J9 st a1 a2 else (f_X8_layCounts st).bind fun b6 => f_X8_wordTold_J9 b6 a1 a2
set_option maxRecDepth 100000 in
theorem w_X8_wordTold (l : Launch) (V : Ev) (A : Nat → Prop) (ad : Nat → Nat) {st : St} {a1 : Int32} {a2 : Int32} {res : (Int32 × St)} (hf : f_X8_wordTold st a1 a2 = some res) : Cn l yX8_wordTold cX8_wordTold 3 (some .int) 4 88 0 0 V A (WdM V ad A) st [.ref (ad 0), .int a1, .int a2] (Qwi A (WdM V ad A) res.1 res.2) := by
  refine cn_of RX8 (by decide) rfl (fun p e s m below meth c ls X hr hlk hW hS hl => ?_) (Nat.le_of_ble_eq_true rfl)
  have hl : lv_has ls 3 [(0, .ref (ad 0)), (1, .int a1), (2, .int a2)] := hl
  unfold f_X8_wordTold at hf
  refine lv_iload_n X.hx X.hb dX8_wordTold_0 rfl (lv_at hl 2 rfl) ?_
  refine lv_iconst (v := 1) X.hx X.hb dX8_wordTold_1 (by decide) ?_
  refine lv_icmp_le (tgt := 9) X.hx X.hb dX8_wordTold_2 (by decide) (fun c2 => ?_) (fun c2 => ?_)
  · replace hf := ite_t c2 hf
    exact f_X8_wordTold_J9_w X hr hlk _ _ _ _ _ _  hf hW hS (lv_sub hl [0, 1, 2] rfl)
  · replace hf := ite_f c2 hf
    refine lv_aload_n X.hx X.hb dX8_wordTold_5 rfl (lv_at hl 0 rfl) ?_
    obtain ⟨b6, h6, hf⟩ := bnd hf
    refine cl_v (run_V (As := []) (rest := []) X (w_X8_layCounts l V A ad h6) mw_X8_layCounts ln_X8_198 (rcX8 X hW) hW hS rfl hl.1 rfl (Nat.le_of_ble_eq_true rfl) ⟨Nat.le_of_ble_eq_true rfl, Nat.le_of_ble_eq_true rfl⟩ ⟨Nat.le_refl _, Nat.le_refl _⟩ dX8_wordTold_6) hS (fun H locs hW hS => ?_)
    exact f_X8_wordTold_J9_w X hr hlk _ _ _ _ _ _  hf hW hS (lv_sub hl [0, 1, 2] rfl)
-- WordSquaresModel.word
noncomputable def f_X8_word (st : St) (a1 : Int32) (a2 : Int32) : Option (Int32 × St) := (f_X8_isWord st a1).bind fun b2 => if b2 = 0 then some ((-101), st) else (f_X8_within a2 0 4).bind fun b16 => if b16 = 0 then some ((-102), st) else (f_X8_wordTold st a1 a2).bind fun b25 => some (b25.1, b25.2)
set_option maxRecDepth 100000 in
theorem w_X8_word (l : Launch) (V : Ev) (A : Nat → Prop) (ad : Nat → Nat) {st : St} {a1 : Int32} {a2 : Int32} {res : (Int32 × St)} (hf : f_X8_word st a1 a2 = some res) : Cn l yX8_word cX8_word 3 (some .int) 5 110 0 0 V A (WdM V ad A) st [.ref (ad 0), .int a1, .int a2] (Qwi A (WdM V ad A) res.1 res.2) := by
  refine cn_of RX8 (by decide) rfl (fun p e s m below meth c ls X hr hlk hW hS hl => ?_) (Nat.le_of_ble_eq_true rfl)
  have hl : lv_has ls 3 [(0, .ref (ad 0)), (1, .int a1), (2, .int a2)] := hl
  unfold f_X8_word at hf
  refine lv_aload_n X.hx X.hb dX8_word_0 rfl (lv_at hl 0 rfl) ?_
  refine lv_iload_n X.hx X.hb dX8_word_1 rfl (lv_at hl 1 rfl) ?_
  obtain ⟨b2, h2, hf⟩ := bnd hf
  refine cl_i (run_V (As := [.int a1]) (rest := []) X (w_X8_isWord l V A ad h2) mw_X8_isWord ln_X8_124 (rcX8 X hW) hW hS rfl hl.1 rfl (Nat.le_of_ble_eq_true rfl) ⟨Nat.le_of_ble_eq_true rfl, Nat.le_of_ble_eq_true rfl⟩ ⟨Nat.le_refl _, Nat.le_refl _⟩ dX8_word_2) hS (fun H locs hW hS => ?_)
  refine lv_if_ne (tgt := 13) X.hx X.hb dX8_word_5 (by decide) (fun c5 => ?_) (fun c5 => ?_)
  · replace hf := ite_f c5 hf
    refine lv_iload_n X.hx X.hb dX8_word_13 rfl (lv_at hl 2 rfl) ?_
    refine lv_iconst (v := 0) X.hx X.hb dX8_word_14 (by decide) ?_
    refine lv_iconst (v := 4) X.hx X.hb dX8_word_15 (by decide) ?_
    obtain ⟨b16, h16, hf⟩ := bnd hf
    refine cl_i (run_S (As := [.int a2, .int 0, .int 4]) (rest := []) X (w_X8_within l V A (WdM V ad A) st h16) mw_X8_within ln_X8_65 hW hS rfl hl.1 rfl (Nat.le_of_ble_eq_true rfl) ⟨Nat.le_of_ble_eq_true rfl, Nat.le_of_ble_eq_true rfl⟩ ⟨Nat.le_refl _, Nat.le_refl _⟩ dX8_word_16) hS (fun H locs hW hS => ?_)
    refine lv_if_eq (tgt := 31) X.hx X.hb dX8_word_19 (by decide) (fun c19 => ?_) (fun c19 => ?_)
    · replace hf := ite_t c19 hf
      refine lv_bipush (v := (-102)) X.hx X.hb dX8_word_31 (by decide) ?_
      exact rt_i X hr hlk (by rw [← Option.some.inj hf]; exact hW) hS (by rw [← Option.some.inj hf]) (Nat.le_refl _) (Nat.le_refl _) dX8_word_33
    · replace hf := ite_f c19 hf
      refine lv_aload_n X.hx X.hb dX8_word_22 rfl (lv_at hl 0 rfl) ?_
      refine lv_iload_n X.hx X.hb dX8_word_23 rfl (lv_at hl 1 rfl) ?_
      refine lv_iload_n X.hx X.hb dX8_word_24 rfl (lv_at hl 2 rfl) ?_
      obtain ⟨b25, h25, hf⟩ := bnd hf
      refine cl_i (run_V (As := [.int a1, .int a2]) (rest := []) X (w_X8_wordTold l V A ad h25) mw_X8_wordTold ln_X8_204 (rcX8 X hW) hW hS rfl hl.1 rfl (Nat.le_of_ble_eq_true rfl) ⟨Nat.le_of_ble_eq_true rfl, Nat.le_of_ble_eq_true rfl⟩ ⟨Nat.le_refl _, Nat.le_refl _⟩ dX8_word_25) hS (fun H locs hW hS => ?_)
      refine lv_goto (tgt := 33) X.hx X.hb dX8_word_28 (by decide) ?_
      exact rt_i X hr hlk (by rw [← Option.some.inj hf]; exact hW) hS (by rw [← Option.some.inj hf]) (Nat.le_refl _) (Nat.le_refl _) dX8_word_33
  · replace hf := ite_t c5 hf
    refine lv_bipush (v := (-101)) X.hx X.hb dX8_word_8 (by decide) ?_
    refine lv_goto (tgt := 33) X.hx X.hb dX8_word_10 (by decide) ?_
    exact rt_i X hr hlk (by rw [← Option.some.inj hf]; exact hW) hS (by rw [← Option.some.inj hf]) (Nat.le_refl _) (Nat.le_refl _) dX8_word_33
-- WordSquaresModel.isRow
noncomputable def f_X8_isRow (st : St) (a1 : Int32) : Option Int32 := (f_X8_within a1 0 ((st.1 0) - 1)).bind fun b8 => if b8 = 0 ∨ b8 = 1 then some b8 else none
set_option maxRecDepth 100000 in
theorem w_X8_isRow (l : Launch) (V : Ev) (A : Nat → Prop) (ad : Nat → Nat) {st : St} {a1 : Int32} {res : Int32} (hf : f_X8_isRow st a1 = some res) : Cn l yX8_isRow cX8_isRow 2 (some .boolean) 1 22 0 0 V A (WdM V ad A) st [.ref (ad 0), .int a1] (Qwi A (WdM V ad A) res st) := by
  refine cn_of RX8 (by decide) rfl (fun p e s m below meth c ls X hr hlk hW hS hl => ?_) (Nat.le_of_ble_eq_true rfl)
  have hl : lv_has ls 2 [(0, .ref (ad 0)), (1, .int a1)] := hl
  unfold f_X8_isRow at hf
  refine lv_iload_n X.hx X.hb dX8_isRow_0 rfl (lv_at hl 1 rfl) ?_
  refine lv_iconst (v := 0) X.hx X.hb dX8_isRow_1 (by decide) ?_
  refine lv_aload_n X.hx X.hb dX8_isRow_2 rfl (lv_at hl 0 rfl) ?_
  refine gX8_length X hW dX8_isRow_3 ?_
  refine lv_iconst (v := 1) X.hx X.hb dX8_isRow_6 (by decide) ?_
  refine lv_isub X.hx X.hb dX8_isRow_7 ?_
  obtain ⟨b8, h8, hf⟩ := bnd hf
  refine cl_i (run_S (As := [.int a1, .int 0, .int ((st.1 0) - 1)]) (rest := []) X (w_X8_within l V A (WdM V ad A) st h8) mw_X8_within ln_X8_65 hW hS rfl hl.1 rfl (Nat.le_of_ble_eq_true rfl) ⟨Nat.le_of_ble_eq_true rfl, Nat.le_of_ble_eq_true rfl⟩ ⟨Nat.le_refl _, Nat.le_refl _⟩ dX8_isRow_8) hS (fun H locs hW hS => ?_)
  obtain ⟨h11, hf⟩ := ite_n hf
  exact rt_z X hr hlk hW hS h11 (Option.some.inj hf) (Nat.le_refl _) (Nat.le_refl _) dX8_isRow_11
-- WordSquaresModel.put
noncomputable def f_X8_put_J16 (st : St) : Option (Int32 × St) := some ((-101), st)
set_option maxRecDepth 100000 in
theorem f_X8_put_J16_w {res : (Int32 × St)} (X : Cx V A cX8_put 4 RX8 p m c s args) (hr : meth.sig.returnType = (some .int)) (hlk : meth.locks = false)  (st : St) (H : Heap) (locs : List Loc) (ls : Array Slot)  (hf : f_X8_put_J16 st = some res) (hW : (WdM V ad A) st H) (hS : va_S A s.heap H locs) (hl : lv_has ls 4 []) : W p l e (rmF 2 43 0 0) s m args below meth c H locs 0 0 (MQ below (Qwi A (WdM V ad A) res.1 res.2) args s 0 0 A) (F0 m 16 ls []) := by
  
  unfold f_X8_put_J16 at hf
  refine lv_bipush (v := (-101)) X.hx X.hb dX8_put_16 (by decide) ?_
  exact rt_i X hr hlk (by rw [← Option.some.inj hf]; exact hW) hS (by rw [← Option.some.inj hf]) (Nat.le_refl _) (Nat.le_refl _) dX8_put_18
noncomputable def f_X8_put (st : St) (a1 : Int32) (a2 : Int32) : Option (Int32 × St) := (f_X8_isRow st a1).bind fun b2 => if b2 = 0 then f_X8_put_J16 st else (f_X8_isWord st a2).bind fun b10 => if b10 = 0 then f_X8_put_J16 st else if inb a1 4 = true then lt (st.2.1 3 a1.toNatClampNeg) fun w25 => if inb a1 4 = true then lt (sA st 3 a1.toNatClampNeg a2) fun s32 => some (w25, s32) else none else none
set_option maxRecDepth 100000 in
theorem w_X8_put (l : Launch) (V : Ev) (A : Nat → Prop) (ad : Nat → Nat) {st : St} {a1 : Int32} {a2 : Int32} {res : (Int32 × St)} (hf : f_X8_put st a1 a2 = some res) : Cn l yX8_put cX8_put 4 (some .int) 2 43 0 0 V A (WdM V ad A) st [.ref (ad 0), .int a1, .int a2] (Qwi A (WdM V ad A) res.1 res.2) := by
  refine cn_of RX8 (by decide) rfl (fun p e s m below meth c ls X hr hlk hW hS hl => ?_) (Nat.le_of_ble_eq_true rfl)
  have hl : lv_has ls 4 [(0, .ref (ad 0)), (1, .int a1), (2, .int a2)] := hl
  unfold f_X8_put at hf
  refine lv_aload_n X.hx X.hb dX8_put_0 rfl (lv_at hl 0 rfl) ?_
  refine lv_iload_n X.hx X.hb dX8_put_1 rfl (lv_at hl 1 rfl) ?_
  obtain ⟨b2, h2, hf⟩ := bnd hf
  refine cl_i (run_V (As := [.int a1]) (rest := []) X (w_X8_isRow l V A ad h2) mw_X8_isRow ln_X8_207 (rcX8 X hW) hW hS rfl hl.1 rfl (Nat.le_of_ble_eq_true rfl) ⟨Nat.le_of_ble_eq_true rfl, Nat.le_of_ble_eq_true rfl⟩ ⟨Nat.le_refl _, Nat.le_refl _⟩ dX8_put_2) hS (fun H locs hW hS => ?_)
  refine lv_if_eq (tgt := 16) X.hx X.hb dX8_put_5 (by decide) (fun c5 => ?_) (fun c5 => ?_)
  · replace hf := ite_t c5 hf
    exact f_X8_put_J16_w X hr hlk _ _ _ _  hf hW hS (lv_sub hl [] rfl)
  · replace hf := ite_f c5 hf
    refine lv_aload_n X.hx X.hb dX8_put_8 rfl (lv_at hl 0 rfl) ?_
    refine lv_iload_n X.hx X.hb dX8_put_9 rfl (lv_at hl 2 rfl) ?_
    obtain ⟨b10, h10, hf⟩ := bnd hf
    refine cl_i (run_V (As := [.int a2]) (rest := []) X (w_X8_isWord l V A ad h10) mw_X8_isWord ln_X8_124 (rcX8 X hW) hW hS rfl hl.1 rfl (Nat.le_of_ble_eq_true rfl) ⟨Nat.le_of_ble_eq_true rfl, Nat.le_of_ble_eq_true rfl⟩ ⟨Nat.le_refl _, Nat.le_refl _⟩ dX8_put_10) hS (fun H locs hW hS => ?_)
    refine lv_if_ne (tgt := 19) X.hx X.hb dX8_put_13 (by decide) (fun c13 => ?_) (fun c13 => ?_)
    · replace hf := ite_f c13 hf
      refine lv_aload_n X.hx X.hb dX8_put_19 rfl (lv_at hl 0 rfl) ?_
      refine gX8_laid X hW dX8_put_20 ?_
      refine lv_iload_n X.hx X.hb dX8_put_23 rfl (lv_at hl 1 rfl) ?_
      obtain ⟨h24, hf⟩ := ite_n hf
      refine aM_ld X hW isM_3 rfl h24 dX8_put_24 ?_
      obtain ⟨w25, e25, hf⟩ := lt_e hf
      refine lv_nm e25 ?_
      refine lv_istore_n (lv' := [(3, .int w25), (0, .ref (ad 0)), (1, .int a1), (2, .int a2)]) X.hx X.hb dX8_put_25 rfl hl (by decide) rfl (fun ls hl => ?_)
      refine lv_aload_n X.hx X.hb dX8_put_26 rfl (lv_at hl 1 rfl) ?_
      refine gX8_laid X hW dX8_put_27 ?_
      refine lv_iload_n X.hx X.hb dX8_put_30 rfl (lv_at hl 2 rfl) ?_
      refine lv_iload_n X.hx X.hb dX8_put_31 rfl (lv_at hl 3 rfl) ?_
      obtain ⟨h32, hf⟩ := ite_n hf
      obtain ⟨s32, e32, hf⟩ := lt_e hf
      refine aM_st X hW hS isM_3 rfl h32 dX8_put_32 (fun H locs hW hS => ?_)
      rw [← e32] at hW
      refine lv_iload_n X.hx X.hb dX8_put_33 rfl (lv_at hl 0 rfl) ?_
      exact rt_i X hr hlk (by rw [← Option.some.inj hf]; exact hW) hS (by rw [← Option.some.inj hf]) (Nat.le_refl _) (Nat.le_refl _) dX8_put_34
    · replace hf := ite_t c13 hf
      exact f_X8_put_J16_w X hr hlk _ _ _ _  hf hW hS (lv_sub hl [] rfl)
-- WordSquaresModel.lift
noncomputable def f_X8_lift (st : St) (a1 : Int32) : Option (Int32 × St) := (f_X8_isRow st a1).bind fun b2 => if b2 = 0 then some ((-101), st) else if inb a1 4 = true then if (st.2.1 3 a1.toNatClampNeg) = (-1) then some ((-103), st) else if inb a1 4 = true then lt (st.2.1 3 a1.toNatClampNeg) fun w30 => if inb a1 4 = true then lt (sA st 3 a1.toNatClampNeg (-1)) fun s37 => some (w30, s37) else none else none else none
set_option maxRecDepth 100000 in
theorem w_X8_lift (l : Launch) (V : Ev) (A : Nat → Prop) (ad : Nat → Nat) {st : St} {a1 : Int32} {res : (Int32 × St)} (hf : f_X8_lift st a1 = some res) : Cn l yX8_lift cX8_lift 3 (some .int) 2 43 0 0 V A (WdM V ad A) st [.ref (ad 0), .int a1] (Qwi A (WdM V ad A) res.1 res.2) := by
  refine cn_of RX8 (by decide) rfl (fun p e s m below meth c ls X hr hlk hW hS hl => ?_) (Nat.le_of_ble_eq_true rfl)
  have hl : lv_has ls 3 [(0, .ref (ad 0)), (1, .int a1)] := hl
  unfold f_X8_lift at hf
  refine lv_aload_n X.hx X.hb dX8_lift_0 rfl (lv_at hl 0 rfl) ?_
  refine lv_iload_n X.hx X.hb dX8_lift_1 rfl (lv_at hl 1 rfl) ?_
  obtain ⟨b2, h2, hf⟩ := bnd hf
  refine cl_i (run_V (As := [.int a1]) (rest := []) X (w_X8_isRow l V A ad h2) mw_X8_isRow ln_X8_207 (rcX8 X hW) hW hS rfl hl.1 rfl (Nat.le_of_ble_eq_true rfl) ⟨Nat.le_of_ble_eq_true rfl, Nat.le_of_ble_eq_true rfl⟩ ⟨Nat.le_refl _, Nat.le_refl _⟩ dX8_lift_2) hS (fun H locs hW hS => ?_)
  refine lv_if_ne (tgt := 11) X.hx X.hb dX8_lift_5 (by decide) (fun c5 => ?_) (fun c5 => ?_)
  · replace hf := ite_f c5 hf
    refine lv_aload_n X.hx X.hb dX8_lift_11 rfl (lv_at hl 0 rfl) ?_
    refine gX8_laid X hW dX8_lift_12 ?_
    refine lv_iload_n X.hx X.hb dX8_lift_15 rfl (lv_at hl 1 rfl) ?_
    obtain ⟨h16, hf⟩ := ite_n hf
    refine aM_ld X hW isM_3 rfl h16 dX8_lift_16 ?_
    refine lv_iconst (v := (-1)) X.hx X.hb dX8_lift_17 (by decide) ?_
    refine lv_icmp_ne (tgt := 24) X.hx X.hb dX8_lift_18 (by decide) (fun c18 => ?_) (fun c18 => ?_)
    · replace hf := ite_f c18 hf
      refine lv_aload_n X.hx X.hb dX8_lift_24 rfl (lv_at hl 0 rfl) ?_
      refine gX8_laid X hW dX8_lift_25 ?_
      refine lv_iload_n X.hx X.hb dX8_lift_28 rfl (lv_at hl 1 rfl) ?_
      obtain ⟨h29, hf⟩ := ite_n hf
      refine aM_ld X hW isM_3 rfl h29 dX8_lift_29 ?_
      obtain ⟨w30, e30, hf⟩ := lt_e hf
      refine lv_nm e30 ?_
      refine lv_istore_n (lv' := [(2, .int w30), (0, .ref (ad 0)), (1, .int a1)]) X.hx X.hb dX8_lift_30 rfl hl (by decide) rfl (fun ls hl => ?_)
      refine lv_aload_n X.hx X.hb dX8_lift_31 rfl (lv_at hl 1 rfl) ?_
      refine gX8_laid X hW dX8_lift_32 ?_
      refine lv_iload_n X.hx X.hb dX8_lift_35 rfl (lv_at hl 2 rfl) ?_
      refine lv_iconst (v := (-1)) X.hx X.hb dX8_lift_36 (by decide) ?_
      obtain ⟨h37, hf⟩ := ite_n hf
      obtain ⟨s37, e37, hf⟩ := lt_e hf
      refine aM_st X hW hS isM_3 rfl h37 dX8_lift_37 (fun H locs hW hS => ?_)
      rw [← e37] at hW
      refine lv_iload_n X.hx X.hb dX8_lift_38 rfl (lv_at hl 0 rfl) ?_
      exact rt_i X hr hlk (by rw [← Option.some.inj hf]; exact hW) hS (by rw [← Option.some.inj hf]) (Nat.le_refl _) (Nat.le_refl _) dX8_lift_39
    · replace hf := ite_t c18 hf
      refine lv_bipush (v := (-103)) X.hx X.hb dX8_lift_21 (by decide) ?_
      exact rt_i X hr hlk (by rw [← Option.some.inj hf]; exact hW) hS (by rw [← Option.some.inj hf]) (Nat.le_refl _) (Nat.le_refl _) dX8_lift_23
  · replace hf := ite_t c5 hf
    refine lv_bipush (v := (-101)) X.hx X.hb dX8_lift_8 (by decide) ?_
    exact rt_i X hr hlk (by rw [← Option.some.inj hf]; exact hW) hS (by rw [← Option.some.inj hf]) (Nat.le_refl _) (Nat.le_refl _) dX8_lift_10
-- WordSquaresModel.board
noncomputable def f_X8_board (st : St) (a1 : Int32) : Option Int32 := (f_X8_isRow st a1).bind fun b2 => if b2 = 0 then some (-101) else if inb a1 4 = true then some (st.2.1 3 a1.toNatClampNeg) else none
set_option maxRecDepth 100000 in
theorem w_X8_board (l : Launch) (V : Ev) (A : Nat → Prop) (ad : Nat → Nat) {st : St} {a1 : Int32} {res : Int32} (hf : f_X8_board st a1 = some res) : Cn l yX8_board cX8_board 2 (some .int) 2 43 0 0 V A (WdM V ad A) st [.ref (ad 0), .int a1] (Qwi A (WdM V ad A) res st) := by
  refine cn_of RX8 (by decide) rfl (fun p e s m below meth c ls X hr hlk hW hS hl => ?_) (Nat.le_of_ble_eq_true rfl)
  have hl : lv_has ls 2 [(0, .ref (ad 0)), (1, .int a1)] := hl
  unfold f_X8_board at hf
  refine lv_aload_n X.hx X.hb dX8_board_0 rfl (lv_at hl 0 rfl) ?_
  refine lv_iload_n X.hx X.hb dX8_board_1 rfl (lv_at hl 1 rfl) ?_
  obtain ⟨b2, h2, hf⟩ := bnd hf
  refine cl_i (run_V (As := [.int a1]) (rest := []) X (w_X8_isRow l V A ad h2) mw_X8_isRow ln_X8_207 (rcX8 X hW) hW hS rfl hl.1 rfl (Nat.le_of_ble_eq_true rfl) ⟨Nat.le_of_ble_eq_true rfl, Nat.le_of_ble_eq_true rfl⟩ ⟨Nat.le_refl _, Nat.le_refl _⟩ dX8_board_2) hS (fun H locs hW hS => ?_)
  refine lv_if_eq (tgt := 17) X.hx X.hb dX8_board_5 (by decide) (fun c5 => ?_) (fun c5 => ?_)
  · replace hf := ite_t c5 hf
    refine lv_bipush (v := (-101)) X.hx X.hb dX8_board_17 (by decide) ?_
    exact rt_i X hr hlk hW hS (Option.some.inj hf) (Nat.le_refl _) (Nat.le_refl _) dX8_board_19
  · replace hf := ite_f c5 hf
    refine lv_aload_n X.hx X.hb dX8_board_8 rfl (lv_at hl 0 rfl) ?_
    refine gX8_laid X hW dX8_board_9 ?_
    refine lv_iload_n X.hx X.hb dX8_board_12 rfl (lv_at hl 1 rfl) ?_
    obtain ⟨h13, hf⟩ := ite_n hf
    refine aM_ld X hW isM_3 rfl h13 dX8_board_13 ?_
    refine lv_goto (tgt := 19) X.hx X.hb dX8_board_14 (by decide) ?_
    exact rt_i X hr hlk hW hS (Option.some.inj hf) (Nat.le_refl _) (Nat.le_refl _) dX8_board_19
-- WordSquaresModel.isFitting
noncomputable def f_X8_isFitting_J46 (r4 : St → Int32 → Int32 → Option (Int32 × St)) (st : St) (x2 : Int32) (t0 : Int32) : Option (Int32 × St) := lt (x2 + 1) fun w47 => r4 st t0 w47
set_option maxRecDepth 100000 in
theorem f_X8_isFitting_J46_w {r4 : St → Int32 → Int32 → Option (Int32 × St)} {res : (Int32 × St)} (X : Cx V A cX8_isFitting 3 RX8 p m c s args) (hr : meth.sig.returnType = (some .boolean)) (hlk : meth.locks = false) (hr4 : ∀ (st : St) (x1 : Int32) (x2 : Int32) (H : Heap) (locs : List Loc) (ls : Array Slot), r4 st x1 x2 = some res → (WdM V ad A) st H → va_S A s.heap H locs → lv_has ls 3 [(0, .ref (ad 0)), (1, .int x1), (2, .int x2)] → W p l e (rmF 3 67 0 0) s m args below meth c H locs 0 0 (MQ below (Qwi A (WdM V ad A) res.1 res.2) args s 0 0 A) (F0 m 4 ls [])) (st : St) (x2 : Int32) (t0 : Int32) (H : Heap) (locs : List Loc) (ls : Array Slot)  (hf : f_X8_isFitting_J46 r4 st x2 t0 = some res) (hW : (WdM V ad A) st H) (hS : va_S A s.heap H locs) (hl : lv_has ls 3 [(0, .ref (ad 0)), (2, .int x2)]) : W p l e (rmF 3 67 0 0) s m args below meth c H locs 0 0 (MQ below (Qwi A (WdM V ad A) res.1 res.2) args s 0 0 A) (F0 m 46 ls [.int t0]) := by
  
  unfold f_X8_isFitting_J46 at hf
  refine lv_istore_n (lv' := [(1, .int t0), (0, .ref (ad 0)), (2, .int x2)]) X.hx X.hb dX8_isFitting_46 rfl hl (by decide) rfl (fun ls hl => ?_)
  obtain ⟨w47, e47, hf⟩ := lt_e hf
  refine lv_iinc (v := w47) (lv' := [(2, .int w47), (1, .int t0), (0, .ref (ad 0))]) X.hx X.hb dX8_isFitting_47 hl (k := 2) rfl (by rw [e47]; rfl) (by decide) rfl (fun ls hl => ?_)
  refine lv_goto (tgt := 4) X.hx X.hb dX8_isFitting_50 (by decide) ?_
  exact hr4 _ _ _ _ _ _  hf hW hS (lv_sub hl [2, 1, 0] rfl)
noncomputable def f_X8_isFitting_J41 (r4 : St → Int32 → Int32 → Option (Int32 × St)) (st : St) (x2 : Int32) : Option (Int32 × St) := f_X8_isFitting_J46 r4 st x2 1
set_option maxRecDepth 100000 in
theorem f_X8_isFitting_J41_w {r4 : St → Int32 → Int32 → Option (Int32 × St)} {res : (Int32 × St)} (X : Cx V A cX8_isFitting 3 RX8 p m c s args) (hr : meth.sig.returnType = (some .boolean)) (hlk : meth.locks = false) (hr4 : ∀ (st : St) (x1 : Int32) (x2 : Int32) (H : Heap) (locs : List Loc) (ls : Array Slot), r4 st x1 x2 = some res → (WdM V ad A) st H → va_S A s.heap H locs → lv_has ls 3 [(0, .ref (ad 0)), (1, .int x1), (2, .int x2)] → W p l e (rmF 3 67 0 0) s m args below meth c H locs 0 0 (MQ below (Qwi A (WdM V ad A) res.1 res.2) args s 0 0 A) (F0 m 4 ls [])) (st : St) (x2 : Int32) (H : Heap) (locs : List Loc) (ls : Array Slot)  (hf : f_X8_isFitting_J41 r4 st x2 = some res) (hW : (WdM V ad A) st H) (hS : va_S A s.heap H locs) (hl : lv_has ls 3 [(0, .ref (ad 0)), (2, .int x2)]) : W p l e (rmF 3 67 0 0) s m args below meth c H locs 0 0 (MQ below (Qwi A (WdM V ad A) res.1 res.2) args s 0 0 A) (F0 m 41 ls []) := by
  
  unfold f_X8_isFitting_J41 at hf
  refine lv_iconst (v := 1) X.hx X.hb dX8_isFitting_41 (by decide) ?_
  refine lv_goto (tgt := 46) X.hx X.hb dX8_isFitting_42 (by decide) ?_
  exact f_X8_isFitting_J46_w X hr hlk hr4 _ _ _ _ _ _  hf hW hS (lv_sub hl [0, 1] rfl)
noncomputable def f_X8_isFitting_J45 (r4 : St → Int32 → Int32 → Option (Int32 × St)) (st : St) (x2 : Int32) : Option (Int32 × St) := f_X8_isFitting_J46 r4 st x2 0
set_option maxRecDepth 100000 in
theorem f_X8_isFitting_J45_w {r4 : St → Int32 → Int32 → Option (Int32 × St)} {res : (Int32 × St)} (X : Cx V A cX8_isFitting 3 RX8 p m c s args) (hr : meth.sig.returnType = (some .boolean)) (hlk : meth.locks = false) (hr4 : ∀ (st : St) (x1 : Int32) (x2 : Int32) (H : Heap) (locs : List Loc) (ls : Array Slot), r4 st x1 x2 = some res → (WdM V ad A) st H → va_S A s.heap H locs → lv_has ls 3 [(0, .ref (ad 0)), (1, .int x1), (2, .int x2)] → W p l e (rmF 3 67 0 0) s m args below meth c H locs 0 0 (MQ below (Qwi A (WdM V ad A) res.1 res.2) args s 0 0 A) (F0 m 4 ls [])) (st : St) (x2 : Int32) (H : Heap) (locs : List Loc) (ls : Array Slot)  (hf : f_X8_isFitting_J45 r4 st x2 = some res) (hW : (WdM V ad A) st H) (hS : va_S A s.heap H locs) (hl : lv_has ls 3 [(0, .ref (ad 0)), (2, .int x2)]) : W p l e (rmF 3 67 0 0) s m args below meth c H locs 0 0 (MQ below (Qwi A (WdM V ad A) res.1 res.2) args s 0 0 A) (F0 m 45 ls []) := by
  
  unfold f_X8_isFitting_J45 at hf
  refine lv_iconst (v := 0) X.hx X.hb dX8_isFitting_45 (by decide) ?_
  exact f_X8_isFitting_J46_w X hr hlk hr4 _ _ _ _ _ _  hf hW hS (lv_sub hl [0, 1] rfl)
noncomputable def f_X8_isFitting_J68 (st : St) : Option (Int32 × St) := some (0, st)
set_option maxRecDepth 100000 in
theorem f_X8_isFitting_J68_w {res : (Int32 × St)} (X : Cx V A cX8_isFitting 3 RX8 p m c s args) (hr : meth.sig.returnType = (some .boolean)) (hlk : meth.locks = false)  (st : St) (H : Heap) (locs : List Loc) (ls : Array Slot)  (hf : f_X8_isFitting_J68 st = some res) (hW : (WdM V ad A) st H) (hS : va_S A s.heap H locs) (hl : lv_has ls 3 []) : W p l e (rmF 3 67 0 0) s m args below meth c H locs 0 0 (MQ below (Qwi A (WdM V ad A) res.1 res.2) args s 0 0 A) (F0 m 68 ls []) := by
  
  unfold f_X8_isFitting_J68 at hf
  refine lv_iconst (v := 0) X.hx X.hb dX8_isFitting_68 (by decide) ?_
  exact rt_z X hr hlk (by rw [← Option.some.inj hf]; exact hW) hS (Or.inl rfl) (by rw [← Option.some.inj hf]) (Nat.le_refl _) (Nat.le_refl _) dX8_isFitting_69
noncomputable def f_X8_isFitting_L4 : Nat → St → Int32 → Int32 → Option (Int32 × St)
  | 0, _, _, _ => none
  | fu + 1, st, x1, x2 => if (st.1 0) ≤ x2 then if x1 = 0 then f_X8_isFitting_J68 st else (f_X8_isSquare st).bind fun b58 => if b58.1 = 0 then f_X8_isFitting_J68 b58.2 else some (1, b58.2) else if x1 = 0 then f_X8_isFitting_J45 ((f_X8_isFitting_L4 fu)) st x2 else if inb x2 4 = true then if (st.2.1 3 x2.toNatClampNeg) = (-1) then f_X8_isFitting_J41 ((f_X8_isFitting_L4 fu)) st x2 else if inb x2 4 = true then if inb x2 4 = true then if (st.2.1 3 x2.toNatClampNeg) = (st.2.1 6 x2.toNatClampNeg) then f_X8_isFitting_J41 ((f_X8_isFitting_L4 fu)) st x2 else f_X8_isFitting_J45 ((f_X8_isFitting_L4 fu)) st x2 else none else none else none
set_option maxRecDepth 100000 in
theorem f_X8_isFitting_L4_w {res : (Int32 × St)} (X : Cx V A cX8_isFitting 3 RX8 p m c s args) (hr : meth.sig.returnType = (some .boolean)) (hlk : meth.locks = false)  : ∀ (n9 : Nat) (st : St) (x1 : Int32) (x2 : Int32) (H : Heap) (locs : List Loc) (ls : Array Slot), f_X8_isFitting_L4 n9 st x1 x2 = some res → (WdM V ad A) st H → va_S A s.heap H locs → lv_has ls 3 [(0, .ref (ad 0)), (1, .int x1), (2, .int x2)] → W p l e (rmF 3 67 0 0) s m args below meth c H locs 0 0 (MQ below (Qwi A (WdM V ad A) res.1 res.2) args s 0 0 A) (F0 m 4 ls []) := by
  intro n9
  induction n9 with
  | zero =>
    intro st x1 x2 H locs ls hf
    exact absurd hf (by unfold f_X8_isFitting_L4; exact fun h => by cases h)
  | succ n9 hr4 =>
    intro st x1 x2 H locs ls hf hW hS hl
    
    unfold f_X8_isFitting_L4 at hf
    refine lv_iload_n X.hx X.hb dX8_isFitting_4 rfl (lv_at hl 2 rfl) ?_
    refine lv_aload_n X.hx X.hb dX8_isFitting_5 rfl (lv_at hl 0 rfl) ?_
    refine gX8_length X hW dX8_isFitting_6 ?_
    refine lv_icmp_ge (tgt := 53) X.hx X.hb dX8_isFitting_9 (by decide) (fun c9 => ?_) (fun c9 => ?_)
    · replace hf := ite_t c9 hf
      refine lv_iload_n X.hx X.hb dX8_isFitting_53 rfl (lv_at hl 1 rfl) ?_
      refine lv_if_eq (tgt := 68) X.hx X.hb dX8_isFitting_54 (by decide) (fun c54 => ?_) (fun c54 => ?_)
      · replace hf := ite_t c54 hf
        exact f_X8_isFitting_J68_w X hr hlk _ _ _ _  hf hW hS (lv_sub hl [] rfl)
      · replace hf := ite_f c54 hf
        refine lv_aload_n X.hx X.hb dX8_isFitting_57 rfl (lv_at hl 0 rfl) ?_
        obtain ⟨b58, h58, hf⟩ := bnd hf
        refine cl_i (run_V (As := []) (rest := []) X (w_X8_isSquare l V A ad h58) mw_X8_isSquare ln_X8_162 (rcX8 X hW) hW hS rfl hl.1 rfl (Nat.le_of_ble_eq_true rfl) ⟨Nat.le_of_ble_eq_true rfl, Nat.le_of_ble_eq_true rfl⟩ ⟨Nat.le_refl _, Nat.le_refl _⟩ dX8_isFitting_58) hS (fun H locs hW hS => ?_)
        refine lv_if_eq (tgt := 68) X.hx X.hb dX8_isFitting_61 (by decide) (fun c61 => ?_) (fun c61 => ?_)
        · replace hf := ite_t c61 hf
          exact f_X8_isFitting_J68_w X hr hlk _ _ _ _  hf hW hS (lv_sub hl [] rfl)
        · replace hf := ite_f c61 hf
          refine lv_iconst (v := 1) X.hx X.hb dX8_isFitting_64 (by decide) ?_
          refine lv_goto (tgt := 69) X.hx X.hb dX8_isFitting_65 (by decide) ?_
          exact rt_z X hr hlk (by rw [← Option.some.inj hf]; exact hW) hS (Or.inr rfl) (by rw [← Option.some.inj hf]) (Nat.le_refl _) (Nat.le_refl _) dX8_isFitting_69
    · replace hf := ite_f c9 hf
      refine lv_iload_n X.hx X.hb dX8_isFitting_12 rfl (lv_at hl 1 rfl) ?_
      refine lv_if_eq (tgt := 45) X.hx X.hb dX8_isFitting_13 (by decide) (fun c13 => ?_) (fun c13 => ?_)
      · replace hf := ite_t c13 hf
        exact f_X8_isFitting_J45_w X hr hlk hr4 _ _ _ _ _  hf hW hS (lv_sub hl [0, 2] rfl)
      · replace hf := ite_f c13 hf
        refine lv_aload_n X.hx X.hb dX8_isFitting_16 rfl (lv_at hl 0 rfl) ?_
        refine gX8_laid X hW dX8_isFitting_17 ?_
        refine lv_iload_n X.hx X.hb dX8_isFitting_20 rfl (lv_at hl 2 rfl) ?_
        obtain ⟨h21, hf⟩ := ite_n hf
        refine aM_ld X hW isM_3 rfl h21 dX8_isFitting_21 ?_
        refine lv_iconst (v := (-1)) X.hx X.hb dX8_isFitting_22 (by decide) ?_
        refine lv_icmp_eq (tgt := 41) X.hx X.hb dX8_isFitting_23 (by decide) (fun c23 => ?_) (fun c23 => ?_)
        · replace hf := ite_t c23 hf
          exact f_X8_isFitting_J41_w X hr hlk hr4 _ _ _ _ _  hf hW hS (lv_sub hl [0, 2] rfl)
        · replace hf := ite_f c23 hf
          refine lv_aload_n X.hx X.hb dX8_isFitting_26 rfl (lv_at hl 0 rfl) ?_
          refine gX8_laid X hW dX8_isFitting_27 ?_
          refine lv_iload_n X.hx X.hb dX8_isFitting_30 rfl (lv_at hl 2 rfl) ?_
          obtain ⟨h31, hf⟩ := ite_n hf
          refine aM_ld X hW isM_3 rfl h31 dX8_isFitting_31 ?_
          refine lv_aload_n X.hx X.hb dX8_isFitting_32 rfl (lv_at hl 0 rfl) ?_
          refine gX8_rowWord X hW dX8_isFitting_33 ?_
          refine lv_iload_n X.hx X.hb dX8_isFitting_36 rfl (lv_at hl 2 rfl) ?_
          obtain ⟨h37, hf⟩ := ite_n hf
          refine aM_ld X hW isM_6 rfl h37 dX8_isFitting_37 ?_
          refine lv_icmp_ne (tgt := 45) X.hx X.hb dX8_isFitting_38 (by decide) (fun c38 => ?_) (fun c38 => ?_)
          · replace hf := ite_f c38 hf
            exact f_X8_isFitting_J45_w X hr hlk hr4 _ _ _ _ _  hf hW hS (lv_sub hl [0, 2] rfl)
          · replace hf := ite_t c38 hf
            exact f_X8_isFitting_J41_w X hr hlk hr4 _ _ _ _ _  hf hW hS (lv_sub hl [0, 2] rfl)
noncomputable def f_X8_isFitting (st : St) : Option (Int32 × St) := f_X8_isFitting_L4 FU st 1 0
set_option maxRecDepth 100000 in
theorem w_X8_isFitting (l : Launch) (V : Ev) (A : Nat → Prop) (ad : Nat → Nat) {st : St} {res : (Int32 × St)} (hf : f_X8_isFitting st = some res) : Cn l yX8_isFitting cX8_isFitting 3 (some .boolean) 3 67 0 0 V A (WdM V ad A) st [.ref (ad 0)] (Qwi A (WdM V ad A) res.1 res.2) := by
  refine cn_of RX8 (by decide) rfl (fun p e s m below meth c ls X hr hlk hW hS hl => ?_) (Nat.le_of_ble_eq_true rfl)
  have hl : lv_has ls 3 [(0, .ref (ad 0))] := hl
  unfold f_X8_isFitting at hf
  refine lv_iconst (v := 1) X.hx X.hb dX8_isFitting_0 (by decide) ?_
  refine lv_istore_n (lv' := [(1, .int 1), (0, .ref (ad 0))]) X.hx X.hb dX8_isFitting_1 rfl hl (by decide) rfl (fun ls hl => ?_)
  refine lv_iconst (v := 0) X.hx X.hb dX8_isFitting_2 (by decide) ?_
  refine lv_istore_n (lv' := [(2, .int 0), (1, .int 1), (0, .ref (ad 0))]) X.hx X.hb dX8_isFitting_3 rfl hl (by decide) rfl (fun ls hl => ?_)
  exact f_X8_isFitting_L4_w X hr hlk FU _ _ _ _ _ _  hf hW hS (lv_sub hl [2, 1, 0] rfl)
-- WordSquaresModel.countFitting
noncomputable def f_X8_countFitting_J84 (r2 : St → Int32 → Option St) (r29 : St → Int32 → Int32 → Option St) (st : St) (x1 : Int32) (x2 : Int32) (t0 : Int32) (t1 : Int32) : Option St := if inb t1 16 = true then lt (sA st 13 t1.toNatClampNeg t0) fun s84 => lt (x2 + 1) fun w85 => r29 s84 x1 w85 else none
set_option maxRecDepth 100000 in
theorem f_X8_countFitting_J84_w {r2 : St → Int32 → Option St} {r29 : St → Int32 → Int32 → Option St} {res : St} (X : Cx V A cX8_countFitting 4 RX8 p m c s args) (hr : meth.sig.returnType = none) (hlk : meth.locks = false) (hr2 : ∀ (st : St) (x1 : Int32) (H : Heap) (locs : List Loc) (ls : Array Slot), r2 st x1 = some res → (WdM V ad A) st H → va_S A s.heap H locs → lv_has ls 4 [(0, .ref (ad 0)), (1, .int x1)] → W p l e (rmF 1 22 0 0) s m args below meth c H locs 0 0 (MQ below (Qwv A (WdM V ad A) res) args s 0 0 A) (F0 m 2 ls [])) (hr29 : ∀ (st : St) (x1 : Int32) (x2 : Int32) (H : Heap) (locs : List Loc) (ls : Array Slot), r29 st x1 x2 = some res → (WdM V ad A) st H → va_S A s.heap H locs → lv_has ls 4 [(0, .ref (ad 0)), (1, .int x1), (2, .int x2)] → W p l e (rmF 1 22 0 0) s m args below meth c H locs 0 0 (MQ below (Qwv A (WdM V ad A) res) args s 0 0 A) (F0 m 29 ls [])) (st : St) (x1 : Int32) (x2 : Int32) (t0 : Int32) (t1 : Int32) (H : Heap) (locs : List Loc) (ls : Array Slot)  (hf : f_X8_countFitting_J84 r2 r29 st x1 x2 t0 t1 = some res) (hW : (WdM V ad A) st H) (hS : va_S A s.heap H locs) (hl : lv_has ls 4 [(0, .ref (ad 0)), (1, .int x1), (2, .int x2)]) : W p l e (rmF 1 22 0 0) s m args below meth c H locs 0 0 (MQ below (Qwv A (WdM V ad A) res) args s 0 0 A) (F0 m 84 ls [.int t0, .int t1, .ref (ad 13)]) := by
  
  unfold f_X8_countFitting_J84 at hf
  obtain ⟨h84, hf⟩ := ite_n hf
  obtain ⟨s84, e84, hf⟩ := lt_e hf
  refine aM_st X hW hS isM_13 rfl h84 dX8_countFitting_84 (fun H locs hW hS => ?_)
  rw [← e84] at hW
  obtain ⟨w85, e85, hf⟩ := lt_e hf
  refine lv_iinc (v := w85) (lv' := [(2, .int w85), (0, .ref (ad 0)), (1, .int x1)]) X.hx X.hb dX8_countFitting_85 hl (k := 2) rfl (by rw [e85]; rfl) (by decide) rfl (fun ls hl => ?_)
  refine lv_goto (tgt := 29) X.hx X.hb dX8_countFitting_88 (by decide) ?_
  exact hr29 _ _ _ _ _ _  hf hW hS (lv_sub hl [1, 2, 0] rfl)
noncomputable def f_X8_countFitting_J79 (r2 : St → Int32 → Option St) (r29 : St → Int32 → Int32 → Option St) (st : St) (x1 : Int32) (x2 : Int32) (x3 : Int32) (t0 : Int32) : Option St := f_X8_countFitting_J84 r2 r29 st x1 x2 x3 t0
set_option maxRecDepth 100000 in
theorem f_X8_countFitting_J79_w {r2 : St → Int32 → Option St} {r29 : St → Int32 → Int32 → Option St} {res : St} (X : Cx V A cX8_countFitting 4 RX8 p m c s args) (hr : meth.sig.returnType = none) (hlk : meth.locks = false) (hr2 : ∀ (st : St) (x1 : Int32) (H : Heap) (locs : List Loc) (ls : Array Slot), r2 st x1 = some res → (WdM V ad A) st H → va_S A s.heap H locs → lv_has ls 4 [(0, .ref (ad 0)), (1, .int x1)] → W p l e (rmF 1 22 0 0) s m args below meth c H locs 0 0 (MQ below (Qwv A (WdM V ad A) res) args s 0 0 A) (F0 m 2 ls [])) (hr29 : ∀ (st : St) (x1 : Int32) (x2 : Int32) (H : Heap) (locs : List Loc) (ls : Array Slot), r29 st x1 x2 = some res → (WdM V ad A) st H → va_S A s.heap H locs → lv_has ls 4 [(0, .ref (ad 0)), (1, .int x1), (2, .int x2)] → W p l e (rmF 1 22 0 0) s m args below meth c H locs 0 0 (MQ below (Qwv A (WdM V ad A) res) args s 0 0 A) (F0 m 29 ls [])) (st : St) (x1 : Int32) (x2 : Int32) (x3 : Int32) (t0 : Int32) (H : Heap) (locs : List Loc) (ls : Array Slot)  (hf : f_X8_countFitting_J79 r2 r29 st x1 x2 x3 t0 = some res) (hW : (WdM V ad A) st H) (hS : va_S A s.heap H locs) (hl : lv_has ls 4 [(0, .ref (ad 0)), (1, .int x1), (2, .int x2), (3, .int x3)]) : W p l e (rmF 1 22 0 0) s m args below meth c H locs 0 0 (MQ below (Qwv A (WdM V ad A) res) args s 0 0 A) (F0 m 79 ls [.int t0, .ref (ad 13)]) := by
  
  unfold f_X8_countFitting_J79 at hf
  refine lv_iload_n X.hx X.hb dX8_countFitting_79 rfl (lv_at hl 3 rfl) ?_
  refine lv_goto (tgt := 84) X.hx X.hb dX8_countFitting_80 (by decide) ?_
  exact f_X8_countFitting_J84_w X hr hlk hr2 hr29 _ _ _ _ _ _ _ _  hf hW hS (lv_sub hl [0, 1, 2] rfl)
noncomputable def f_X8_countFitting_L29 (r2 : St → Int32 → Option St) : Nat → St → Int32 → Int32 → Option St
  | 0, _, _, _ => none
  | fu + 1, st, x1, x2 => if (st.1 0) ≤ x2 then lt (x1 + 1) fun w91 => r2 st w91 else if inb x1 4 = true then (f_X8_at st (st.2.1 6 x1.toNatClampNeg) x2).bind fun b45 => if (st.1 8) = 0 then f_X8_countFitting_J79 r2 ((f_X8_countFitting_L29 r2 fu)) st x1 x2 b45 ((4 * x1) + x2) else if inb ((4 * x1) + x2) 16 = true then if (st.2.1 13 ((4 * x1) + x2).toNatClampNeg) = b45 then f_X8_countFitting_J79 r2 ((f_X8_countFitting_L29 r2 fu)) st x1 x2 b45 ((4 * x1) + x2) else f_X8_countFitting_J84 r2 ((f_X8_countFitting_L29 r2 fu)) st x1 x2 0 ((4 * x1) + x2) else none else none
set_option maxRecDepth 100000 in
theorem f_X8_countFitting_L29_w {r2 : St → Int32 → Option St} {res : St} (X : Cx V A cX8_countFitting 4 RX8 p m c s args) (hr : meth.sig.returnType = none) (hlk : meth.locks = false) (hr2 : ∀ (st : St) (x1 : Int32) (H : Heap) (locs : List Loc) (ls : Array Slot), r2 st x1 = some res → (WdM V ad A) st H → va_S A s.heap H locs → lv_has ls 4 [(0, .ref (ad 0)), (1, .int x1)] → W p l e (rmF 1 22 0 0) s m args below meth c H locs 0 0 (MQ below (Qwv A (WdM V ad A) res) args s 0 0 A) (F0 m 2 ls [])) : ∀ (n9 : Nat) (st : St) (x1 : Int32) (x2 : Int32) (H : Heap) (locs : List Loc) (ls : Array Slot), f_X8_countFitting_L29 r2 n9 st x1 x2 = some res → (WdM V ad A) st H → va_S A s.heap H locs → lv_has ls 4 [(0, .ref (ad 0)), (1, .int x1), (2, .int x2)] → W p l e (rmF 1 22 0 0) s m args below meth c H locs 0 0 (MQ below (Qwv A (WdM V ad A) res) args s 0 0 A) (F0 m 29 ls []) := by
  intro n9
  induction n9 with
  | zero =>
    intro st x1 x2 H locs ls hf
    exact absurd hf (by unfold f_X8_countFitting_L29; exact fun h => by cases h)
  | succ n9 hr29 =>
    intro st x1 x2 H locs ls hf hW hS hl
    
    unfold f_X8_countFitting_L29 at hf
    refine lv_iload_n X.hx X.hb dX8_countFitting_29 rfl (lv_at hl 2 rfl) ?_
    refine lv_aload_n X.hx X.hb dX8_countFitting_30 rfl (lv_at hl 0 rfl) ?_
    refine gX8_length X hW dX8_countFitting_31 ?_
    refine lv_icmp_ge (tgt := 91) X.hx X.hb dX8_countFitting_34 (by decide) (fun c34 => ?_) (fun c34 => ?_)
    · replace hf := ite_t c34 hf
      obtain ⟨w91, e91, hf⟩ := lt_e hf
      refine lv_iinc (v := w91) (lv' := [(1, .int w91), (0, .ref (ad 0)), (2, .int x2)]) X.hx X.hb dX8_countFitting_91 hl (k := 1) rfl (by rw [e91]; rfl) (by decide) rfl (fun ls hl => ?_)
      refine lv_goto (tgt := 2) X.hx X.hb dX8_countFitting_94 (by decide) ?_
      exact hr2 _ _ _ _ _  hf hW hS (lv_sub hl [1, 0] rfl)
    · replace hf := ite_f c34 hf
      refine lv_aload_n X.hx X.hb dX8_countFitting_37 rfl (lv_at hl 0 rfl) ?_
      refine lv_aload_n X.hx X.hb dX8_countFitting_38 rfl (lv_at hl 0 rfl) ?_
      refine gX8_rowWord X hW dX8_countFitting_39 ?_
      refine lv_iload_n X.hx X.hb dX8_countFitting_42 rfl (lv_at hl 1 rfl) ?_
      obtain ⟨h43, hf⟩ := ite_n hf
      refine aM_ld X hW isM_6 rfl h43 dX8_countFitting_43 ?_
      refine lv_iload_n X.hx X.hb dX8_countFitting_44 rfl (lv_at hl 2 rfl) ?_
      obtain ⟨b45, h45, hf⟩ := bnd hf
      refine cl_i (run_V (As := [.int (st.2.1 6 x1.toNatClampNeg), .int x2]) (rest := []) X (w_X8_at l V A ad h45) mw_X8_at ln_X8_130 (rcX8 X hW) hW hS rfl hl.1 rfl (Nat.le_of_ble_eq_true rfl) ⟨Nat.le_of_ble_eq_true rfl, Nat.le_of_ble_eq_true rfl⟩ ⟨Nat.le_refl _, Nat.le_refl _⟩ dX8_countFitting_45) hS (fun H locs hW hS => ?_)
      refine lv_istore_n (lv' := [(3, .int b45), (0, .ref (ad 0)), (1, .int x1), (2, .int x2)]) X.hx X.hb dX8_countFitting_48 rfl hl (by decide) rfl (fun ls hl => ?_)
      refine lv_aload_n X.hx X.hb dX8_countFitting_49 rfl (lv_at hl 1 rfl) ?_
      refine gX8_sureOf X hW dX8_countFitting_50 ?_
      refine lv_iconst (v := 4) X.hx X.hb dX8_countFitting_53 (by decide) ?_
      refine lv_iload_n X.hx X.hb dX8_countFitting_54 rfl (lv_at hl 2 rfl) ?_
      refine lv_imul X.hx X.hb dX8_countFitting_55 ?_
      refine lv_iload_n X.hx X.hb dX8_countFitting_56 rfl (lv_at hl 3 rfl) ?_
      refine lv_iadd X.hx X.hb dX8_countFitting_57 ?_
      refine lv_aload_n X.hx X.hb dX8_countFitting_58 rfl (lv_at hl 1 rfl) ?_
      refine gX8_fitting X hW dX8_countFitting_59 ?_
      refine lv_if_eq (tgt := 79) X.hx X.hb dX8_countFitting_62 (by decide) (fun c62 => ?_) (fun c62 => ?_)
      · replace hf := ite_t c62 hf
        exact f_X8_countFitting_J79_w X hr hlk hr2 hr29 _ _ _ _ _ _ _ _  hf hW hS (lv_sub hl [1, 2, 3, 0] rfl)
      · replace hf := ite_f c62 hf
        refine lv_aload_n X.hx X.hb dX8_countFitting_65 rfl (lv_at hl 1 rfl) ?_
        refine gX8_sureOf X hW dX8_countFitting_66 ?_
        refine lv_iconst (v := 4) X.hx X.hb dX8_countFitting_69 (by decide) ?_
        refine lv_iload_n X.hx X.hb dX8_countFitting_70 rfl (lv_at hl 2 rfl) ?_
        refine lv_imul X.hx X.hb dX8_countFitting_71 ?_
        refine lv_iload_n X.hx X.hb dX8_countFitting_72 rfl (lv_at hl 3 rfl) ?_
        refine lv_iadd X.hx X.hb dX8_countFitting_73 ?_
        obtain ⟨h74, hf⟩ := ite_n hf
        refine aM_ld X hW isM_13 rfl h74 dX8_countFitting_74 ?_
        refine lv_iload_n X.hx X.hb dX8_countFitting_75 rfl (lv_at hl 0 rfl) ?_
        refine lv_icmp_ne (tgt := 83) X.hx X.hb dX8_countFitting_76 (by decide) (fun c76 => ?_) (fun c76 => ?_)
        · replace hf := ite_f c76 hf
          refine lv_iconst (v := 0) X.hx X.hb dX8_countFitting_83 (by decide) ?_
          exact f_X8_countFitting_J84_w X hr hlk hr2 hr29 _ _ _ _ _ _ _ _  hf hW hS (lv_sub hl [1, 2, 3] rfl)
        · replace hf := ite_t c76 hf
          exact f_X8_countFitting_J79_w X hr hlk hr2 hr29 _ _ _ _ _ _ _ _  hf hW hS (lv_sub hl [1, 2, 3, 0] rfl)
noncomputable def f_X8_countFitting_L2 : Nat → St → Int32 → Option St
  | 0, _, _ => none
  | fu + 1, st, x1 => if (st.1 0) ≤ x1 then lt (sI st 8 ((st.1 8) + 1)) fun s104 => some s104 else if inb x1 4 = true then if inb x1 4 = true then if inb x1 4 = true then lt (sA st 12 x1.toNatClampNeg ((st.2.1 12 x1.toNatClampNeg) ||| (1 <<< ((st.2.1 6 x1.toNatClampNeg) &&& 31)))) fun s26 => f_X8_countFitting_L29 ((f_X8_countFitting_L2 fu)) FU s26 x1 0 else none else none else none
set_option maxRecDepth 100000 in
theorem f_X8_countFitting_L2_w {res : St} (X : Cx V A cX8_countFitting 4 RX8 p m c s args) (hr : meth.sig.returnType = none) (hlk : meth.locks = false)  : ∀ (n9 : Nat) (st : St) (x1 : Int32) (H : Heap) (locs : List Loc) (ls : Array Slot), f_X8_countFitting_L2 n9 st x1 = some res → (WdM V ad A) st H → va_S A s.heap H locs → lv_has ls 4 [(0, .ref (ad 0)), (1, .int x1)] → W p l e (rmF 1 22 0 0) s m args below meth c H locs 0 0 (MQ below (Qwv A (WdM V ad A) res) args s 0 0 A) (F0 m 2 ls []) := by
  intro n9
  induction n9 with
  | zero =>
    intro st x1 H locs ls hf
    exact absurd hf (by unfold f_X8_countFitting_L2; exact fun h => by cases h)
  | succ n9 hr2 =>
    intro st x1 H locs ls hf hW hS hl
    
    unfold f_X8_countFitting_L2 at hf
    refine lv_iload_n X.hx X.hb dX8_countFitting_2 rfl (lv_at hl 1 rfl) ?_
    refine lv_aload_n X.hx X.hb dX8_countFitting_3 rfl (lv_at hl 0 rfl) ?_
    refine gX8_length X hW dX8_countFitting_4 ?_
    refine lv_icmp_ge (tgt := 97) X.hx X.hb dX8_countFitting_7 (by decide) (fun c7 => ?_) (fun c7 => ?_)
    · replace hf := ite_t c7 hf
      refine lv_aload_n X.hx X.hb dX8_countFitting_97 rfl (lv_at hl 0 rfl) ?_
      refine lv_dup X.hx X.hb dX8_countFitting_98 rfl ?_
      refine gX8_fitting X hW dX8_countFitting_99 ?_
      refine lv_iconst (v := 1) X.hx X.hb dX8_countFitting_102 (by decide) ?_
      refine lv_iadd X.hx X.hb dX8_countFitting_103 ?_
      obtain ⟨s104, e104, hf⟩ := lt_e hf
      refine pX8_fitting X hW hS dX8_countFitting_104 (fun H locs hW hS => ?_)
      rw [← e104] at hW
      exact rt_v X hr hlk (by rw [← Option.some.inj hf]; exact hW) hS (Nat.le_refl _) (Nat.le_refl _) dX8_countFitting_107
    · replace hf := ite_f c7 hf
      refine lv_aload_n X.hx X.hb dX8_countFitting_10 rfl (lv_at hl 0 rfl) ?_
      refine gX8_mayBe X hW dX8_countFitting_11 ?_
      refine lv_iload_n X.hx X.hb dX8_countFitting_14 rfl (lv_at hl 1 rfl) ?_
      refine lv_dup2_11 X.hx X.hb dX8_countFitting_15 rfl rfl ?_
      obtain ⟨h16, hf⟩ := ite_n hf
      refine aM_ld X hW isM_12 rfl h16 dX8_countFitting_16 ?_
      refine lv_iconst (v := 1) X.hx X.hb dX8_countFitting_17 (by decide) ?_
      refine lv_aload_n X.hx X.hb dX8_countFitting_18 rfl (lv_at hl 0 rfl) ?_
      refine gX8_rowWord X hW dX8_countFitting_19 ?_
      refine lv_iload_n X.hx X.hb dX8_countFitting_22 rfl (lv_at hl 1 rfl) ?_
      obtain ⟨h23, hf⟩ := ite_n hf
      refine aM_ld X hW isM_6 rfl h23 dX8_countFitting_23 ?_
      refine lv_ishl X.hx X.hb dX8_countFitting_24 ?_
      refine lv_ior X.hx X.hb dX8_countFitting_25 ?_
      obtain ⟨h26, hf⟩ := ite_n hf
      obtain ⟨s26, e26, hf⟩ := lt_e hf
      refine aM_st X hW hS isM_12 rfl h26 dX8_countFitting_26 (fun H locs hW hS => ?_)
      rw [← e26] at hW
      refine lv_iconst (v := 0) X.hx X.hb dX8_countFitting_27 (by decide) ?_
      refine lv_istore_n (lv' := [(2, .int 0), (0, .ref (ad 0)), (1, .int x1)]) X.hx X.hb dX8_countFitting_28 rfl hl (by decide) rfl (fun ls hl => ?_)
      exact f_X8_countFitting_L29_w X hr hlk hr2 FU _ _ _ _ _ _  hf hW hS (lv_sub hl [1, 2, 0] rfl)
noncomputable def f_X8_countFitting (st : St) : Option St := f_X8_countFitting_L2 FU st 0
set_option maxRecDepth 100000 in
theorem w_X8_countFitting (l : Launch) (V : Ev) (A : Nat → Prop) (ad : Nat → Nat) {st : St} {res : St} (hf : f_X8_countFitting st = some res) : Cn l yX8_countFitting cX8_countFitting 4 none 1 22 0 0 V A (WdM V ad A) st [.ref (ad 0)] (Qwv A (WdM V ad A) res) := by
  refine cn_of RX8 (by decide) rfl (fun p e s m below meth c ls X hr hlk hW hS hl => ?_) (Nat.le_of_ble_eq_true rfl)
  have hl : lv_has ls 4 [(0, .ref (ad 0))] := hl
  unfold f_X8_countFitting at hf
  refine lv_iconst (v := 0) X.hx X.hb dX8_countFitting_0 (by decide) ?_
  refine lv_istore_n (lv' := [(1, .int 0), (0, .ref (ad 0))]) X.hx X.hb dX8_countFitting_1 rfl hl (by decide) rfl (fun ls hl => ?_)
  exact f_X8_countFitting_L2_w X hr hlk FU _ _ _ _ _  hf hW hS (lv_sub hl [1, 0] rfl)
-- WordSquaresModel.layFitting
noncomputable def f_X8_layFitting_J57 (r42 : St → Int32 → Option St) (st : St) : Option St := (f_X8_next st).bind fun b58 => r42 b58.2 b58.1
set_option maxRecDepth 100000 in
theorem f_X8_layFitting_J57_w {r42 : St → Int32 → Option St} {res : St} (X : Cx V A cX8_layFitting 2 RX8 p m c s args) (hr : meth.sig.returnType = none) (hlk : meth.locks = false) (hr42 : ∀ (st : St) (x1 : Int32) (H : Heap) (locs : List Loc) (ls : Array Slot), r42 st x1 = some res → (WdM V ad A) st H → va_S A s.heap H locs → lv_has ls 2 [(0, .ref (ad 0)), (1, .int x1)] → W p l e (rmF 4 89 0 0) s m args below meth c H locs 0 0 (MQ below (Qwv A (WdM V ad A) res) args s 0 0 A) (F0 m 42 ls [])) (st : St) (H : Heap) (locs : List Loc) (ls : Array Slot)  (hf : f_X8_layFitting_J57 r42 st = some res) (hW : (WdM V ad A) st H) (hS : va_S A s.heap H locs) (hl : lv_has ls 2 [(0, .ref (ad 0))]) : W p l e (rmF 4 89 0 0) s m args below meth c H locs 0 0 (MQ below (Qwv A (WdM V ad A) res) args s 0 0 A) (F0 m 57 ls []) := by
  
  unfold f_X8_layFitting_J57 at hf
  refine lv_aload_n X.hx X.hb dX8_layFitting_57 rfl (lv_at hl 0 rfl) ?_
  obtain ⟨b58, h58, hf⟩ := bnd hf
  refine cl_i (run_V (As := []) (rest := []) X (w_X8_next l V A ad h58) mw_X8_next ln_X8_177 (rcX8 X hW) hW hS rfl hl.1 rfl (Nat.le_of_ble_eq_true rfl) ⟨Nat.le_of_ble_eq_true rfl, Nat.le_of_ble_eq_true rfl⟩ ⟨Nat.le_refl _, Nat.le_refl _⟩ dX8_layFitting_58) hS (fun H locs hW hS => ?_)
  refine lv_istore_n (lv' := [(1, .int b58.1), (0, .ref (ad 0))]) X.hx X.hb dX8_layFitting_61 rfl hl (by decide) rfl (fun ls hl => ?_)
  refine lv_goto (tgt := 42) X.hx X.hb dX8_layFitting_62 (by decide) ?_
  exact hr42 _ _ _ _ _  hf hW hS (lv_sub hl [1, 0] rfl)
noncomputable def f_X8_layFitting_L42 : Nat → St → Int32 → Option St
  | 0, _, _ => none
  | fu + 1, st, x1 => if x1 = 0 then some st else (f_X8_isFitting st).bind fun b47 => if b47.1 = 0 then f_X8_layFitting_J57 ((f_X8_layFitting_L42 fu)) b47.2 else (f_X8_countFitting b47.2).bind fun b54 => f_X8_layFitting_J57 ((f_X8_layFitting_L42 fu)) b54
set_option maxRecDepth 100000 in
theorem f_X8_layFitting_L42_w {res : St} (X : Cx V A cX8_layFitting 2 RX8 p m c s args) (hr : meth.sig.returnType = none) (hlk : meth.locks = false)  : ∀ (n9 : Nat) (st : St) (x1 : Int32) (H : Heap) (locs : List Loc) (ls : Array Slot), f_X8_layFitting_L42 n9 st x1 = some res → (WdM V ad A) st H → va_S A s.heap H locs → lv_has ls 2 [(0, .ref (ad 0)), (1, .int x1)] → W p l e (rmF 4 89 0 0) s m args below meth c H locs 0 0 (MQ below (Qwv A (WdM V ad A) res) args s 0 0 A) (F0 m 42 ls []) := by
  intro n9
  induction n9 with
  | zero =>
    intro st x1 H locs ls hf
    exact absurd hf (by unfold f_X8_layFitting_L42; exact fun h => by cases h)
  | succ n9 hr42 =>
    intro st x1 H locs ls hf hW hS hl
    
    unfold f_X8_layFitting_L42 at hf
    refine lv_iload_n X.hx X.hb dX8_layFitting_42 rfl (lv_at hl 1 rfl) ?_
    refine lv_if_eq (tgt := 65) X.hx X.hb dX8_layFitting_43 (by decide) (fun c43 => ?_) (fun c43 => ?_)
    · replace hf := ite_t c43 hf
      exact rt_v X hr hlk (by rw [← Option.some.inj hf]; exact hW) hS (Nat.le_refl _) (Nat.le_refl _) dX8_layFitting_65
    · replace hf := ite_f c43 hf
      refine lv_aload_n X.hx X.hb dX8_layFitting_46 rfl (lv_at hl 0 rfl) ?_
      obtain ⟨b47, h47, hf⟩ := bnd hf
      refine cl_i (run_V (As := []) (rest := []) X (w_X8_isFitting l V A ad h47) mw_X8_isFitting ln_X8_213 (rcX8 X hW) hW hS rfl hl.1 rfl (Nat.le_of_ble_eq_true rfl) ⟨Nat.le_of_ble_eq_true rfl, Nat.le_of_ble_eq_true rfl⟩ ⟨Nat.le_refl _, Nat.le_refl _⟩ dX8_layFitting_47) hS (fun H locs hW hS => ?_)
      refine lv_if_eq (tgt := 57) X.hx X.hb dX8_layFitting_50 (by decide) (fun c50 => ?_) (fun c50 => ?_)
      · replace hf := ite_t c50 hf
        exact f_X8_layFitting_J57_w X hr hlk hr42 _ _ _ _  hf hW hS (lv_sub hl [0] rfl)
      · replace hf := ite_f c50 hf
        refine lv_aload_n X.hx X.hb dX8_layFitting_53 rfl (lv_at hl 0 rfl) ?_
        obtain ⟨b54, h54, hf⟩ := bnd hf
        refine cl_v (run_V (As := []) (rest := []) X (w_X8_countFitting l V A ad h54) mw_X8_countFitting ln_X8_216 (rcX8 X hW) hW hS rfl hl.1 rfl (Nat.le_of_ble_eq_true rfl) ⟨Nat.le_of_ble_eq_true rfl, Nat.le_of_ble_eq_true rfl⟩ ⟨Nat.le_refl _, Nat.le_refl _⟩ dX8_layFitting_54) hS (fun H locs hW hS => ?_)
        exact f_X8_layFitting_J57_w X hr hlk hr42 _ _ _ _  hf hW hS (lv_sub hl [0] rfl)
noncomputable def f_X8_layFitting_J41 (st : St) (t0 : Int32) : Option St := f_X8_layFitting_L42 FU st t0
set_option maxRecDepth 100000 in
theorem f_X8_layFitting_J41_w {res : St} (X : Cx V A cX8_layFitting 2 RX8 p m c s args) (hr : meth.sig.returnType = none) (hlk : meth.locks = false)  (st : St) (t0 : Int32) (H : Heap) (locs : List Loc) (ls : Array Slot)  (hf : f_X8_layFitting_J41 st t0 = some res) (hW : (WdM V ad A) st H) (hS : va_S A s.heap H locs) (hl : lv_has ls 2 [(0, .ref (ad 0))]) : W p l e (rmF 4 89 0 0) s m args below meth c H locs 0 0 (MQ below (Qwv A (WdM V ad A) res) args s 0 0 A) (F0 m 41 ls [.int t0]) := by
  
  unfold f_X8_layFitting_J41 at hf
  refine lv_istore_n (lv' := [(1, .int t0), (0, .ref (ad 0))]) X.hx X.hb dX8_layFitting_41 rfl hl (by decide) rfl (fun ls hl => ?_)
  exact f_X8_layFitting_L42_w X hr hlk FU _ _ _ _ _  hf hW hS (lv_sub hl [1, 0] rfl)
noncomputable def f_X8_layFitting_L7 : Nat → St → Int32 → Option St
  | 0, _, _ => none
  | fu + 1, st, x1 => if 4 ≤ x1 then (f_X8_begin st).bind fun b26 => if (b26.1 1) ≤ 0 then f_X8_layFitting_J41 b26 0 else f_X8_layFitting_J41 b26 1 else if inb x1 4 = true then lt (sA st 12 x1.toNatClampNeg 0) fun s18 => lt (x1 + 1) fun w19 => (f_X8_layFitting_L7 fu) s18 w19 else none
set_option maxRecDepth 100000 in
theorem f_X8_layFitting_L7_w {res : St} (X : Cx V A cX8_layFitting 2 RX8 p m c s args) (hr : meth.sig.returnType = none) (hlk : meth.locks = false)  : ∀ (n9 : Nat) (st : St) (x1 : Int32) (H : Heap) (locs : List Loc) (ls : Array Slot), f_X8_layFitting_L7 n9 st x1 = some res → (WdM V ad A) st H → va_S A s.heap H locs → lv_has ls 2 [(0, .ref (ad 0)), (1, .int x1)] → W p l e (rmF 4 89 0 0) s m args below meth c H locs 0 0 (MQ below (Qwv A (WdM V ad A) res) args s 0 0 A) (F0 m 7 ls []) := by
  intro n9
  induction n9 with
  | zero =>
    intro st x1 H locs ls hf
    exact absurd hf (by unfold f_X8_layFitting_L7; exact fun h => by cases h)
  | succ n9 hr7 =>
    intro st x1 H locs ls hf hW hS hl
    
    unfold f_X8_layFitting_L7 at hf
    refine lv_iload_n X.hx X.hb dX8_layFitting_7 rfl (lv_at hl 1 rfl) ?_
    refine lv_iconst (v := 4) X.hx X.hb dX8_layFitting_8 (by decide) ?_
    refine lv_icmp_ge (tgt := 25) X.hx X.hb dX8_layFitting_9 (by decide) (fun c9 => ?_) (fun c9 => ?_)
    · replace hf := ite_t c9 hf
      refine lv_aload_n X.hx X.hb dX8_layFitting_25 rfl (lv_at hl 0 rfl) ?_
      obtain ⟨b26, h26, hf⟩ := bnd hf
      refine cl_v (run_V (As := []) (rest := []) X (w_X8_begin l V A ad h26) mw_X8_begin ln_X8_171 (rcX8 X hW) hW hS rfl hl.1 rfl (Nat.le_of_ble_eq_true rfl) ⟨Nat.le_of_ble_eq_true rfl, Nat.le_of_ble_eq_true rfl⟩ ⟨Nat.le_refl _, Nat.le_refl _⟩ dX8_layFitting_26) hS (fun H locs hW hS => ?_)
      refine lv_aload_n X.hx X.hb dX8_layFitting_29 rfl (lv_at hl 0 rfl) ?_
      refine gX8_words X hW dX8_layFitting_30 ?_
      refine lv_if_le (tgt := 40) X.hx X.hb dX8_layFitting_33 (by decide) (fun c33 => ?_) (fun c33 => ?_)
      · replace hf := ite_t c33 hf
        refine lv_iconst (v := 0) X.hx X.hb dX8_layFitting_40 (by decide) ?_
        exact f_X8_layFitting_J41_w X hr hlk _ _ _ _ _  hf hW hS (lv_sub hl [0] rfl)
      · replace hf := ite_f c33 hf
        refine lv_iconst (v := 1) X.hx X.hb dX8_layFitting_36 (by decide) ?_
        refine lv_goto (tgt := 41) X.hx X.hb dX8_layFitting_37 (by decide) ?_
        exact f_X8_layFitting_J41_w X hr hlk _ _ _ _ _  hf hW hS (lv_sub hl [0] rfl)
    · replace hf := ite_f c9 hf
      refine lv_aload_n X.hx X.hb dX8_layFitting_12 rfl (lv_at hl 0 rfl) ?_
      refine gX8_mayBe X hW dX8_layFitting_13 ?_
      refine lv_iload_n X.hx X.hb dX8_layFitting_16 rfl (lv_at hl 1 rfl) ?_
      refine lv_iconst (v := 0) X.hx X.hb dX8_layFitting_17 (by decide) ?_
      obtain ⟨h18, hf⟩ := ite_n hf
      obtain ⟨s18, e18, hf⟩ := lt_e hf
      refine aM_st X hW hS isM_12 rfl h18 dX8_layFitting_18 (fun H locs hW hS => ?_)
      rw [← e18] at hW
      obtain ⟨w19, e19, hf⟩ := lt_e hf
      refine lv_iinc (v := w19) (lv' := [(1, .int w19), (0, .ref (ad 0))]) X.hx X.hb dX8_layFitting_19 hl (k := 1) rfl (by rw [e19]; rfl) (by decide) rfl (fun ls hl => ?_)
      refine lv_goto (tgt := 7) X.hx X.hb dX8_layFitting_22 (by decide) ?_
      exact hr7 _ _ _ _ _  hf hW hS (lv_sub hl [1, 0] rfl)
noncomputable def f_X8_layFitting (st : St) : Option St := lt (sI st 8 0) fun s2 => f_X8_layFitting_L7 FU s2 0
set_option maxRecDepth 100000 in
theorem w_X8_layFitting (l : Launch) (V : Ev) (A : Nat → Prop) (ad : Nat → Nat) {st : St} {res : St} (hf : f_X8_layFitting st = some res) : Cn l yX8_layFitting cX8_layFitting 2 none 4 89 0 0 V A (WdM V ad A) st [.ref (ad 0)] (Qwv A (WdM V ad A) res) := by
  refine cn_of RX8 (by decide) rfl (fun p e s m below meth c ls X hr hlk hW hS hl => ?_) (Nat.le_of_ble_eq_true rfl)
  have hl : lv_has ls 2 [(0, .ref (ad 0))] := hl
  unfold f_X8_layFitting at hf
  refine lv_aload_n X.hx X.hb dX8_layFitting_0 rfl (lv_at hl 0 rfl) ?_
  refine lv_iconst (v := 0) X.hx X.hb dX8_layFitting_1 (by decide) ?_
  obtain ⟨s2, e2, hf⟩ := lt_e hf
  refine pX8_fitting X hW hS dX8_layFitting_2 (fun H locs hW hS => ?_)
  rw [← e2] at hW
  refine lv_iconst (v := 0) X.hx X.hb dX8_layFitting_5 (by decide) ?_
  refine lv_istore_n (lv' := [(1, .int 0), (0, .ref (ad 0))]) X.hx X.hb dX8_layFitting_6 rfl hl (by decide) rfl (fun ls hl => ?_)
  exact f_X8_layFitting_L7_w X hr hlk FU _ _ _ _ _  hf hW hS (lv_sub hl [1, 0] rfl)
-- WordSquaresModel.fittingNow
noncomputable def f_X8_fittingNow (st : St) : Option (Int32 × St) := (f_X8_layFitting st).bind fun b1 => some (b1.1 8, b1)
set_option maxRecDepth 100000 in
theorem w_X8_fittingNow (l : Launch) (V : Ev) (A : Nat → Prop) (ad : Nat → Nat) {st : St} {res : (Int32 × St)} (hf : f_X8_fittingNow st = some res) : Cn l yX8_fittingNow cX8_fittingNow 1 (some .int) 5 110 0 0 V A (WdM V ad A) st [.ref (ad 0)] (Qwi A (WdM V ad A) res.1 res.2) := by
  refine cn_of RX8 (by decide) rfl (fun p e s m below meth c ls X hr hlk hW hS hl => ?_) (Nat.le_of_ble_eq_true rfl)
  have hl : lv_has ls 1 [(0, .ref (ad 0))] := hl
  unfold f_X8_fittingNow at hf
  refine lv_aload_n X.hx X.hb dX8_fittingNow_0 rfl (lv_at hl 0 rfl) ?_
  obtain ⟨b1, h1, hf⟩ := bnd hf
  refine cl_v (run_V (As := []) (rest := []) X (w_X8_layFitting l V A ad h1) mw_X8_layFitting ln_X8_219 (rcX8 X hW) hW hS rfl hl.1 rfl (Nat.le_of_ble_eq_true rfl) ⟨Nat.le_of_ble_eq_true rfl, Nat.le_of_ble_eq_true rfl⟩ ⟨Nat.le_refl _, Nat.le_refl _⟩ dX8_fittingNow_1) hS (fun H locs hW hS => ?_)
  refine lv_aload_n X.hx X.hb dX8_fittingNow_4 rfl (lv_at hl 0 rfl) ?_
  refine gX8_fitting X hW dX8_fittingNow_5 ?_
  exact rt_i X hr hlk (by rw [← Option.some.inj hf]; exact hW) hS (by rw [← Option.some.inj hf]) (Nat.le_refl _) (Nat.le_refl _) dX8_fittingNow_8
-- WordSquaresModel.fitting
noncomputable def f_X8_fitting (st : St) : Option (Int32 × St) := (f_X8_fittingNow st).bind fun b1 => some (b1.1, b1.2)
set_option maxRecDepth 100000 in
theorem w_X8_fitting (l : Launch) (V : Ev) (A : Nat → Prop) (ad : Nat → Nat) {st : St} {res : (Int32 × St)} (hf : f_X8_fitting st = some res) : Cn l yX8_fitting cX8_fitting 1 (some .int) 6 130 0 0 V A (WdM V ad A) st [.ref (ad 0)] (Qwi A (WdM V ad A) res.1 res.2) := by
  refine cn_of RX8 (by decide) rfl (fun p e s m below meth c ls X hr hlk hW hS hl => ?_) (Nat.le_of_ble_eq_true rfl)
  have hl : lv_has ls 1 [(0, .ref (ad 0))] := hl
  unfold f_X8_fitting at hf
  refine lv_aload_n X.hx X.hb dX8_fitting_0 rfl (lv_at hl 0 rfl) ?_
  obtain ⟨b1, h1, hf⟩ := bnd hf
  refine cl_i (run_V (As := []) (rest := []) X (w_X8_fittingNow l V A ad h1) mw_X8_fittingNow ln_X8_222 (rcX8 X hW) hW hS rfl hl.1 rfl (Nat.le_of_ble_eq_true rfl) ⟨Nat.le_of_ble_eq_true rfl, Nat.le_of_ble_eq_true rfl⟩ ⟨Nat.le_refl _, Nat.le_refl _⟩ dX8_fitting_1) hS (fun H locs hW hS => ?_)
  exact rt_i X hr hlk (by rw [← Option.some.inj hf]; exact hW) hS (by rw [← Option.some.inj hf]) (Nat.le_refl _) (Nat.le_refl _) dX8_fitting_4
-- WordSquaresModel.mayNow
noncomputable def f_X8_mayNow (st : St) (a1 : Int32) : Option (Int32 × St) := (f_X8_layFitting st).bind fun b1 => if inb a1 4 = true then some (b1.2.1 12 a1.toNatClampNeg, b1) else none
set_option maxRecDepth 100000 in
theorem w_X8_mayNow (l : Launch) (V : Ev) (A : Nat → Prop) (ad : Nat → Nat) {st : St} {a1 : Int32} {res : (Int32 × St)} (hf : f_X8_mayNow st a1 = some res) : Cn l yX8_mayNow cX8_mayNow 2 (some .int) 5 110 0 0 V A (WdM V ad A) st [.ref (ad 0), .int a1] (Qwi A (WdM V ad A) res.1 res.2) := by
  refine cn_of RX8 (by decide) rfl (fun p e s m below meth c ls X hr hlk hW hS hl => ?_) (Nat.le_of_ble_eq_true rfl)
  have hl : lv_has ls 2 [(0, .ref (ad 0)), (1, .int a1)] := hl
  unfold f_X8_mayNow at hf
  refine lv_aload_n X.hx X.hb dX8_mayNow_0 rfl (lv_at hl 0 rfl) ?_
  obtain ⟨b1, h1, hf⟩ := bnd hf
  refine cl_v (run_V (As := []) (rest := []) X (w_X8_layFitting l V A ad h1) mw_X8_layFitting ln_X8_219 (rcX8 X hW) hW hS rfl hl.1 rfl (Nat.le_of_ble_eq_true rfl) ⟨Nat.le_of_ble_eq_true rfl, Nat.le_of_ble_eq_true rfl⟩ ⟨Nat.le_refl _, Nat.le_refl _⟩ dX8_mayNow_1) hS (fun H locs hW hS => ?_)
  refine lv_aload_n X.hx X.hb dX8_mayNow_4 rfl (lv_at hl 0 rfl) ?_
  refine gX8_mayBe X hW dX8_mayNow_5 ?_
  refine lv_iload_n X.hx X.hb dX8_mayNow_8 rfl (lv_at hl 1 rfl) ?_
  obtain ⟨h9, hf⟩ := ite_n hf
  refine aM_ld X hW isM_12 rfl h9 dX8_mayNow_9 ?_
  exact rt_i X hr hlk (by rw [← Option.some.inj hf]; exact hW) hS (by rw [← Option.some.inj hf]) (Nat.le_refl _) (Nat.le_refl _) dX8_mayNow_10
-- WordSquaresModel.may
noncomputable def f_X8_may (st : St) (a1 : Int32) : Option (Int32 × St) := (f_X8_isRow st a1).bind fun b2 => if b2 = 0 then some ((-101), st) else (f_X8_mayNow st a1).bind fun b10 => some (b10.1, b10.2)
set_option maxRecDepth 100000 in
theorem w_X8_may (l : Launch) (V : Ev) (A : Nat → Prop) (ad : Nat → Nat) {st : St} {a1 : Int32} {res : (Int32 × St)} (hf : f_X8_may st a1 = some res) : Cn l yX8_may cX8_may 2 (some .int) 6 131 0 0 V A (WdM V ad A) st [.ref (ad 0), .int a1] (Qwi A (WdM V ad A) res.1 res.2) := by
  refine cn_of RX8 (by decide) rfl (fun p e s m below meth c ls X hr hlk hW hS hl => ?_) (Nat.le_of_ble_eq_true rfl)
  have hl : lv_has ls 2 [(0, .ref (ad 0)), (1, .int a1)] := hl
  unfold f_X8_may at hf
  refine lv_aload_n X.hx X.hb dX8_may_0 rfl (lv_at hl 0 rfl) ?_
  refine lv_iload_n X.hx X.hb dX8_may_1 rfl (lv_at hl 1 rfl) ?_
  obtain ⟨b2, h2, hf⟩ := bnd hf
  refine cl_i (run_V (As := [.int a1]) (rest := []) X (w_X8_isRow l V A ad h2) mw_X8_isRow ln_X8_207 (rcX8 X hW) hW hS rfl hl.1 rfl (Nat.le_of_ble_eq_true rfl) ⟨Nat.le_of_ble_eq_true rfl, Nat.le_of_ble_eq_true rfl⟩ ⟨Nat.le_refl _, Nat.le_refl _⟩ dX8_may_2) hS (fun H locs hW hS => ?_)
  refine lv_if_eq (tgt := 16) X.hx X.hb dX8_may_5 (by decide) (fun c5 => ?_) (fun c5 => ?_)
  · replace hf := ite_t c5 hf
    refine lv_bipush (v := (-101)) X.hx X.hb dX8_may_16 (by decide) ?_
    exact rt_i X hr hlk (by rw [← Option.some.inj hf]; exact hW) hS (by rw [← Option.some.inj hf]) (Nat.le_refl _) (Nat.le_refl _) dX8_may_18
  · replace hf := ite_f c5 hf
    refine lv_aload_n X.hx X.hb dX8_may_8 rfl (lv_at hl 0 rfl) ?_
    refine lv_iload_n X.hx X.hb dX8_may_9 rfl (lv_at hl 1 rfl) ?_
    obtain ⟨b10, h10, hf⟩ := bnd hf
    refine cl_i (run_V (As := [.int a1]) (rest := []) X (w_X8_mayNow l V A ad h10) mw_X8_mayNow ln_X8_225 (rcX8 X hW) hW hS rfl hl.1 rfl (Nat.le_of_ble_eq_true rfl) ⟨Nat.le_of_ble_eq_true rfl, Nat.le_of_ble_eq_true rfl⟩ ⟨Nat.le_refl _, Nat.le_refl _⟩ dX8_may_10) hS (fun H locs hW hS => ?_)
    refine lv_goto (tgt := 18) X.hx X.hb dX8_may_13 (by decide) ?_
    exact rt_i X hr hlk (by rw [← Option.some.inj hf]; exact hW) hS (by rw [← Option.some.inj hf]) (Nat.le_refl _) (Nat.le_refl _) dX8_may_18
-- WordSquaresModel.sureNow
noncomputable def f_X8_sureNow (st : St) (a1 : Int32) (a2 : Int32) : Option Int32 := if inb ((4 * a1) + a2) 16 = true then lt (st.2.1 13 ((4 * a1) + a2).toNatClampNeg) fun w10 => if w10 = 0 then some (-1) else some w10 else none
set_option maxRecDepth 100000 in
theorem w_X8_sureNow (l : Launch) (V : Ev) (A : Nat → Prop) (ad : Nat → Nat) {st : St} {a1 : Int32} {a2 : Int32} {res : Int32} (hf : f_X8_sureNow st a1 a2 = some res) : Cn l yX8_sureNow cX8_sureNow 4 (some .int) 0 0 0 0 V A (WdM V ad A) st [.ref (ad 0), .int a1, .int a2] (Qwi A (WdM V ad A) res st) := by
  refine cn_of RX8 (by decide) rfl (fun p e s m below meth c ls X hr hlk hW hS hl => ?_) (Nat.le_of_ble_eq_true rfl)
  have hl : lv_has ls 4 [(0, .ref (ad 0)), (1, .int a1), (2, .int a2)] := hl
  unfold f_X8_sureNow at hf
  refine lv_aload_n X.hx X.hb dX8_sureNow_0 rfl (lv_at hl 0 rfl) ?_
  refine gX8_sureOf X hW dX8_sureNow_1 ?_
  refine lv_iconst (v := 4) X.hx X.hb dX8_sureNow_4 (by decide) ?_
  refine lv_iload_n X.hx X.hb dX8_sureNow_5 rfl (lv_at hl 1 rfl) ?_
  refine lv_imul X.hx X.hb dX8_sureNow_6 ?_
  refine lv_iload_n X.hx X.hb dX8_sureNow_7 rfl (lv_at hl 2 rfl) ?_
  refine lv_iadd X.hx X.hb dX8_sureNow_8 ?_
  obtain ⟨h9, hf⟩ := ite_n hf
  refine aM_ld X hW isM_13 rfl h9 dX8_sureNow_9 ?_
  obtain ⟨w10, e10, hf⟩ := lt_e hf
  refine lv_nm e10 ?_
  refine lv_istore_n (lv' := [(3, .int w10), (0, .ref (ad 0)), (1, .int a1), (2, .int a2)]) X.hx X.hb dX8_sureNow_10 rfl hl (by decide) rfl (fun ls hl => ?_)
  refine lv_iload_n X.hx X.hb dX8_sureNow_11 rfl (lv_at hl 0 rfl) ?_
  refine lv_if_ne (tgt := 19) X.hx X.hb dX8_sureNow_12 (by decide) (fun c12 => ?_) (fun c12 => ?_)
  · replace hf := ite_f c12 hf
    refine lv_iload_n X.hx X.hb dX8_sureNow_19 rfl (lv_at hl 0 rfl) ?_
    exact rt_i X hr hlk hW hS (Option.some.inj hf) (Nat.le_refl _) (Nat.le_refl _) dX8_sureNow_20
  · replace hf := ite_t c12 hf
    refine lv_iconst (v := (-1)) X.hx X.hb dX8_sureNow_15 (by decide) ?_
    refine lv_goto (tgt := 20) X.hx X.hb dX8_sureNow_16 (by decide) ?_
    exact rt_i X hr hlk hW hS (Option.some.inj hf) (Nat.le_refl _) (Nat.le_refl _) dX8_sureNow_20
-- WordSquaresModel.sure
noncomputable def f_X8_sure_J16 (st : St) : Option (Int32 × St) := some ((-101), st)
set_option maxRecDepth 100000 in
theorem f_X8_sure_J16_w {res : (Int32 × St)} (X : Cx V A cX8_sure 3 RX8 p m c s args) (hr : meth.sig.returnType = (some .int)) (hlk : meth.locks = false)  (st : St) (H : Heap) (locs : List Loc) (ls : Array Slot)  (hf : f_X8_sure_J16 st = some res) (hW : (WdM V ad A) st H) (hS : va_S A s.heap H locs) (hl : lv_has ls 3 []) : W p l e (rmF 5 110 0 0) s m args below meth c H locs 0 0 (MQ below (Qwi A (WdM V ad A) res.1 res.2) args s 0 0 A) (F0 m 16 ls []) := by
  
  unfold f_X8_sure_J16 at hf
  refine lv_bipush (v := (-101)) X.hx X.hb dX8_sure_16 (by decide) ?_
  exact rt_i X hr hlk (by rw [← Option.some.inj hf]; exact hW) hS (by rw [← Option.some.inj hf]) (Nat.le_refl _) (Nat.le_refl _) dX8_sure_18
noncomputable def f_X8_sure (st : St) (a1 : Int32) (a2 : Int32) : Option (Int32 × St) := (f_X8_isRow st a1).bind fun b2 => if b2 = 0 then f_X8_sure_J16 st else (f_X8_isRow st a2).bind fun b10 => if b10 = 0 then f_X8_sure_J16 st else (f_X8_layFitting st).bind fun b20 => if (b20.1 8) = 0 then some ((-103), b20) else (f_X8_sureNow b20 a1 a2).bind fun b38 => some (b38, b20)
set_option maxRecDepth 100000 in
theorem w_X8_sure (l : Launch) (V : Ev) (A : Nat → Prop) (ad : Nat → Nat) {st : St} {a1 : Int32} {a2 : Int32} {res : (Int32 × St)} (hf : f_X8_sure st a1 a2 = some res) : Cn l yX8_sure cX8_sure 3 (some .int) 5 110 0 0 V A (WdM V ad A) st [.ref (ad 0), .int a1, .int a2] (Qwi A (WdM V ad A) res.1 res.2) := by
  refine cn_of RX8 (by decide) rfl (fun p e s m below meth c ls X hr hlk hW hS hl => ?_) (Nat.le_of_ble_eq_true rfl)
  have hl : lv_has ls 3 [(0, .ref (ad 0)), (1, .int a1), (2, .int a2)] := hl
  unfold f_X8_sure at hf
  refine lv_aload_n X.hx X.hb dX8_sure_0 rfl (lv_at hl 0 rfl) ?_
  refine lv_iload_n X.hx X.hb dX8_sure_1 rfl (lv_at hl 1 rfl) ?_
  obtain ⟨b2, h2, hf⟩ := bnd hf
  refine cl_i (run_V (As := [.int a1]) (rest := []) X (w_X8_isRow l V A ad h2) mw_X8_isRow ln_X8_207 (rcX8 X hW) hW hS rfl hl.1 rfl (Nat.le_of_ble_eq_true rfl) ⟨Nat.le_of_ble_eq_true rfl, Nat.le_of_ble_eq_true rfl⟩ ⟨Nat.le_refl _, Nat.le_refl _⟩ dX8_sure_2) hS (fun H locs hW hS => ?_)
  refine lv_if_eq (tgt := 16) X.hx X.hb dX8_sure_5 (by decide) (fun c5 => ?_) (fun c5 => ?_)
  · replace hf := ite_t c5 hf
    exact f_X8_sure_J16_w X hr hlk _ _ _ _  hf hW hS (lv_sub hl [] rfl)
  · replace hf := ite_f c5 hf
    refine lv_aload_n X.hx X.hb dX8_sure_8 rfl (lv_at hl 0 rfl) ?_
    refine lv_iload_n X.hx X.hb dX8_sure_9 rfl (lv_at hl 2 rfl) ?_
    obtain ⟨b10, h10, hf⟩ := bnd hf
    refine cl_i (run_V (As := [.int a2]) (rest := []) X (w_X8_isRow l V A ad h10) mw_X8_isRow ln_X8_207 (rcX8 X hW) hW hS rfl hl.1 rfl (Nat.le_of_ble_eq_true rfl) ⟨Nat.le_of_ble_eq_true rfl, Nat.le_of_ble_eq_true rfl⟩ ⟨Nat.le_refl _, Nat.le_refl _⟩ dX8_sure_10) hS (fun H locs hW hS => ?_)
    refine lv_if_ne (tgt := 19) X.hx X.hb dX8_sure_13 (by decide) (fun c13 => ?_) (fun c13 => ?_)
    · replace hf := ite_f c13 hf
      refine lv_aload_n X.hx X.hb dX8_sure_19 rfl (lv_at hl 0 rfl) ?_
      obtain ⟨b20, h20, hf⟩ := bnd hf
      refine cl_v (run_V (As := []) (rest := []) X (w_X8_layFitting l V A ad h20) mw_X8_layFitting ln_X8_219 (rcX8 X hW) hW hS rfl hl.1 rfl (Nat.le_of_ble_eq_true rfl) ⟨Nat.le_of_ble_eq_true rfl, Nat.le_of_ble_eq_true rfl⟩ ⟨Nat.le_refl _, Nat.le_refl _⟩ dX8_sure_20) hS (fun H locs hW hS => ?_)
      refine lv_aload_n X.hx X.hb dX8_sure_23 rfl (lv_at hl 0 rfl) ?_
      refine gX8_fitting X hW dX8_sure_24 ?_
      refine lv_if_ne (tgt := 35) X.hx X.hb dX8_sure_27 (by decide) (fun c27 => ?_) (fun c27 => ?_)
      · replace hf := ite_f c27 hf
        refine lv_aload_n X.hx X.hb dX8_sure_35 rfl (lv_at hl 0 rfl) ?_
        refine lv_iload_n X.hx X.hb dX8_sure_36 rfl (lv_at hl 1 rfl) ?_
        refine lv_iload_n X.hx X.hb dX8_sure_37 rfl (lv_at hl 2 rfl) ?_
        obtain ⟨b38, h38, hf⟩ := bnd hf
        refine cl_i (run_V (As := [.int a1, .int a2]) (rest := []) X (w_X8_sureNow l V A ad h38) mw_X8_sureNow ln_X8_228 (rcX8 X hW) hW hS rfl hl.1 rfl (Nat.le_of_ble_eq_true rfl) ⟨Nat.le_of_ble_eq_true rfl, Nat.le_of_ble_eq_true rfl⟩ ⟨Nat.le_refl _, Nat.le_refl _⟩ dX8_sure_38) hS (fun H locs hW hS => ?_)
        exact rt_i X hr hlk (by rw [← Option.some.inj hf]; exact hW) hS (by rw [← Option.some.inj hf]) (Nat.le_refl _) (Nat.le_refl _) dX8_sure_41
      · replace hf := ite_t c27 hf
        refine lv_bipush (v := (-103)) X.hx X.hb dX8_sure_30 (by decide) ?_
        refine lv_goto (tgt := 41) X.hx X.hb dX8_sure_32 (by decide) ?_
        exact rt_i X hr hlk (by rw [← Option.some.inj hf]; exact hW) hS (by rw [← Option.some.inj hf]) (Nat.le_refl _) (Nat.le_refl _) dX8_sure_41
    · replace hf := ite_t c13 hf
      exact f_X8_sure_J16_w X hr hlk _ _ _ _  hf hW hS (lv_sub hl [] rfl)
-- WordSquaresModel.beginOfColumn
noncomputable def f_X8_beginOfColumn_J54 (st : St) (r2 : Int32 → Int32 → Int32 → Option Int32) (r16 : Int32 → Int32 → Int32 → Int32 → Int32 → Option Int32) (x1 : Int32) (x2 : Int32) (x3 : Int32) (x5 : Int32) (t0 : Int32) : Option Int32 := lt (x5 + 1) fun w56 => r16 x1 x2 x3 t0 w56
set_option maxRecDepth 100000 in
theorem f_X8_beginOfColumn_J54_w {st : St} {r2 : Int32 → Int32 → Int32 → Option Int32} {r16 : Int32 → Int32 → Int32 → Int32 → Int32 → Option Int32} {res : Int32} (X : Cx V A cX8_beginOfColumn 6 RX8 p m c s args) (hr : meth.sig.returnType = (some .int)) (hlk : meth.locks = false) (hr2 : ∀ (x1 : Int32) (x2 : Int32) (x3 : Int32) (H : Heap) (locs : List Loc) (ls : Array Slot), r2 x1 x2 x3 = some res → (WdM V ad A) st H → va_S A s.heap H locs → lv_has ls 6 [(0, .ref (ad 0)), (1, .int x1), (2, .int x2), (3, .int x3)] → W p l e (rmF 1 22 0 0) s m args below meth c H locs 0 0 (MQ below (Qwi A (WdM V ad A) res st) args s 0 0 A) (F0 m 2 ls [])) (hr16 : ∀ (x1 : Int32) (x2 : Int32) (x3 : Int32) (x4 : Int32) (x5 : Int32) (H : Heap) (locs : List Loc) (ls : Array Slot), r16 x1 x2 x3 x4 x5 = some res → (WdM V ad A) st H → va_S A s.heap H locs → lv_has ls 6 [(0, .ref (ad 0)), (1, .int x1), (2, .int x2), (3, .int x3), (4, .int x4), (5, .int x5)] → W p l e (rmF 1 22 0 0) s m args below meth c H locs 0 0 (MQ below (Qwi A (WdM V ad A) res st) args s 0 0 A) (F0 m 16 ls [])) (x1 : Int32) (x2 : Int32) (x3 : Int32) (x5 : Int32) (t0 : Int32) (H : Heap) (locs : List Loc) (ls : Array Slot)  (hf : f_X8_beginOfColumn_J54 st r2 r16 x1 x2 x3 x5 t0 = some res) (hW : (WdM V ad A) st H) (hS : va_S A s.heap H locs) (hl : lv_has ls 6 [(0, .ref (ad 0)), (1, .int x1), (2, .int x2), (3, .int x3), (5, .int x5)]) : W p l e (rmF 1 22 0 0) s m args below meth c H locs 0 0 (MQ below (Qwi A (WdM V ad A) res st) args s 0 0 A) (F0 m 54 ls [.int t0]) := by
  
  unfold f_X8_beginOfColumn_J54 at hf
  refine lv_istore (lv' := [(4, .int t0), (0, .ref (ad 0)), (1, .int x1), (2, .int x2), (3, .int x3), (5, .int x5)]) X.hx X.hb dX8_beginOfColumn_54 hl (by decide) rfl (fun ls hl => ?_)
  obtain ⟨w56, e56, hf⟩ := lt_e hf
  refine lv_iinc (v := w56) (lv' := [(5, .int w56), (4, .int t0), (0, .ref (ad 0)), (1, .int x1), (2, .int x2), (3, .int x3)]) X.hx X.hb dX8_beginOfColumn_56 hl (k := 5) rfl (by rw [e56]; rfl) (by decide) rfl (fun ls hl => ?_)
  refine lv_goto (tgt := 16) X.hx X.hb dX8_beginOfColumn_59 (by decide) ?_
  exact hr16 _ _ _ _ _ _ _ _  hf hW hS (lv_sub hl [2, 3, 4, 5, 1, 0] rfl)
noncomputable def f_X8_beginOfColumn_J62 (st : St) (r2 : Int32 → Int32 → Int32 → Option Int32) (x1 : Int32) (x2 : Int32) (x3 : Int32) (x4 : Int32) : Option Int32 := if x4 = 0 then lt (x3 + 1) fun w69 => r2 x1 x2 w69 else some x3
set_option maxRecDepth 100000 in
theorem f_X8_beginOfColumn_J62_w {st : St} {r2 : Int32 → Int32 → Int32 → Option Int32} {res : Int32} (X : Cx V A cX8_beginOfColumn 6 RX8 p m c s args) (hr : meth.sig.returnType = (some .int)) (hlk : meth.locks = false) (hr2 : ∀ (x1 : Int32) (x2 : Int32) (x3 : Int32) (H : Heap) (locs : List Loc) (ls : Array Slot), r2 x1 x2 x3 = some res → (WdM V ad A) st H → va_S A s.heap H locs → lv_has ls 6 [(0, .ref (ad 0)), (1, .int x1), (2, .int x2), (3, .int x3)] → W p l e (rmF 1 22 0 0) s m args below meth c H locs 0 0 (MQ below (Qwi A (WdM V ad A) res st) args s 0 0 A) (F0 m 2 ls [])) (x1 : Int32) (x2 : Int32) (x3 : Int32) (x4 : Int32) (H : Heap) (locs : List Loc) (ls : Array Slot)  (hf : f_X8_beginOfColumn_J62 st r2 x1 x2 x3 x4 = some res) (hW : (WdM V ad A) st H) (hS : va_S A s.heap H locs) (hl : lv_has ls 6 [(0, .ref (ad 0)), (1, .int x1), (2, .int x2), (3, .int x3), (4, .int x4)]) : W p l e (rmF 1 22 0 0) s m args below meth c H locs 0 0 (MQ below (Qwi A (WdM V ad A) res st) args s 0 0 A) (F0 m 62 ls []) := by
  
  unfold f_X8_beginOfColumn_J62 at hf
  refine lv_iload X.hx X.hb dX8_beginOfColumn_62 (lv_at hl 4 rfl) ?_
  refine lv_if_eq (tgt := 69) X.hx X.hb dX8_beginOfColumn_64 (by decide) (fun c64 => ?_) (fun c64 => ?_)
  · replace hf := ite_t c64 hf
    obtain ⟨w69, e69, hf⟩ := lt_e hf
    refine lv_iinc (v := w69) (lv' := [(3, .int w69), (0, .ref (ad 0)), (1, .int x1), (2, .int x2), (4, .int x4)]) X.hx X.hb dX8_beginOfColumn_69 hl (k := 3) rfl (by rw [e69]; rfl) (by decide) rfl (fun ls hl => ?_)
    refine lv_goto (tgt := 2) X.hx X.hb dX8_beginOfColumn_72 (by decide) ?_
    exact hr2 _ _ _ _ _ _  hf hW hS (lv_sub hl [1, 2, 3, 0] rfl)
  · replace hf := ite_f c64 hf
    refine lv_iload_n X.hx X.hb dX8_beginOfColumn_67 rfl (lv_at hl 3 rfl) ?_
    exact rt_i X hr hlk hW hS (Option.some.inj hf) (Nat.le_refl _) (Nat.le_refl _) dX8_beginOfColumn_68
noncomputable def f_X8_beginOfColumn_L16 (st : St) (r2 : Int32 → Int32 → Int32 → Option Int32) : Nat → Int32 → Int32 → Int32 → Int32 → Int32 → Option Int32
  | 0, _, _, _, _, _ => none
  | fu + 1, x1, x2, x3, x4, x5 => if x2 ≤ x5 then f_X8_beginOfColumn_J62 st r2 x1 x2 x3 x4 else if x4 = 0 then f_X8_beginOfColumn_J62 st r2 x1 x2 x3 x4 else if inb x5 4 = true then (f_X8_at st (st.2.1 6 x5.toNatClampNeg) x1).bind fun b36 => (f_X8_at st x3 x5).bind fun b43 => if b36 = b43 then f_X8_beginOfColumn_J54 st r2 ((f_X8_beginOfColumn_L16 st r2 fu)) x1 x2 x3 x5 1 else f_X8_beginOfColumn_J54 st r2 ((f_X8_beginOfColumn_L16 st r2 fu)) x1 x2 x3 x5 0 else none
set_option maxRecDepth 100000 in
theorem f_X8_beginOfColumn_L16_w {st : St} {r2 : Int32 → Int32 → Int32 → Option Int32} {res : Int32} (X : Cx V A cX8_beginOfColumn 6 RX8 p m c s args) (hr : meth.sig.returnType = (some .int)) (hlk : meth.locks = false) (hr2 : ∀ (x1 : Int32) (x2 : Int32) (x3 : Int32) (H : Heap) (locs : List Loc) (ls : Array Slot), r2 x1 x2 x3 = some res → (WdM V ad A) st H → va_S A s.heap H locs → lv_has ls 6 [(0, .ref (ad 0)), (1, .int x1), (2, .int x2), (3, .int x3)] → W p l e (rmF 1 22 0 0) s m args below meth c H locs 0 0 (MQ below (Qwi A (WdM V ad A) res st) args s 0 0 A) (F0 m 2 ls [])) : ∀ (n9 : Nat) (x1 : Int32) (x2 : Int32) (x3 : Int32) (x4 : Int32) (x5 : Int32) (H : Heap) (locs : List Loc) (ls : Array Slot), f_X8_beginOfColumn_L16 st r2 n9 x1 x2 x3 x4 x5 = some res → (WdM V ad A) st H → va_S A s.heap H locs → lv_has ls 6 [(0, .ref (ad 0)), (1, .int x1), (2, .int x2), (3, .int x3), (4, .int x4), (5, .int x5)] → W p l e (rmF 1 22 0 0) s m args below meth c H locs 0 0 (MQ below (Qwi A (WdM V ad A) res st) args s 0 0 A) (F0 m 16 ls []) := by
  intro n9
  induction n9 with
  | zero =>
    intro x1 x2 x3 x4 x5 H locs ls hf
    exact absurd hf (by unfold f_X8_beginOfColumn_L16; exact fun h => by cases h)
  | succ n9 hr16 =>
    intro x1 x2 x3 x4 x5 H locs ls hf hW hS hl
    
    unfold f_X8_beginOfColumn_L16 at hf
    refine lv_iload X.hx X.hb dX8_beginOfColumn_16 (lv_at hl 5 rfl) ?_
    refine lv_iload_n X.hx X.hb dX8_beginOfColumn_18 rfl (lv_at hl 2 rfl) ?_
    refine lv_icmp_ge (tgt := 62) X.hx X.hb dX8_beginOfColumn_19 (by decide) (fun c19 => ?_) (fun c19 => ?_)
    · replace hf := ite_t c19 hf
      exact f_X8_beginOfColumn_J62_w X hr hlk hr2 _ _ _ _ _ _ _  hf hW hS (lv_sub hl [0, 1, 2, 3, 4] rfl)
    · replace hf := ite_f c19 hf
      refine lv_iload X.hx X.hb dX8_beginOfColumn_22 (lv_at hl 4 rfl) ?_
      refine lv_if_eq (tgt := 62) X.hx X.hb dX8_beginOfColumn_24 (by decide) (fun c24 => ?_) (fun c24 => ?_)
      · replace hf := ite_t c24 hf
        exact f_X8_beginOfColumn_J62_w X hr hlk hr2 _ _ _ _ _ _ _  hf hW hS (lv_sub hl [0, 1, 2, 3, 4] rfl)
      · replace hf := ite_f c24 hf
        refine lv_aload_n X.hx X.hb dX8_beginOfColumn_27 rfl (lv_at hl 0 rfl) ?_
        refine lv_aload_n X.hx X.hb dX8_beginOfColumn_28 rfl (lv_at hl 0 rfl) ?_
        refine gX8_rowWord X hW dX8_beginOfColumn_29 ?_
        refine lv_iload X.hx X.hb dX8_beginOfColumn_32 (lv_at hl 5 rfl) ?_
        obtain ⟨h34, hf⟩ := ite_n hf
        refine aM_ld X hW isM_6 rfl h34 dX8_beginOfColumn_34 ?_
        refine lv_iload_n X.hx X.hb dX8_beginOfColumn_35 rfl (lv_at hl 1 rfl) ?_
        obtain ⟨b36, h36, hf⟩ := bnd hf
        refine cl_i (run_V (As := [.int (st.2.1 6 x5.toNatClampNeg), .int x1]) (rest := []) X (w_X8_at l V A ad h36) mw_X8_at ln_X8_130 (rcX8 X hW) hW hS rfl hl.1 rfl (Nat.le_of_ble_eq_true rfl) ⟨Nat.le_of_ble_eq_true rfl, Nat.le_of_ble_eq_true rfl⟩ ⟨Nat.le_refl _, Nat.le_refl _⟩ dX8_beginOfColumn_36) hS (fun H locs hW hS => ?_)
        refine lv_aload_n X.hx X.hb dX8_beginOfColumn_39 rfl (lv_at hl 0 rfl) ?_
        refine lv_iload_n X.hx X.hb dX8_beginOfColumn_40 rfl (lv_at hl 3 rfl) ?_
        refine lv_iload X.hx X.hb dX8_beginOfColumn_41 (lv_at hl 5 rfl) ?_
        obtain ⟨b43, h43, hf⟩ := bnd hf
        refine cl_i (run_V (As := [.int x3, .int x5]) (rest := [.int b36]) X (w_X8_at l V A ad h43) mw_X8_at ln_X8_130 (rcX8 X hW) hW hS rfl hl.1 rfl (Nat.le_of_ble_eq_true rfl) ⟨Nat.le_of_ble_eq_true rfl, Nat.le_of_ble_eq_true rfl⟩ ⟨Nat.le_refl _, Nat.le_refl _⟩ dX8_beginOfColumn_43) hS (fun H locs hW hS => ?_)
        refine lv_icmp_ne (tgt := 53) X.hx X.hb dX8_beginOfColumn_46 (by decide) (fun c46 => ?_) (fun c46 => ?_)
        · replace hf := ite_f c46 hf
          refine lv_iconst (v := 0) X.hx X.hb dX8_beginOfColumn_53 (by decide) ?_
          exact f_X8_beginOfColumn_J54_w X hr hlk hr2 hr16 _ _ _ _ _ _ _ _  hf hW hS (lv_sub hl [0, 1, 2, 3, 5] rfl)
        · replace hf := ite_t c46 hf
          refine lv_iconst (v := 1) X.hx X.hb dX8_beginOfColumn_49 (by decide) ?_
          refine lv_goto (tgt := 54) X.hx X.hb dX8_beginOfColumn_50 (by decide) ?_
          exact f_X8_beginOfColumn_J54_w X hr hlk hr2 hr16 _ _ _ _ _ _ _ _  hf hW hS (lv_sub hl [0, 1, 2, 3, 5] rfl)
noncomputable def f_X8_beginOfColumn_L2 (st : St) : Nat → Int32 → Int32 → Int32 → Option Int32
  | 0, _, _, _ => none
  | fu + 1, x1, x2, x3 => if (st.1 1) ≤ x3 then some (-1) else f_X8_beginOfColumn_L16 st ((f_X8_beginOfColumn_L2 st fu)) FU x1 x2 x3 1 0
set_option maxRecDepth 100000 in
theorem f_X8_beginOfColumn_L2_w {st : St} {res : Int32} (X : Cx V A cX8_beginOfColumn 6 RX8 p m c s args) (hr : meth.sig.returnType = (some .int)) (hlk : meth.locks = false)  : ∀ (n9 : Nat) (x1 : Int32) (x2 : Int32) (x3 : Int32) (H : Heap) (locs : List Loc) (ls : Array Slot), f_X8_beginOfColumn_L2 st n9 x1 x2 x3 = some res → (WdM V ad A) st H → va_S A s.heap H locs → lv_has ls 6 [(0, .ref (ad 0)), (1, .int x1), (2, .int x2), (3, .int x3)] → W p l e (rmF 1 22 0 0) s m args below meth c H locs 0 0 (MQ below (Qwi A (WdM V ad A) res st) args s 0 0 A) (F0 m 2 ls []) := by
  intro n9
  induction n9 with
  | zero =>
    intro x1 x2 x3 H locs ls hf
    exact absurd hf (by unfold f_X8_beginOfColumn_L2; exact fun h => by cases h)
  | succ n9 hr2 =>
    intro x1 x2 x3 H locs ls hf hW hS hl
    
    unfold f_X8_beginOfColumn_L2 at hf
    refine lv_iload_n X.hx X.hb dX8_beginOfColumn_2 rfl (lv_at hl 3 rfl) ?_
    refine lv_aload_n X.hx X.hb dX8_beginOfColumn_3 rfl (lv_at hl 0 rfl) ?_
    refine gX8_words X hW dX8_beginOfColumn_4 ?_
    refine lv_icmp_ge (tgt := 75) X.hx X.hb dX8_beginOfColumn_7 (by decide) (fun c7 => ?_) (fun c7 => ?_)
    · replace hf := ite_t c7 hf
      refine lv_iconst (v := (-1)) X.hx X.hb dX8_beginOfColumn_75 (by decide) ?_
      exact rt_i X hr hlk hW hS (Option.some.inj hf) (Nat.le_refl _) (Nat.le_refl _) dX8_beginOfColumn_76
    · replace hf := ite_f c7 hf
      refine lv_iconst (v := 1) X.hx X.hb dX8_beginOfColumn_10 (by decide) ?_
      refine lv_istore (lv' := [(4, .int 1), (0, .ref (ad 0)), (1, .int x1), (2, .int x2), (3, .int x3)]) X.hx X.hb dX8_beginOfColumn_11 hl (by decide) rfl (fun ls hl => ?_)
      refine lv_iconst (v := 0) X.hx X.hb dX8_beginOfColumn_13 (by decide) ?_
      refine lv_istore (lv' := [(5, .int 0), (4, .int 1), (0, .ref (ad 0)), (1, .int x1), (2, .int x2), (3, .int x3)]) X.hx X.hb dX8_beginOfColumn_14 hl (by decide) rfl (fun ls hl => ?_)
      exact f_X8_beginOfColumn_L16_w X hr hlk hr2 FU _ _ _ _ _ _ _ _  hf hW hS (lv_sub hl [2, 3, 4, 5, 1, 0] rfl)
noncomputable def f_X8_beginOfColumn (st : St) (a1 : Int32) (a2 : Int32) : Option Int32 := f_X8_beginOfColumn_L2 st FU a1 a2 0
set_option maxRecDepth 100000 in
theorem w_X8_beginOfColumn (l : Launch) (V : Ev) (A : Nat → Prop) (ad : Nat → Nat) {st : St} {a1 : Int32} {a2 : Int32} {res : Int32} (hf : f_X8_beginOfColumn st a1 a2 = some res) : Cn l yX8_beginOfColumn cX8_beginOfColumn 6 (some .int) 1 22 0 0 V A (WdM V ad A) st [.ref (ad 0), .int a1, .int a2] (Qwi A (WdM V ad A) res st) := by
  refine cn_of RX8 (by decide) rfl (fun p e s m below meth c ls X hr hlk hW hS hl => ?_) (Nat.le_of_ble_eq_true rfl)
  have hl : lv_has ls 6 [(0, .ref (ad 0)), (1, .int a1), (2, .int a2)] := hl
  unfold f_X8_beginOfColumn at hf
  refine lv_iconst (v := 0) X.hx X.hb dX8_beginOfColumn_0 (by decide) ?_
  refine lv_istore_n (lv' := [(3, .int 0), (0, .ref (ad 0)), (1, .int a1), (2, .int a2)]) X.hx X.hb dX8_beginOfColumn_1 rfl hl (by decide) rfl (fun ls hl => ?_)
  exact f_X8_beginOfColumn_L2_w X hr hlk FU _ _ _ _ _ _  hf hW hS (lv_sub hl [1, 2, 3, 0] rfl)
-- WordSquaresModel.isState
noncomputable def f_X8_isState_J43 (r4 : St → Int32 → Int32 → Int32 → Option (Int32 × St)) (st : St) (x1 : Int32) (x3 : Int32) (t0 : Int32) : Option (Int32 × St) := lt (x3 + 1) fun w44 => r4 st x1 t0 w44
set_option maxRecDepth 100000 in
theorem f_X8_isState_J43_w {r4 : St → Int32 → Int32 → Int32 → Option (Int32 × St)} {res : (Int32 × St)} (X : Cx V A cX8_isState 4 RX8 p m c s args) (hr : meth.sig.returnType = (some .boolean)) (hlk : meth.locks = false) (hr4 : ∀ (st : St) (x1 : Int32) (x2 : Int32) (x3 : Int32) (H : Heap) (locs : List Loc) (ls : Array Slot), r4 st x1 x2 x3 = some res → (WdM V ad A) st H → va_S A s.heap H locs → lv_has ls 4 [(0, .ref (ad 0)), (1, .int x1), (2, .int x2), (3, .int x3)] → W p l e (rmF 2 47 0 0) s m args below meth c H locs 0 0 (MQ below (Qwi A (WdM V ad A) res.1 res.2) args s 0 0 A) (F0 m 4 ls [])) (st : St) (x1 : Int32) (x3 : Int32) (t0 : Int32) (H : Heap) (locs : List Loc) (ls : Array Slot)  (hf : f_X8_isState_J43 r4 st x1 x3 t0 = some res) (hW : (WdM V ad A) st H) (hS : va_S A s.heap H locs) (hl : lv_has ls 4 [(0, .ref (ad 0)), (1, .int x1), (3, .int x3)]) : W p l e (rmF 2 47 0 0) s m args below meth c H locs 0 0 (MQ below (Qwi A (WdM V ad A) res.1 res.2) args s 0 0 A) (F0 m 43 ls [.int t0]) := by
  
  unfold f_X8_isState_J43 at hf
  refine lv_istore_n (lv' := [(2, .int t0), (0, .ref (ad 0)), (1, .int x1), (3, .int x3)]) X.hx X.hb dX8_isState_43 rfl hl (by decide) rfl (fun ls hl => ?_)
  obtain ⟨w44, e44, hf⟩ := lt_e hf
  refine lv_iinc (v := w44) (lv' := [(3, .int w44), (2, .int t0), (0, .ref (ad 0)), (1, .int x1)]) X.hx X.hb dX8_isState_44 hl (k := 3) rfl (by rw [e44]; rfl) (by decide) rfl (fun ls hl => ?_)
  refine lv_goto (tgt := 4) X.hx X.hb dX8_isState_47 (by decide) ?_
  exact hr4 _ _ _ _ _ _ _  hf hW hS (lv_sub hl [2, 3, 1, 0] rfl)
noncomputable def f_X8_isState_J50 (st : St) (x2 : Int32) : Option (Int32 × St) := if x2 = 0 ∨ x2 = 1 then some (x2, st) else none
set_option maxRecDepth 100000 in
theorem f_X8_isState_J50_w {res : (Int32 × St)} (X : Cx V A cX8_isState 4 RX8 p m c s args) (hr : meth.sig.returnType = (some .boolean)) (hlk : meth.locks = false)  (st : St) (x2 : Int32) (H : Heap) (locs : List Loc) (ls : Array Slot)  (hf : f_X8_isState_J50 st x2 = some res) (hW : (WdM V ad A) st H) (hS : va_S A s.heap H locs) (hl : lv_has ls 4 [(2, .int x2)]) : W p l e (rmF 2 47 0 0) s m args below meth c H locs 0 0 (MQ below (Qwi A (WdM V ad A) res.1 res.2) args s 0 0 A) (F0 m 50 ls []) := by
  
  unfold f_X8_isState_J50 at hf
  refine lv_iload_n X.hx X.hb dX8_isState_50 rfl (lv_at hl 0 rfl) ?_
  obtain ⟨h51, hf⟩ := ite_n hf
  exact rt_z X hr hlk (by rw [← Option.some.inj hf]; exact hW) hS h51 (by rw [← Option.some.inj hf]) (Nat.le_refl _) (Nat.le_refl _) dX8_isState_51
noncomputable def f_X8_isState_L4 : Nat → St → Int32 → Int32 → Int32 → Option (Int32 × St)
  | 0, _, _, _, _ => none
  | fu + 1, st, x1, x2, x3 => if (st.1 0) ≤ x3 then f_X8_isState_J50 st x2 else if x2 = 0 then f_X8_isState_J50 st x2 else (f_X8_beginOfColumn st x3 x1).bind fun b24 => if inb x3 4 = true then lt (sA st 16 x3.toNatClampNeg b24) fun s27 => if inb x3 4 = true then if (s27.2.1 16 x3.toNatClampNeg) = (-1) then f_X8_isState_J43 ((f_X8_isState_L4 fu)) s27 x1 x3 0 else f_X8_isState_J43 ((f_X8_isState_L4 fu)) s27 x1 x3 1 else none else none
set_option maxRecDepth 100000 in
theorem f_X8_isState_L4_w {res : (Int32 × St)} (X : Cx V A cX8_isState 4 RX8 p m c s args) (hr : meth.sig.returnType = (some .boolean)) (hlk : meth.locks = false)  : ∀ (n9 : Nat) (st : St) (x1 : Int32) (x2 : Int32) (x3 : Int32) (H : Heap) (locs : List Loc) (ls : Array Slot), f_X8_isState_L4 n9 st x1 x2 x3 = some res → (WdM V ad A) st H → va_S A s.heap H locs → lv_has ls 4 [(0, .ref (ad 0)), (1, .int x1), (2, .int x2), (3, .int x3)] → W p l e (rmF 2 47 0 0) s m args below meth c H locs 0 0 (MQ below (Qwi A (WdM V ad A) res.1 res.2) args s 0 0 A) (F0 m 4 ls []) := by
  intro n9
  induction n9 with
  | zero =>
    intro st x1 x2 x3 H locs ls hf
    exact absurd hf (by unfold f_X8_isState_L4; exact fun h => by cases h)
  | succ n9 hr4 =>
    intro st x1 x2 x3 H locs ls hf hW hS hl
    
    unfold f_X8_isState_L4 at hf
    refine lv_iload_n X.hx X.hb dX8_isState_4 rfl (lv_at hl 3 rfl) ?_
    refine lv_aload_n X.hx X.hb dX8_isState_5 rfl (lv_at hl 0 rfl) ?_
    refine gX8_length X hW dX8_isState_6 ?_
    refine lv_icmp_ge (tgt := 50) X.hx X.hb dX8_isState_9 (by decide) (fun c9 => ?_) (fun c9 => ?_)
    · replace hf := ite_t c9 hf
      exact f_X8_isState_J50_w X hr hlk _ _ _ _ _  hf hW hS (lv_sub hl [2] rfl)
    · replace hf := ite_f c9 hf
      refine lv_iload_n X.hx X.hb dX8_isState_12 rfl (lv_at hl 2 rfl) ?_
      refine lv_if_eq (tgt := 50) X.hx X.hb dX8_isState_13 (by decide) (fun c13 => ?_) (fun c13 => ?_)
      · replace hf := ite_t c13 hf
        exact f_X8_isState_J50_w X hr hlk _ _ _ _ _  hf hW hS (lv_sub hl [2] rfl)
      · replace hf := ite_f c13 hf
        refine lv_aload_n X.hx X.hb dX8_isState_16 rfl (lv_at hl 0 rfl) ?_
        refine gX8_columnBy X hW dX8_isState_17 ?_
        refine lv_iload_n X.hx X.hb dX8_isState_20 rfl (lv_at hl 3 rfl) ?_
        refine lv_aload_n X.hx X.hb dX8_isState_21 rfl (lv_at hl 0 rfl) ?_
        refine lv_iload_n X.hx X.hb dX8_isState_22 rfl (lv_at hl 3 rfl) ?_
        refine lv_iload_n X.hx X.hb dX8_isState_23 rfl (lv_at hl 1 rfl) ?_
        obtain ⟨b24, h24, hf⟩ := bnd hf
        refine cl_i (run_V (As := [.int x3, .int x1]) (rest := [.int x3, .ref (ad 16)]) X (w_X8_beginOfColumn l V A ad h24) mw_X8_beginOfColumn ln_X8_231 (rcX8 X hW) hW hS rfl hl.1 rfl (Nat.le_of_ble_eq_true rfl) ⟨Nat.le_of_ble_eq_true rfl, Nat.le_of_ble_eq_true rfl⟩ ⟨Nat.le_refl _, Nat.le_refl _⟩ dX8_isState_24) hS (fun H locs hW hS => ?_)
        obtain ⟨h27, hf⟩ := ite_n hf
        obtain ⟨s27, e27, hf⟩ := lt_e hf
        refine aM_st X hW hS isM_16 rfl h27 dX8_isState_27 (fun H locs hW hS => ?_)
        rw [← e27] at hW
        refine lv_aload_n X.hx X.hb dX8_isState_28 rfl (lv_at hl 0 rfl) ?_
        refine gX8_columnBy X hW dX8_isState_29 ?_
        refine lv_iload_n X.hx X.hb dX8_isState_32 rfl (lv_at hl 3 rfl) ?_
        obtain ⟨h33, hf⟩ := ite_n hf
        refine aM_ld X hW isM_16 rfl h33 dX8_isState_33 ?_
        refine lv_iconst (v := (-1)) X.hx X.hb dX8_isState_34 (by decide) ?_
        refine lv_icmp_eq (tgt := 42) X.hx X.hb dX8_isState_35 (by decide) (fun c35 => ?_) (fun c35 => ?_)
        · replace hf := ite_t c35 hf
          refine lv_iconst (v := 0) X.hx X.hb dX8_isState_42 (by decide) ?_
          exact f_X8_isState_J43_w X hr hlk hr4 _ _ _ _ _ _ _  hf hW hS (lv_sub hl [0, 1, 3] rfl)
        · replace hf := ite_f c35 hf
          refine lv_iconst (v := 1) X.hx X.hb dX8_isState_38 (by decide) ?_
          refine lv_goto (tgt := 43) X.hx X.hb dX8_isState_39 (by decide) ?_
          exact f_X8_isState_J43_w X hr hlk hr4 _ _ _ _ _ _ _  hf hW hS (lv_sub hl [0, 1, 3] rfl)
noncomputable def f_X8_isState (st : St) (a1 : Int32) : Option (Int32 × St) := f_X8_isState_L4 FU st a1 1 0
set_option maxRecDepth 100000 in
theorem w_X8_isState (l : Launch) (V : Ev) (A : Nat → Prop) (ad : Nat → Nat) {st : St} {a1 : Int32} {res : (Int32 × St)} (hf : f_X8_isState st a1 = some res) : Cn l yX8_isState cX8_isState 4 (some .boolean) 2 47 0 0 V A (WdM V ad A) st [.ref (ad 0), .int a1] (Qwi A (WdM V ad A) res.1 res.2) := by
  refine cn_of RX8 (by decide) rfl (fun p e s m below meth c ls X hr hlk hW hS hl => ?_) (Nat.le_of_ble_eq_true rfl)
  have hl : lv_has ls 4 [(0, .ref (ad 0)), (1, .int a1)] := hl
  unfold f_X8_isState at hf
  refine lv_iconst (v := 1) X.hx X.hb dX8_isState_0 (by decide) ?_
  refine lv_istore_n (lv' := [(2, .int 1), (0, .ref (ad 0)), (1, .int a1)]) X.hx X.hb dX8_isState_1 rfl hl (by decide) rfl (fun ls hl => ?_)
  refine lv_iconst (v := 0) X.hx X.hb dX8_isState_2 (by decide) ?_
  refine lv_istore_n (lv' := [(3, .int 0), (2, .int 1), (0, .ref (ad 0)), (1, .int a1)]) X.hx X.hb dX8_isState_3 rfl hl (by decide) rfl (fun ls hl => ?_)
  exact f_X8_isState_L4_w X hr hlk FU _ _ _ _ _ _ _  hf hW hS (lv_sub hl [2, 3, 1, 0] rfl)
-- WordSquaresModel.hasRest
noncomputable def f_X8_hasRest_J73 (st : St) (r6 : Int32 → Int32 → Int32 → Int32 → Int32 → Option Int32) (r36 : Int32 → Int32 → Int32 → Int32 → Int32 → Int32 → Int32 → Option Int32) (x1 : Int32) (x2 : Int32) (x3 : Int32) (x4 : Int32) (x5 : Int32) (x7 : Int32) (t0 : Int32) : Option Int32 := lt (x7 + 1) fun w75 => r36 x1 x2 x3 x4 x5 t0 w75
set_option maxRecDepth 100000 in
theorem f_X8_hasRest_J73_w {st : St} {r6 : Int32 → Int32 → Int32 → Int32 → Int32 → Option Int32} {r36 : Int32 → Int32 → Int32 → Int32 → Int32 → Int32 → Int32 → Option Int32} {res : Int32} (X : Cx V A cX8_hasRest 8 RX8 p m c s args) (hr : meth.sig.returnType = (some .boolean)) (hlk : meth.locks = false) (hr6 : ∀ (x1 : Int32) (x2 : Int32) (x3 : Int32) (x4 : Int32) (x5 : Int32) (H : Heap) (locs : List Loc) (ls : Array Slot), r6 x1 x2 x3 x4 x5 = some res → (WdM V ad A) st H → va_S A s.heap H locs → lv_has ls 8 [(0, .ref (ad 0)), (1, .int x1), (2, .int x2), (3, .int x3), (4, .int x4), (5, .int x5)] → W p l e (rmF 2 45 0 0) s m args below meth c H locs 0 0 (MQ below (Qwi A (WdM V ad A) res st) args s 0 0 A) (F0 m 6 ls [])) (hr36 : ∀ (x1 : Int32) (x2 : Int32) (x3 : Int32) (x4 : Int32) (x5 : Int32) (x6 : Int32) (x7 : Int32) (H : Heap) (locs : List Loc) (ls : Array Slot), r36 x1 x2 x3 x4 x5 x6 x7 = some res → (WdM V ad A) st H → va_S A s.heap H locs → lv_has ls 8 [(0, .ref (ad 0)), (1, .int x1), (2, .int x2), (3, .int x3), (4, .int x4), (5, .int x5), (6, .int x6), (7, .int x7)] → W p l e (rmF 2 45 0 0) s m args below meth c H locs 0 0 (MQ below (Qwi A (WdM V ad A) res st) args s 0 0 A) (F0 m 36 ls [])) (x1 : Int32) (x2 : Int32) (x3 : Int32) (x4 : Int32) (x5 : Int32) (x7 : Int32) (t0 : Int32) (H : Heap) (locs : List Loc) (ls : Array Slot)  (hf : f_X8_hasRest_J73 st r6 r36 x1 x2 x3 x4 x5 x7 t0 = some res) (hW : (WdM V ad A) st H) (hS : va_S A s.heap H locs) (hl : lv_has ls 8 [(0, .ref (ad 0)), (1, .int x1), (2, .int x2), (3, .int x3), (4, .int x4), (5, .int x5), (7, .int x7)]) : W p l e (rmF 2 45 0 0) s m args below meth c H locs 0 0 (MQ below (Qwi A (WdM V ad A) res st) args s 0 0 A) (F0 m 73 ls [.int t0]) := by
  
  unfold f_X8_hasRest_J73 at hf
  refine lv_istore (lv' := [(6, .int t0), (0, .ref (ad 0)), (1, .int x1), (2, .int x2), (3, .int x3), (4, .int x4), (5, .int x5), (7, .int x7)]) X.hx X.hb dX8_hasRest_73 hl (by decide) rfl (fun ls hl => ?_)
  obtain ⟨w75, e75, hf⟩ := lt_e hf
  refine lv_iinc (v := w75) (lv' := [(7, .int w75), (6, .int t0), (0, .ref (ad 0)), (1, .int x1), (2, .int x2), (3, .int x3), (4, .int x4), (5, .int x5)]) X.hx X.hb dX8_hasRest_75 hl (k := 7) rfl (by rw [e75]; rfl) (by decide) rfl (fun ls hl => ?_)
  refine lv_goto (tgt := 36) X.hx X.hb dX8_hasRest_78 (by decide) ?_
  exact hr36 _ _ _ _ _ _ _ _ _ _  hf hW hS (lv_sub hl [2, 3, 4, 5, 6, 7, 1, 0] rfl)
noncomputable def f_X8_hasRest_J72 (st : St) (r6 : Int32 → Int32 → Int32 → Int32 → Int32 → Option Int32) (r36 : Int32 → Int32 → Int32 → Int32 → Int32 → Int32 → Int32 → Option Int32) (x1 : Int32) (x2 : Int32) (x3 : Int32) (x4 : Int32) (x5 : Int32) (x7 : Int32) : Option Int32 := f_X8_hasRest_J73 st r6 r36 x1 x2 x3 x4 x5 x7 0
set_option maxRecDepth 100000 in
theorem f_X8_hasRest_J72_w {st : St} {r6 : Int32 → Int32 → Int32 → Int32 → Int32 → Option Int32} {r36 : Int32 → Int32 → Int32 → Int32 → Int32 → Int32 → Int32 → Option Int32} {res : Int32} (X : Cx V A cX8_hasRest 8 RX8 p m c s args) (hr : meth.sig.returnType = (some .boolean)) (hlk : meth.locks = false) (hr6 : ∀ (x1 : Int32) (x2 : Int32) (x3 : Int32) (x4 : Int32) (x5 : Int32) (H : Heap) (locs : List Loc) (ls : Array Slot), r6 x1 x2 x3 x4 x5 = some res → (WdM V ad A) st H → va_S A s.heap H locs → lv_has ls 8 [(0, .ref (ad 0)), (1, .int x1), (2, .int x2), (3, .int x3), (4, .int x4), (5, .int x5)] → W p l e (rmF 2 45 0 0) s m args below meth c H locs 0 0 (MQ below (Qwi A (WdM V ad A) res st) args s 0 0 A) (F0 m 6 ls [])) (hr36 : ∀ (x1 : Int32) (x2 : Int32) (x3 : Int32) (x4 : Int32) (x5 : Int32) (x6 : Int32) (x7 : Int32) (H : Heap) (locs : List Loc) (ls : Array Slot), r36 x1 x2 x3 x4 x5 x6 x7 = some res → (WdM V ad A) st H → va_S A s.heap H locs → lv_has ls 8 [(0, .ref (ad 0)), (1, .int x1), (2, .int x2), (3, .int x3), (4, .int x4), (5, .int x5), (6, .int x6), (7, .int x7)] → W p l e (rmF 2 45 0 0) s m args below meth c H locs 0 0 (MQ below (Qwi A (WdM V ad A) res st) args s 0 0 A) (F0 m 36 ls [])) (x1 : Int32) (x2 : Int32) (x3 : Int32) (x4 : Int32) (x5 : Int32) (x7 : Int32) (H : Heap) (locs : List Loc) (ls : Array Slot)  (hf : f_X8_hasRest_J72 st r6 r36 x1 x2 x3 x4 x5 x7 = some res) (hW : (WdM V ad A) st H) (hS : va_S A s.heap H locs) (hl : lv_has ls 8 [(0, .ref (ad 0)), (1, .int x1), (2, .int x2), (3, .int x3), (4, .int x4), (5, .int x5), (7, .int x7)]) : W p l e (rmF 2 45 0 0) s m args below meth c H locs 0 0 (MQ below (Qwi A (WdM V ad A) res st) args s 0 0 A) (F0 m 72 ls []) := by
  
  unfold f_X8_hasRest_J72 at hf
  refine lv_iconst (v := 0) X.hx X.hb dX8_hasRest_72 (by decide) ?_
  exact f_X8_hasRest_J73_w X hr hlk hr6 hr36 _ _ _ _ _ _ _ _ _ _  hf hW hS (lv_sub hl [0, 1, 2, 3, 4, 5, 6] rfl)
noncomputable def f_X8_hasRest_J96 (st : St) (r6 : Int32 → Int32 → Int32 → Int32 → Int32 → Option Int32) (x1 : Int32) (x2 : Int32) (x3 : Int32) (x5 : Int32) (t0 : Int32) : Option Int32 := lt (x5 + 1) fun w98 => r6 x1 x2 x3 t0 w98
set_option maxRecDepth 100000 in
theorem f_X8_hasRest_J96_w {st : St} {r6 : Int32 → Int32 → Int32 → Int32 → Int32 → Option Int32} {res : Int32} (X : Cx V A cX8_hasRest 8 RX8 p m c s args) (hr : meth.sig.returnType = (some .boolean)) (hlk : meth.locks = false) (hr6 : ∀ (x1 : Int32) (x2 : Int32) (x3 : Int32) (x4 : Int32) (x5 : Int32) (H : Heap) (locs : List Loc) (ls : Array Slot), r6 x1 x2 x3 x4 x5 = some res → (WdM V ad A) st H → va_S A s.heap H locs → lv_has ls 8 [(0, .ref (ad 0)), (1, .int x1), (2, .int x2), (3, .int x3), (4, .int x4), (5, .int x5)] → W p l e (rmF 2 45 0 0) s m args below meth c H locs 0 0 (MQ below (Qwi A (WdM V ad A) res st) args s 0 0 A) (F0 m 6 ls [])) (x1 : Int32) (x2 : Int32) (x3 : Int32) (x5 : Int32) (t0 : Int32) (H : Heap) (locs : List Loc) (ls : Array Slot)  (hf : f_X8_hasRest_J96 st r6 x1 x2 x3 x5 t0 = some res) (hW : (WdM V ad A) st H) (hS : va_S A s.heap H locs) (hl : lv_has ls 8 [(0, .ref (ad 0)), (1, .int x1), (2, .int x2), (3, .int x3), (5, .int x5)]) : W p l e (rmF 2 45 0 0) s m args below meth c H locs 0 0 (MQ below (Qwi A (WdM V ad A) res st) args s 0 0 A) (F0 m 96 ls [.int t0]) := by
  
  unfold f_X8_hasRest_J96 at hf
  refine lv_istore (lv' := [(4, .int t0), (0, .ref (ad 0)), (1, .int x1), (2, .int x2), (3, .int x3), (5, .int x5)]) X.hx X.hb dX8_hasRest_96 hl (by decide) rfl (fun ls hl => ?_)
  obtain ⟨w98, e98, hf⟩ := lt_e hf
  refine lv_iinc (v := w98) (lv' := [(5, .int w98), (4, .int t0), (0, .ref (ad 0)), (1, .int x1), (2, .int x2), (3, .int x3)]) X.hx X.hb dX8_hasRest_98 hl (k := 5) rfl (by rw [e98]; rfl) (by decide) rfl (fun ls hl => ?_)
  refine lv_goto (tgt := 6) X.hx X.hb dX8_hasRest_101 (by decide) ?_
  exact hr6 _ _ _ _ _ _ _ _  hf hW hS (lv_sub hl [2, 3, 4, 5, 1, 0] rfl)
noncomputable def f_X8_hasRest_J91 (st : St) (r6 : Int32 → Int32 → Int32 → Int32 → Int32 → Option Int32) (x1 : Int32) (x2 : Int32) (x3 : Int32) (x5 : Int32) : Option Int32 := f_X8_hasRest_J96 st r6 x1 x2 x3 x5 1
set_option maxRecDepth 100000 in
theorem f_X8_hasRest_J91_w {st : St} {r6 : Int32 → Int32 → Int32 → Int32 → Int32 → Option Int32} {res : Int32} (X : Cx V A cX8_hasRest 8 RX8 p m c s args) (hr : meth.sig.returnType = (some .boolean)) (hlk : meth.locks = false) (hr6 : ∀ (x1 : Int32) (x2 : Int32) (x3 : Int32) (x4 : Int32) (x5 : Int32) (H : Heap) (locs : List Loc) (ls : Array Slot), r6 x1 x2 x3 x4 x5 = some res → (WdM V ad A) st H → va_S A s.heap H locs → lv_has ls 8 [(0, .ref (ad 0)), (1, .int x1), (2, .int x2), (3, .int x3), (4, .int x4), (5, .int x5)] → W p l e (rmF 2 45 0 0) s m args below meth c H locs 0 0 (MQ below (Qwi A (WdM V ad A) res st) args s 0 0 A) (F0 m 6 ls [])) (x1 : Int32) (x2 : Int32) (x3 : Int32) (x5 : Int32) (H : Heap) (locs : List Loc) (ls : Array Slot)  (hf : f_X8_hasRest_J91 st r6 x1 x2 x3 x5 = some res) (hW : (WdM V ad A) st H) (hS : va_S A s.heap H locs) (hl : lv_has ls 8 [(0, .ref (ad 0)), (1, .int x1), (2, .int x2), (3, .int x3), (5, .int x5)]) : W p l e (rmF 2 45 0 0) s m args below meth c H locs 0 0 (MQ below (Qwi A (WdM V ad A) res st) args s 0 0 A) (F0 m 91 ls []) := by
  
  unfold f_X8_hasRest_J91 at hf
  refine lv_iconst (v := 1) X.hx X.hb dX8_hasRest_91 (by decide) ?_
  refine lv_goto (tgt := 96) X.hx X.hb dX8_hasRest_92 (by decide) ?_
  exact f_X8_hasRest_J96_w X hr hlk hr6 _ _ _ _ _ _ _ _  hf hW hS (lv_sub hl [0, 1, 2, 3, 4] rfl)
noncomputable def f_X8_hasRest_L36 (st : St) (r6 : Int32 → Int32 → Int32 → Int32 → Int32 → Option Int32) : Nat → Int32 → Int32 → Int32 → Int32 → Int32 → Int32 → Int32 → Option Int32
  | 0, _, _, _, _, _, _, _ => none
  | fu + 1, x1, x2, x3, x4, x5, x6, x7 => if (st.1 0) ≤ x7 then if x4 = 0 then if x6 = 0 then f_X8_hasRest_J96 st r6 x1 x2 x3 x5 0 else f_X8_hasRest_J91 st r6 x1 x2 x3 x5 else f_X8_hasRest_J91 st r6 x1 x2 x3 x5 else if x6 = 0 then f_X8_hasRest_J72 st r6 ((f_X8_hasRest_L36 st r6 fu)) x1 x2 x3 x4 x5 x7 else (f_X8_at st x5 x7).bind fun b55 => (f_X8_at st x3 x7).bind fun b62 => if b55 = b62 then f_X8_hasRest_J73 st r6 ((f_X8_hasRest_L36 st r6 fu)) x1 x2 x3 x4 x5 x7 1 else f_X8_hasRest_J72 st r6 ((f_X8_hasRest_L36 st r6 fu)) x1 x2 x3 x4 x5 x7
set_option maxRecDepth 100000 in
theorem f_X8_hasRest_L36_w {st : St} {r6 : Int32 → Int32 → Int32 → Int32 → Int32 → Option Int32} {res : Int32} (X : Cx V A cX8_hasRest 8 RX8 p m c s args) (hr : meth.sig.returnType = (some .boolean)) (hlk : meth.locks = false) (hr6 : ∀ (x1 : Int32) (x2 : Int32) (x3 : Int32) (x4 : Int32) (x5 : Int32) (H : Heap) (locs : List Loc) (ls : Array Slot), r6 x1 x2 x3 x4 x5 = some res → (WdM V ad A) st H → va_S A s.heap H locs → lv_has ls 8 [(0, .ref (ad 0)), (1, .int x1), (2, .int x2), (3, .int x3), (4, .int x4), (5, .int x5)] → W p l e (rmF 2 45 0 0) s m args below meth c H locs 0 0 (MQ below (Qwi A (WdM V ad A) res st) args s 0 0 A) (F0 m 6 ls [])) : ∀ (n9 : Nat) (x1 : Int32) (x2 : Int32) (x3 : Int32) (x4 : Int32) (x5 : Int32) (x6 : Int32) (x7 : Int32) (H : Heap) (locs : List Loc) (ls : Array Slot), f_X8_hasRest_L36 st r6 n9 x1 x2 x3 x4 x5 x6 x7 = some res → (WdM V ad A) st H → va_S A s.heap H locs → lv_has ls 8 [(0, .ref (ad 0)), (1, .int x1), (2, .int x2), (3, .int x3), (4, .int x4), (5, .int x5), (6, .int x6), (7, .int x7)] → W p l e (rmF 2 45 0 0) s m args below meth c H locs 0 0 (MQ below (Qwi A (WdM V ad A) res st) args s 0 0 A) (F0 m 36 ls []) := by
  intro n9
  induction n9 with
  | zero =>
    intro x1 x2 x3 x4 x5 x6 x7 H locs ls hf
    exact absurd hf (by unfold f_X8_hasRest_L36; exact fun h => by cases h)
  | succ n9 hr36 =>
    intro x1 x2 x3 x4 x5 x6 x7 H locs ls hf hW hS hl
    
    unfold f_X8_hasRest_L36 at hf
    refine lv_iload X.hx X.hb dX8_hasRest_36 (lv_at hl 7 rfl) ?_
    refine lv_aload_n X.hx X.hb dX8_hasRest_38 rfl (lv_at hl 0 rfl) ?_
    refine gX8_length X hW dX8_hasRest_39 ?_
    refine lv_icmp_ge (tgt := 81) X.hx X.hb dX8_hasRest_42 (by decide) (fun c42 => ?_) (fun c42 => ?_)
    · replace hf := ite_t c42 hf
      refine lv_iload X.hx X.hb dX8_hasRest_81 (lv_at hl 4 rfl) ?_
      refine lv_if_ne (tgt := 91) X.hx X.hb dX8_hasRest_83 (by decide) (fun c83 => ?_) (fun c83 => ?_)
      · replace hf := ite_f c83 hf
        exact f_X8_hasRest_J91_w X hr hlk hr6 _ _ _ _ _ _ _  hf hW hS (lv_sub hl [0, 1, 2, 3, 5] rfl)
      · replace hf := ite_t c83 hf
        refine lv_iload X.hx X.hb dX8_hasRest_86 (lv_at hl 6 rfl) ?_
        refine lv_if_eq (tgt := 95) X.hx X.hb dX8_hasRest_88 (by decide) (fun c88 => ?_) (fun c88 => ?_)
        · replace hf := ite_t c88 hf
          refine lv_iconst (v := 0) X.hx X.hb dX8_hasRest_95 (by decide) ?_
          exact f_X8_hasRest_J96_w X hr hlk hr6 _ _ _ _ _ _ _ _  hf hW hS (lv_sub hl [0, 1, 2, 3, 5] rfl)
        · replace hf := ite_f c88 hf
          exact f_X8_hasRest_J91_w X hr hlk hr6 _ _ _ _ _ _ _  hf hW hS (lv_sub hl [0, 1, 2, 3, 5] rfl)
    · replace hf := ite_f c42 hf
      refine lv_iload X.hx X.hb dX8_hasRest_45 (lv_at hl 6 rfl) ?_
      refine lv_if_eq (tgt := 72) X.hx X.hb dX8_hasRest_47 (by decide) (fun c47 => ?_) (fun c47 => ?_)
      · replace hf := ite_t c47 hf
        exact f_X8_hasRest_J72_w X hr hlk hr6 hr36 _ _ _ _ _ _ _ _ _  hf hW hS (lv_sub hl [0, 1, 2, 3, 4, 5, 7] rfl)
      · replace hf := ite_f c47 hf
        refine lv_aload_n X.hx X.hb dX8_hasRest_50 rfl (lv_at hl 0 rfl) ?_
        refine lv_iload X.hx X.hb dX8_hasRest_51 (lv_at hl 5 rfl) ?_
        refine lv_iload X.hx X.hb dX8_hasRest_53 (lv_at hl 7 rfl) ?_
        obtain ⟨b55, h55, hf⟩ := bnd hf
        refine cl_i (run_V (As := [.int x5, .int x7]) (rest := []) X (w_X8_at l V A ad h55) mw_X8_at ln_X8_130 (rcX8 X hW) hW hS rfl hl.1 rfl (Nat.le_of_ble_eq_true rfl) ⟨Nat.le_of_ble_eq_true rfl, Nat.le_of_ble_eq_true rfl⟩ ⟨Nat.le_refl _, Nat.le_refl _⟩ dX8_hasRest_55) hS (fun H locs hW hS => ?_)
        refine lv_aload_n X.hx X.hb dX8_hasRest_58 rfl (lv_at hl 0 rfl) ?_
        refine lv_iload_n X.hx X.hb dX8_hasRest_59 rfl (lv_at hl 3 rfl) ?_
        refine lv_iload X.hx X.hb dX8_hasRest_60 (lv_at hl 7 rfl) ?_
        obtain ⟨b62, h62, hf⟩ := bnd hf
        refine cl_i (run_V (As := [.int x3, .int x7]) (rest := [.int b55]) X (w_X8_at l V A ad h62) mw_X8_at ln_X8_130 (rcX8 X hW) hW hS rfl hl.1 rfl (Nat.le_of_ble_eq_true rfl) ⟨Nat.le_of_ble_eq_true rfl, Nat.le_of_ble_eq_true rfl⟩ ⟨Nat.le_refl _, Nat.le_refl _⟩ dX8_hasRest_62) hS (fun H locs hW hS => ?_)
        refine lv_icmp_ne (tgt := 72) X.hx X.hb dX8_hasRest_65 (by decide) (fun c65 => ?_) (fun c65 => ?_)
        · replace hf := ite_f c65 hf
          exact f_X8_hasRest_J72_w X hr hlk hr6 hr36 _ _ _ _ _ _ _ _ _  hf hW hS (lv_sub hl [0, 1, 2, 3, 4, 5, 7] rfl)
        · replace hf := ite_t c65 hf
          refine lv_iconst (v := 1) X.hx X.hb dX8_hasRest_68 (by decide) ?_
          refine lv_goto (tgt := 73) X.hx X.hb dX8_hasRest_69 (by decide) ?_
          exact f_X8_hasRest_J73_w X hr hlk hr6 hr36 _ _ _ _ _ _ _ _ _ _  hf hW hS (lv_sub hl [0, 1, 2, 3, 4, 5, 7] rfl)
noncomputable def f_X8_hasRest_J31 (st : St) (r6 : Int32 → Int32 → Int32 → Int32 → Int32 → Option Int32) (x1 : Int32) (x2 : Int32) (x3 : Int32) (x4 : Int32) (x5 : Int32) (t0 : Int32) : Option Int32 := f_X8_hasRest_L36 st r6 FU x1 x2 x3 x4 x5 t0 x2
set_option maxRecDepth 100000 in
theorem f_X8_hasRest_J31_w {st : St} {r6 : Int32 → Int32 → Int32 → Int32 → Int32 → Option Int32} {res : Int32} (X : Cx V A cX8_hasRest 8 RX8 p m c s args) (hr : meth.sig.returnType = (some .boolean)) (hlk : meth.locks = false) (hr6 : ∀ (x1 : Int32) (x2 : Int32) (x3 : Int32) (x4 : Int32) (x5 : Int32) (H : Heap) (locs : List Loc) (ls : Array Slot), r6 x1 x2 x3 x4 x5 = some res → (WdM V ad A) st H → va_S A s.heap H locs → lv_has ls 8 [(0, .ref (ad 0)), (1, .int x1), (2, .int x2), (3, .int x3), (4, .int x4), (5, .int x5)] → W p l e (rmF 2 45 0 0) s m args below meth c H locs 0 0 (MQ below (Qwi A (WdM V ad A) res st) args s 0 0 A) (F0 m 6 ls [])) (x1 : Int32) (x2 : Int32) (x3 : Int32) (x4 : Int32) (x5 : Int32) (t0 : Int32) (H : Heap) (locs : List Loc) (ls : Array Slot)  (hf : f_X8_hasRest_J31 st r6 x1 x2 x3 x4 x5 t0 = some res) (hW : (WdM V ad A) st H) (hS : va_S A s.heap H locs) (hl : lv_has ls 8 [(0, .ref (ad 0)), (1, .int x1), (2, .int x2), (3, .int x3), (4, .int x4), (5, .int x5)]) : W p l e (rmF 2 45 0 0) s m args below meth c H locs 0 0 (MQ below (Qwi A (WdM V ad A) res st) args s 0 0 A) (F0 m 31 ls [.int t0]) := by
  
  unfold f_X8_hasRest_J31 at hf
  refine lv_istore (lv' := [(6, .int t0), (0, .ref (ad 0)), (1, .int x1), (2, .int x2), (3, .int x3), (4, .int x4), (5, .int x5)]) X.hx X.hb dX8_hasRest_31 hl (by decide) rfl (fun ls hl => ?_)
  refine lv_iload_n X.hx X.hb dX8_hasRest_33 rfl (lv_at hl 3 rfl) ?_
  refine lv_istore (lv' := [(7, .int x2), (6, .int t0), (0, .ref (ad 0)), (1, .int x1), (2, .int x2), (3, .int x3), (4, .int x4), (5, .int x5)]) X.hx X.hb dX8_hasRest_34 hl (by decide) rfl (fun ls hl => ?_)
  exact f_X8_hasRest_L36_w X hr hlk hr6 FU _ _ _ _ _ _ _ _ _ _  hf hW hS (lv_sub hl [2, 3, 4, 5, 6, 7, 1, 0] rfl)
noncomputable def f_X8_hasRest_L6 (st : St) : Nat → Int32 → Int32 → Int32 → Int32 → Int32 → Option Int32
  | 0, _, _, _, _, _ => none
  | fu + 1, x1, x2, x3, x4, x5 => if (st.1 1) ≤ x5 then if x4 = 0 ∨ x4 = 1 then some x4 else none else (f_X8_alike st x1 x5).bind fun b19 => if b19 < x2 then f_X8_hasRest_J31 st ((f_X8_hasRest_L6 st fu)) x1 x2 x3 x4 x5 0 else f_X8_hasRest_J31 st ((f_X8_hasRest_L6 st fu)) x1 x2 x3 x4 x5 1
set_option maxRecDepth 100000 in
theorem f_X8_hasRest_L6_w {st : St} {res : Int32} (X : Cx V A cX8_hasRest 8 RX8 p m c s args) (hr : meth.sig.returnType = (some .boolean)) (hlk : meth.locks = false)  : ∀ (n9 : Nat) (x1 : Int32) (x2 : Int32) (x3 : Int32) (x4 : Int32) (x5 : Int32) (H : Heap) (locs : List Loc) (ls : Array Slot), f_X8_hasRest_L6 st n9 x1 x2 x3 x4 x5 = some res → (WdM V ad A) st H → va_S A s.heap H locs → lv_has ls 8 [(0, .ref (ad 0)), (1, .int x1), (2, .int x2), (3, .int x3), (4, .int x4), (5, .int x5)] → W p l e (rmF 2 45 0 0) s m args below meth c H locs 0 0 (MQ below (Qwi A (WdM V ad A) res st) args s 0 0 A) (F0 m 6 ls []) := by
  intro n9
  induction n9 with
  | zero =>
    intro x1 x2 x3 x4 x5 H locs ls hf
    exact absurd hf (by unfold f_X8_hasRest_L6; exact fun h => by cases h)
  | succ n9 hr6 =>
    intro x1 x2 x3 x4 x5 H locs ls hf hW hS hl
    
    unfold f_X8_hasRest_L6 at hf
    refine lv_iload X.hx X.hb dX8_hasRest_6 (lv_at hl 5 rfl) ?_
    refine lv_aload_n X.hx X.hb dX8_hasRest_8 rfl (lv_at hl 0 rfl) ?_
    refine gX8_words X hW dX8_hasRest_9 ?_
    refine lv_icmp_ge (tgt := 104) X.hx X.hb dX8_hasRest_12 (by decide) (fun c12 => ?_) (fun c12 => ?_)
    · replace hf := ite_t c12 hf
      refine lv_iload X.hx X.hb dX8_hasRest_104 (lv_at hl 4 rfl) ?_
      obtain ⟨h106, hf⟩ := ite_n hf
      exact rt_z X hr hlk hW hS h106 (Option.some.inj hf) (Nat.le_refl _) (Nat.le_refl _) dX8_hasRest_106
    · replace hf := ite_f c12 hf
      refine lv_aload_n X.hx X.hb dX8_hasRest_15 rfl (lv_at hl 0 rfl) ?_
      refine lv_iload_n X.hx X.hb dX8_hasRest_16 rfl (lv_at hl 1 rfl) ?_
      refine lv_iload X.hx X.hb dX8_hasRest_17 (lv_at hl 5 rfl) ?_
      obtain ⟨b19, h19, hf⟩ := bnd hf
      refine cl_i (run_V (As := [.int x1, .int x5]) (rest := []) X (w_X8_alike l V A ad h19) mw_X8_alike ln_X8_134 (rcX8 X hW) hW hS rfl hl.1 rfl (Nat.le_of_ble_eq_true rfl) ⟨Nat.le_of_ble_eq_true rfl, Nat.le_of_ble_eq_true rfl⟩ ⟨Nat.le_refl _, Nat.le_refl _⟩ dX8_hasRest_19) hS (fun H locs hW hS => ?_)
      refine lv_iload_n X.hx X.hb dX8_hasRest_22 rfl (lv_at hl 2 rfl) ?_
      refine lv_icmp_lt (tgt := 30) X.hx X.hb dX8_hasRest_23 (by decide) (fun c23 => ?_) (fun c23 => ?_)
      · replace hf := ite_t c23 hf
        refine lv_iconst (v := 0) X.hx X.hb dX8_hasRest_30 (by decide) ?_
        exact f_X8_hasRest_J31_w X hr hlk hr6 _ _ _ _ _ _ _ _ _  hf hW hS (lv_sub hl [0, 1, 2, 3, 4, 5] rfl)
      · replace hf := ite_f c23 hf
        refine lv_iconst (v := 1) X.hx X.hb dX8_hasRest_26 (by decide) ?_
        refine lv_goto (tgt := 31) X.hx X.hb dX8_hasRest_27 (by decide) ?_
        exact f_X8_hasRest_J31_w X hr hlk hr6 _ _ _ _ _ _ _ _ _  hf hW hS (lv_sub hl [0, 1, 2, 3, 4, 5] rfl)
noncomputable def f_X8_hasRest (st : St) (a1 : Int32) (a2 : Int32) (a3 : Int32) : Option Int32 := f_X8_hasRest_L6 st FU a1 a2 a3 0 0
set_option maxRecDepth 100000 in
theorem w_X8_hasRest (l : Launch) (V : Ev) (A : Nat → Prop) (ad : Nat → Nat) {st : St} {a1 : Int32} {a2 : Int32} {a3 : Int32} {res : Int32} (hf : f_X8_hasRest st a1 a2 a3 = some res) : Cn l yX8_hasRest cX8_hasRest 8 (some .boolean) 2 45 0 0 V A (WdM V ad A) st [.ref (ad 0), .int a1, .int a2, .int a3] (Qwi A (WdM V ad A) res st) := by
  refine cn_of RX8 (by decide) rfl (fun p e s m below meth c ls X hr hlk hW hS hl => ?_) (Nat.le_of_ble_eq_true rfl)
  have hl : lv_has ls 8 [(0, .ref (ad 0)), (1, .int a1), (2, .int a2), (3, .int a3)] := hl
  unfold f_X8_hasRest at hf
  refine lv_iconst (v := 0) X.hx X.hb dX8_hasRest_0 (by decide) ?_
  refine lv_istore (lv' := [(4, .int 0), (0, .ref (ad 0)), (1, .int a1), (2, .int a2), (3, .int a3)]) X.hx X.hb dX8_hasRest_1 hl (by decide) rfl (fun ls hl => ?_)
  refine lv_iconst (v := 0) X.hx X.hb dX8_hasRest_3 (by decide) ?_
  refine lv_istore (lv' := [(5, .int 0), (4, .int 0), (0, .ref (ad 0)), (1, .int a1), (2, .int a2), (3, .int a3)]) X.hx X.hb dX8_hasRest_4 hl (by decide) rfl (fun ls hl => ?_)
  exact f_X8_hasRest_L6_w X hr hlk FU _ _ _ _ _ _ _ _  hf hW hS (lv_sub hl [2, 3, 4, 5, 1, 0] rfl)
-- WordSquaresModel.hasAllRests
noncomputable def f_X8_hasAllRests_J47 (st : St) (r6 : Int32 → Int32 → Int32 → Int32 → Int32 → Option Int32) (x1 : Int32) (x2 : Int32) (x3 : Int32) (x5 : Int32) (t0 : Int32) : Option Int32 := lt (x5 + 1) fun w49 => r6 x1 x2 x3 t0 w49
set_option maxRecDepth 100000 in
theorem f_X8_hasAllRests_J47_w {st : St} {r6 : Int32 → Int32 → Int32 → Int32 → Int32 → Option Int32} {res : Int32} (X : Cx V A cX8_hasAllRests 6 RX8 p m c s args) (hr : meth.sig.returnType = (some .boolean)) (hlk : meth.locks = false) (hr6 : ∀ (x1 : Int32) (x2 : Int32) (x3 : Int32) (x4 : Int32) (x5 : Int32) (H : Heap) (locs : List Loc) (ls : Array Slot), r6 x1 x2 x3 x4 x5 = some res → (WdM V ad A) st H → va_S A s.heap H locs → lv_has ls 6 [(0, .ref (ad 0)), (1, .int x1), (2, .int x2), (3, .int x3), (4, .int x4), (5, .int x5)] → W p l e (rmF 3 72 0 0) s m args below meth c H locs 0 0 (MQ below (Qwi A (WdM V ad A) res st) args s 0 0 A) (F0 m 6 ls [])) (x1 : Int32) (x2 : Int32) (x3 : Int32) (x5 : Int32) (t0 : Int32) (H : Heap) (locs : List Loc) (ls : Array Slot)  (hf : f_X8_hasAllRests_J47 st r6 x1 x2 x3 x5 t0 = some res) (hW : (WdM V ad A) st H) (hS : va_S A s.heap H locs) (hl : lv_has ls 6 [(0, .ref (ad 0)), (1, .int x1), (2, .int x2), (3, .int x3), (5, .int x5)]) : W p l e (rmF 3 72 0 0) s m args below meth c H locs 0 0 (MQ below (Qwi A (WdM V ad A) res st) args s 0 0 A) (F0 m 47 ls [.int t0]) := by
  
  unfold f_X8_hasAllRests_J47 at hf
  refine lv_istore (lv' := [(4, .int t0), (0, .ref (ad 0)), (1, .int x1), (2, .int x2), (3, .int x3), (5, .int x5)]) X.hx X.hb dX8_hasAllRests_47 hl (by decide) rfl (fun ls hl => ?_)
  obtain ⟨w49, e49, hf⟩ := lt_e hf
  refine lv_iinc (v := w49) (lv' := [(5, .int w49), (4, .int t0), (0, .ref (ad 0)), (1, .int x1), (2, .int x2), (3, .int x3)]) X.hx X.hb dX8_hasAllRests_49 hl (k := 5) rfl (by rw [e49]; rfl) (by decide) rfl (fun ls hl => ?_)
  refine lv_goto (tgt := 6) X.hx X.hb dX8_hasAllRests_52 (by decide) ?_
  exact hr6 _ _ _ _ _ _ _ _  hf hW hS (lv_sub hl [2, 3, 4, 5, 1, 0] rfl)
noncomputable def f_X8_hasAllRests_J42 (st : St) (r6 : Int32 → Int32 → Int32 → Int32 → Int32 → Option Int32) (x1 : Int32) (x2 : Int32) (x3 : Int32) (x5 : Int32) : Option Int32 := f_X8_hasAllRests_J47 st r6 x1 x2 x3 x5 1
set_option maxRecDepth 100000 in
theorem f_X8_hasAllRests_J42_w {st : St} {r6 : Int32 → Int32 → Int32 → Int32 → Int32 → Option Int32} {res : Int32} (X : Cx V A cX8_hasAllRests 6 RX8 p m c s args) (hr : meth.sig.returnType = (some .boolean)) (hlk : meth.locks = false) (hr6 : ∀ (x1 : Int32) (x2 : Int32) (x3 : Int32) (x4 : Int32) (x5 : Int32) (H : Heap) (locs : List Loc) (ls : Array Slot), r6 x1 x2 x3 x4 x5 = some res → (WdM V ad A) st H → va_S A s.heap H locs → lv_has ls 6 [(0, .ref (ad 0)), (1, .int x1), (2, .int x2), (3, .int x3), (4, .int x4), (5, .int x5)] → W p l e (rmF 3 72 0 0) s m args below meth c H locs 0 0 (MQ below (Qwi A (WdM V ad A) res st) args s 0 0 A) (F0 m 6 ls [])) (x1 : Int32) (x2 : Int32) (x3 : Int32) (x5 : Int32) (H : Heap) (locs : List Loc) (ls : Array Slot)  (hf : f_X8_hasAllRests_J42 st r6 x1 x2 x3 x5 = some res) (hW : (WdM V ad A) st H) (hS : va_S A s.heap H locs) (hl : lv_has ls 6 [(0, .ref (ad 0)), (1, .int x1), (2, .int x2), (3, .int x3), (5, .int x5)]) : W p l e (rmF 3 72 0 0) s m args below meth c H locs 0 0 (MQ below (Qwi A (WdM V ad A) res st) args s 0 0 A) (F0 m 42 ls []) := by
  
  unfold f_X8_hasAllRests_J42 at hf
  refine lv_iconst (v := 1) X.hx X.hb dX8_hasAllRests_42 (by decide) ?_
  refine lv_goto (tgt := 47) X.hx X.hb dX8_hasAllRests_43 (by decide) ?_
  exact f_X8_hasAllRests_J47_w X hr hlk hr6 _ _ _ _ _ _ _ _  hf hW hS (lv_sub hl [0, 1, 2, 3, 4] rfl)
noncomputable def f_X8_hasAllRests_J46 (st : St) (r6 : Int32 → Int32 → Int32 → Int32 → Int32 → Option Int32) (x1 : Int32) (x2 : Int32) (x3 : Int32) (x5 : Int32) : Option Int32 := f_X8_hasAllRests_J47 st r6 x1 x2 x3 x5 0
set_option maxRecDepth 100000 in
theorem f_X8_hasAllRests_J46_w {st : St} {r6 : Int32 → Int32 → Int32 → Int32 → Int32 → Option Int32} {res : Int32} (X : Cx V A cX8_hasAllRests 6 RX8 p m c s args) (hr : meth.sig.returnType = (some .boolean)) (hlk : meth.locks = false) (hr6 : ∀ (x1 : Int32) (x2 : Int32) (x3 : Int32) (x4 : Int32) (x5 : Int32) (H : Heap) (locs : List Loc) (ls : Array Slot), r6 x1 x2 x3 x4 x5 = some res → (WdM V ad A) st H → va_S A s.heap H locs → lv_has ls 6 [(0, .ref (ad 0)), (1, .int x1), (2, .int x2), (3, .int x3), (4, .int x4), (5, .int x5)] → W p l e (rmF 3 72 0 0) s m args below meth c H locs 0 0 (MQ below (Qwi A (WdM V ad A) res st) args s 0 0 A) (F0 m 6 ls [])) (x1 : Int32) (x2 : Int32) (x3 : Int32) (x5 : Int32) (H : Heap) (locs : List Loc) (ls : Array Slot)  (hf : f_X8_hasAllRests_J46 st r6 x1 x2 x3 x5 = some res) (hW : (WdM V ad A) st H) (hS : va_S A s.heap H locs) (hl : lv_has ls 6 [(0, .ref (ad 0)), (1, .int x1), (2, .int x2), (3, .int x3), (5, .int x5)]) : W p l e (rmF 3 72 0 0) s m args below meth c H locs 0 0 (MQ below (Qwi A (WdM V ad A) res st) args s 0 0 A) (F0 m 46 ls []) := by
  
  unfold f_X8_hasAllRests_J46 at hf
  refine lv_iconst (v := 0) X.hx X.hb dX8_hasAllRests_46 (by decide) ?_
  exact f_X8_hasAllRests_J47_w X hr hlk hr6 _ _ _ _ _ _ _ _  hf hW hS (lv_sub hl [0, 1, 2, 3, 4] rfl)
noncomputable def f_X8_hasAllRests_L6 (st : St) : Nat → Int32 → Int32 → Int32 → Int32 → Int32 → Option Int32
  | 0, _, _, _, _, _ => none
  | fu + 1, x1, x2, x3, x4, x5 => if (st.1 1) ≤ x5 then if x4 = 0 ∨ x4 = 1 then some x4 else none else if x4 = 0 then f_X8_hasAllRests_J46 st ((f_X8_hasAllRests_L6 st fu)) x1 x2 x3 x5 else (f_X8_alike st x2 x5).bind fun b24 => if b24 < x3 then f_X8_hasAllRests_J42 st ((f_X8_hasAllRests_L6 st fu)) x1 x2 x3 x5 else (f_X8_hasRest st x1 x3 x5).bind fun b36 => if b36 = 0 then f_X8_hasAllRests_J46 st ((f_X8_hasAllRests_L6 st fu)) x1 x2 x3 x5 else f_X8_hasAllRests_J42 st ((f_X8_hasAllRests_L6 st fu)) x1 x2 x3 x5
set_option maxRecDepth 100000 in
theorem f_X8_hasAllRests_L6_w {st : St} {res : Int32} (X : Cx V A cX8_hasAllRests 6 RX8 p m c s args) (hr : meth.sig.returnType = (some .boolean)) (hlk : meth.locks = false)  : ∀ (n9 : Nat) (x1 : Int32) (x2 : Int32) (x3 : Int32) (x4 : Int32) (x5 : Int32) (H : Heap) (locs : List Loc) (ls : Array Slot), f_X8_hasAllRests_L6 st n9 x1 x2 x3 x4 x5 = some res → (WdM V ad A) st H → va_S A s.heap H locs → lv_has ls 6 [(0, .ref (ad 0)), (1, .int x1), (2, .int x2), (3, .int x3), (4, .int x4), (5, .int x5)] → W p l e (rmF 3 72 0 0) s m args below meth c H locs 0 0 (MQ below (Qwi A (WdM V ad A) res st) args s 0 0 A) (F0 m 6 ls []) := by
  intro n9
  induction n9 with
  | zero =>
    intro x1 x2 x3 x4 x5 H locs ls hf
    exact absurd hf (by unfold f_X8_hasAllRests_L6; exact fun h => by cases h)
  | succ n9 hr6 =>
    intro x1 x2 x3 x4 x5 H locs ls hf hW hS hl
    
    unfold f_X8_hasAllRests_L6 at hf
    refine lv_iload X.hx X.hb dX8_hasAllRests_6 (lv_at hl 5 rfl) ?_
    refine lv_aload_n X.hx X.hb dX8_hasAllRests_8 rfl (lv_at hl 0 rfl) ?_
    refine gX8_words X hW dX8_hasAllRests_9 ?_
    refine lv_icmp_ge (tgt := 55) X.hx X.hb dX8_hasAllRests_12 (by decide) (fun c12 => ?_) (fun c12 => ?_)
    · replace hf := ite_t c12 hf
      refine lv_iload X.hx X.hb dX8_hasAllRests_55 (lv_at hl 4 rfl) ?_
      obtain ⟨h57, hf⟩ := ite_n hf
      exact rt_z X hr hlk hW hS h57 (Option.some.inj hf) (Nat.le_refl _) (Nat.le_refl _) dX8_hasAllRests_57
    · replace hf := ite_f c12 hf
      refine lv_iload X.hx X.hb dX8_hasAllRests_15 (lv_at hl 4 rfl) ?_
      refine lv_if_eq (tgt := 46) X.hx X.hb dX8_hasAllRests_17 (by decide) (fun c17 => ?_) (fun c17 => ?_)
      · replace hf := ite_t c17 hf
        exact f_X8_hasAllRests_J46_w X hr hlk hr6 _ _ _ _ _ _ _  hf hW hS (lv_sub hl [0, 1, 2, 3, 5] rfl)
      · replace hf := ite_f c17 hf
        refine lv_aload_n X.hx X.hb dX8_hasAllRests_20 rfl (lv_at hl 0 rfl) ?_
        refine lv_iload_n X.hx X.hb dX8_hasAllRests_21 rfl (lv_at hl 2 rfl) ?_
        refine lv_iload X.hx X.hb dX8_hasAllRests_22 (lv_at hl 5 rfl) ?_
        obtain ⟨b24, h24, hf⟩ := bnd hf
        refine cl_i (run_V (As := [.int x2, .int x5]) (rest := []) X (w_X8_alike l V A ad h24) mw_X8_alike ln_X8_134 (rcX8 X hW) hW hS rfl hl.1 rfl (Nat.le_of_ble_eq_true rfl) ⟨Nat.le_of_ble_eq_true rfl, Nat.le_of_ble_eq_true rfl⟩ ⟨Nat.le_refl _, Nat.le_refl _⟩ dX8_hasAllRests_24) hS (fun H locs hW hS => ?_)
        refine lv_iload_n X.hx X.hb dX8_hasAllRests_27 rfl (lv_at hl 3 rfl) ?_
        refine lv_icmp_lt (tgt := 42) X.hx X.hb dX8_hasAllRests_28 (by decide) (fun c28 => ?_) (fun c28 => ?_)
        · replace hf := ite_t c28 hf
          exact f_X8_hasAllRests_J42_w X hr hlk hr6 _ _ _ _ _ _ _  hf hW hS (lv_sub hl [0, 1, 2, 3, 5] rfl)
        · replace hf := ite_f c28 hf
          refine lv_aload_n X.hx X.hb dX8_hasAllRests_31 rfl (lv_at hl 0 rfl) ?_
          refine lv_iload_n X.hx X.hb dX8_hasAllRests_32 rfl (lv_at hl 1 rfl) ?_
          refine lv_iload_n X.hx X.hb dX8_hasAllRests_33 rfl (lv_at hl 3 rfl) ?_
          refine lv_iload X.hx X.hb dX8_hasAllRests_34 (lv_at hl 5 rfl) ?_
          obtain ⟨b36, h36, hf⟩ := bnd hf
          refine cl_i (run_V (As := [.int x1, .int x3, .int x5]) (rest := []) X (w_X8_hasRest l V A ad h36) mw_X8_hasRest ln_X8_234 (rcX8 X hW) hW hS rfl hl.1 rfl (Nat.le_of_ble_eq_true rfl) ⟨Nat.le_of_ble_eq_true rfl, Nat.le_of_ble_eq_true rfl⟩ ⟨Nat.le_refl _, Nat.le_refl _⟩ dX8_hasAllRests_36) hS (fun H locs hW hS => ?_)
          refine lv_if_eq (tgt := 46) X.hx X.hb dX8_hasAllRests_39 (by decide) (fun c39 => ?_) (fun c39 => ?_)
          · replace hf := ite_t c39 hf
            exact f_X8_hasAllRests_J46_w X hr hlk hr6 _ _ _ _ _ _ _  hf hW hS (lv_sub hl [0, 1, 2, 3, 5] rfl)
          · replace hf := ite_f c39 hf
            exact f_X8_hasAllRests_J42_w X hr hlk hr6 _ _ _ _ _ _ _  hf hW hS (lv_sub hl [0, 1, 2, 3, 5] rfl)
noncomputable def f_X8_hasAllRests (st : St) (a1 : Int32) (a2 : Int32) (a3 : Int32) : Option Int32 := f_X8_hasAllRests_L6 st FU a1 a2 a3 1 0
set_option maxRecDepth 100000 in
theorem w_X8_hasAllRests (l : Launch) (V : Ev) (A : Nat → Prop) (ad : Nat → Nat) {st : St} {a1 : Int32} {a2 : Int32} {a3 : Int32} {res : Int32} (hf : f_X8_hasAllRests st a1 a2 a3 = some res) : Cn l yX8_hasAllRests cX8_hasAllRests 6 (some .boolean) 3 72 0 0 V A (WdM V ad A) st [.ref (ad 0), .int a1, .int a2, .int a3] (Qwi A (WdM V ad A) res st) := by
  refine cn_of RX8 (by decide) rfl (fun p e s m below meth c ls X hr hlk hW hS hl => ?_) (Nat.le_of_ble_eq_true rfl)
  have hl : lv_has ls 6 [(0, .ref (ad 0)), (1, .int a1), (2, .int a2), (3, .int a3)] := hl
  unfold f_X8_hasAllRests at hf
  refine lv_iconst (v := 1) X.hx X.hb dX8_hasAllRests_0 (by decide) ?_
  refine lv_istore (lv' := [(4, .int 1), (0, .ref (ad 0)), (1, .int a1), (2, .int a2), (3, .int a3)]) X.hx X.hb dX8_hasAllRests_1 hl (by decide) rfl (fun ls hl => ?_)
  refine lv_iconst (v := 0) X.hx X.hb dX8_hasAllRests_3 (by decide) ?_
  refine lv_istore (lv' := [(5, .int 0), (4, .int 1), (0, .ref (ad 0)), (1, .int a1), (2, .int a2), (3, .int a3)]) X.hx X.hb dX8_hasAllRests_4 hl (by decide) rfl (fun ls hl => ?_)
  exact f_X8_hasAllRests_L6_w X hr hlk FU _ _ _ _ _ _ _ _  hf hW hS (lv_sub hl [2, 3, 4, 5, 1, 0] rfl)
-- WordSquaresModel.likeOf
noncomputable def f_X8_likeOf_J22 (st : St) (r2 : Int32 → Int32 → Int32 → Option Int32) (x1 : Int32) (x2 : Int32) (x3 : Int32) : Option Int32 := lt (x3 + 1) fun w22 => r2 x1 x2 w22
set_option maxRecDepth 100000 in
theorem f_X8_likeOf_J22_w {st : St} {r2 : Int32 → Int32 → Int32 → Option Int32} {res : Int32} (X : Cx V A cX8_likeOf 4 RX8 p m c s args) (hr : meth.sig.returnType = (some .int)) (hlk : meth.locks = false) (hr2 : ∀ (x1 : Int32) (x2 : Int32) (x3 : Int32) (H : Heap) (locs : List Loc) (ls : Array Slot), r2 x1 x2 x3 = some res → (WdM V ad A) st H → va_S A s.heap H locs → lv_has ls 4 [(0, .ref (ad 0)), (1, .int x1), (2, .int x2), (3, .int x3)] → W p l e (rmF 4 97 0 0) s m args below meth c H locs 0 0 (MQ below (Qwi A (WdM V ad A) res st) args s 0 0 A) (F0 m 2 ls [])) (x1 : Int32) (x2 : Int32) (x3 : Int32) (H : Heap) (locs : List Loc) (ls : Array Slot)  (hf : f_X8_likeOf_J22 st r2 x1 x2 x3 = some res) (hW : (WdM V ad A) st H) (hS : va_S A s.heap H locs) (hl : lv_has ls 4 [(0, .ref (ad 0)), (1, .int x1), (2, .int x2), (3, .int x3)]) : W p l e (rmF 4 97 0 0) s m args below meth c H locs 0 0 (MQ below (Qwi A (WdM V ad A) res st) args s 0 0 A) (F0 m 22 ls []) := by
  
  unfold f_X8_likeOf_J22 at hf
  obtain ⟨w22, e22, hf⟩ := lt_e hf
  refine lv_iinc (v := w22) (lv' := [(3, .int w22), (0, .ref (ad 0)), (1, .int x1), (2, .int x2)]) X.hx X.hb dX8_likeOf_22 hl (k := 3) rfl (by rw [e22]; rfl) (by decide) rfl (fun ls hl => ?_)
  refine lv_goto (tgt := 2) X.hx X.hb dX8_likeOf_25 (by decide) ?_
  exact hr2 _ _ _ _ _ _  hf hW hS (lv_sub hl [1, 2, 3, 0] rfl)
noncomputable def f_X8_likeOf_L2 (st : St) : Nat → Int32 → Int32 → Int32 → Option Int32
  | 0, _, _, _ => none
  | fu + 1, x1, x2, x3 => (f_X8_hasAllRests st x3 x1 x2).bind fun b6 => if b6 = 0 then f_X8_likeOf_J22 st ((f_X8_likeOf_L2 st fu)) x1 x2 x3 else (f_X8_hasAllRests st x1 x3 x2).bind fun b16 => if b16 = 0 then f_X8_likeOf_J22 st ((f_X8_likeOf_L2 st fu)) x1 x2 x3 else some x3
set_option maxRecDepth 100000 in
theorem f_X8_likeOf_L2_w {st : St} {res : Int32} (X : Cx V A cX8_likeOf 4 RX8 p m c s args) (hr : meth.sig.returnType = (some .int)) (hlk : meth.locks = false)  : ∀ (n9 : Nat) (x1 : Int32) (x2 : Int32) (x3 : Int32) (H : Heap) (locs : List Loc) (ls : Array Slot), f_X8_likeOf_L2 st n9 x1 x2 x3 = some res → (WdM V ad A) st H → va_S A s.heap H locs → lv_has ls 4 [(0, .ref (ad 0)), (1, .int x1), (2, .int x2), (3, .int x3)] → W p l e (rmF 4 97 0 0) s m args below meth c H locs 0 0 (MQ below (Qwi A (WdM V ad A) res st) args s 0 0 A) (F0 m 2 ls []) := by
  intro n9
  induction n9 with
  | zero =>
    intro x1 x2 x3 H locs ls hf
    exact absurd hf (by unfold f_X8_likeOf_L2; exact fun h => by cases h)
  | succ n9 hr2 =>
    intro x1 x2 x3 H locs ls hf hW hS hl
    
    unfold f_X8_likeOf_L2 at hf
    refine lv_aload_n X.hx X.hb dX8_likeOf_2 rfl (lv_at hl 0 rfl) ?_
    refine lv_iload_n X.hx X.hb dX8_likeOf_3 rfl (lv_at hl 3 rfl) ?_
    refine lv_iload_n X.hx X.hb dX8_likeOf_4 rfl (lv_at hl 1 rfl) ?_
    refine lv_iload_n X.hx X.hb dX8_likeOf_5 rfl (lv_at hl 2 rfl) ?_
    obtain ⟨b6, h6, hf⟩ := bnd hf
    refine cl_i (run_V (As := [.int x3, .int x1, .int x2]) (rest := []) X (w_X8_hasAllRests l V A ad h6) mw_X8_hasAllRests ln_X8_237 (rcX8 X hW) hW hS rfl hl.1 rfl (Nat.le_of_ble_eq_true rfl) ⟨Nat.le_of_ble_eq_true rfl, Nat.le_of_ble_eq_true rfl⟩ ⟨Nat.le_refl _, Nat.le_refl _⟩ dX8_likeOf_6) hS (fun H locs hW hS => ?_)
    refine lv_if_eq (tgt := 22) X.hx X.hb dX8_likeOf_9 (by decide) (fun c9 => ?_) (fun c9 => ?_)
    · replace hf := ite_t c9 hf
      exact f_X8_likeOf_J22_w X hr hlk hr2 _ _ _ _ _ _  hf hW hS (lv_sub hl [0, 1, 2, 3] rfl)
    · replace hf := ite_f c9 hf
      refine lv_aload_n X.hx X.hb dX8_likeOf_12 rfl (lv_at hl 0 rfl) ?_
      refine lv_iload_n X.hx X.hb dX8_likeOf_13 rfl (lv_at hl 1 rfl) ?_
      refine lv_iload_n X.hx X.hb dX8_likeOf_14 rfl (lv_at hl 3 rfl) ?_
      refine lv_iload_n X.hx X.hb dX8_likeOf_15 rfl (lv_at hl 2 rfl) ?_
      obtain ⟨b16, h16, hf⟩ := bnd hf
      refine cl_i (run_V (As := [.int x1, .int x3, .int x2]) (rest := []) X (w_X8_hasAllRests l V A ad h16) mw_X8_hasAllRests ln_X8_237 (rcX8 X hW) hW hS rfl hl.1 rfl (Nat.le_of_ble_eq_true rfl) ⟨Nat.le_of_ble_eq_true rfl, Nat.le_of_ble_eq_true rfl⟩ ⟨Nat.le_refl _, Nat.le_refl _⟩ dX8_likeOf_16) hS (fun H locs hW hS => ?_)
      refine lv_if_ne (tgt := 28) X.hx X.hb dX8_likeOf_19 (by decide) (fun c19 => ?_) (fun c19 => ?_)
      · replace hf := ite_f c19 hf
        refine lv_iload_n X.hx X.hb dX8_likeOf_28 rfl (lv_at hl 3 rfl) ?_
        exact rt_i X hr hlk hW hS (Option.some.inj hf) (Nat.le_refl _) (Nat.le_refl _) dX8_likeOf_29
      · replace hf := ite_t c19 hf
        exact f_X8_likeOf_J22_w X hr hlk hr2 _ _ _ _ _ _  hf hW hS (lv_sub hl [0, 1, 2, 3] rfl)
noncomputable def f_X8_likeOf (st : St) (a1 : Int32) (a2 : Int32) : Option Int32 := f_X8_likeOf_L2 st FU a1 a2 0
set_option maxRecDepth 100000 in
theorem w_X8_likeOf (l : Launch) (V : Ev) (A : Nat → Prop) (ad : Nat → Nat) {st : St} {a1 : Int32} {a2 : Int32} {res : Int32} (hf : f_X8_likeOf st a1 a2 = some res) : Cn l yX8_likeOf cX8_likeOf 4 (some .int) 4 97 0 0 V A (WdM V ad A) st [.ref (ad 0), .int a1, .int a2] (Qwi A (WdM V ad A) res st) := by
  refine cn_of RX8 (by decide) rfl (fun p e s m below meth c ls X hr hlk hW hS hl => ?_) (Nat.le_of_ble_eq_true rfl)
  have hl : lv_has ls 4 [(0, .ref (ad 0)), (1, .int a1), (2, .int a2)] := hl
  unfold f_X8_likeOf at hf
  refine lv_iconst (v := 0) X.hx X.hb dX8_likeOf_0 (by decide) ?_
  refine lv_istore_n (lv' := [(3, .int 0), (0, .ref (ad 0)), (1, .int a1), (2, .int a2)]) X.hx X.hb dX8_likeOf_1 rfl hl (by decide) rfl (fun ls hl => ?_)
  exact f_X8_likeOf_L2_w X hr hlk FU _ _ _ _ _ _  hf hW hS (lv_sub hl [1, 2, 3, 0] rfl)
-- WordSquaresModel.keyOf
noncomputable def f_X8_keyOf_J35 (st : St) (r4 : Int32 → Int32 → Int32 → Option Int32) (x1 : Int32) (x3 : Int32) (t0 : Int32) (t1 : Int32) : Option Int32 := lt (t1 + t0) fun w36 => lt (x3 + 1) fun w37 => r4 x1 w36 w37
set_option maxRecDepth 100000 in
theorem f_X8_keyOf_J35_w {st : St} {r4 : Int32 → Int32 → Int32 → Option Int32} {res : Int32} (X : Cx V A cX8_keyOf 4 RX8 p m c s args) (hr : meth.sig.returnType = (some .int)) (hlk : meth.locks = false) (hr4 : ∀ (x1 : Int32) (x2 : Int32) (x3 : Int32) (H : Heap) (locs : List Loc) (ls : Array Slot), r4 x1 x2 x3 = some res → (WdM V ad A) st H → va_S A s.heap H locs → lv_has ls 4 [(0, .ref (ad 0)), (1, .int x1), (2, .int x2), (3, .int x3)] → W p l e (rmF 5 120 0 0) s m args below meth c H locs 0 0 (MQ below (Qwi A (WdM V ad A) res st) args s 0 0 A) (F0 m 4 ls [])) (x1 : Int32) (x3 : Int32) (t0 : Int32) (t1 : Int32) (H : Heap) (locs : List Loc) (ls : Array Slot)  (hf : f_X8_keyOf_J35 st r4 x1 x3 t0 t1 = some res) (hW : (WdM V ad A) st H) (hS : va_S A s.heap H locs) (hl : lv_has ls 4 [(0, .ref (ad 0)), (1, .int x1), (3, .int x3)]) : W p l e (rmF 5 120 0 0) s m args below meth c H locs 0 0 (MQ below (Qwi A (WdM V ad A) res st) args s 0 0 A) (F0 m 35 ls [.int t0, .int t1]) := by
  
  unfold f_X8_keyOf_J35 at hf
  refine lv_iadd X.hx X.hb dX8_keyOf_35 ?_
  obtain ⟨w36, e36, hf⟩ := lt_e hf
  refine lv_nm e36 ?_
  refine lv_istore_n (lv' := [(2, .int w36), (0, .ref (ad 0)), (1, .int x1), (3, .int x3)]) X.hx X.hb dX8_keyOf_36 rfl hl (by decide) rfl (fun ls hl => ?_)
  obtain ⟨w37, e37, hf⟩ := lt_e hf
  refine lv_iinc (v := w37) (lv' := [(3, .int w37), (2, .int w36), (0, .ref (ad 0)), (1, .int x1)]) X.hx X.hb dX8_keyOf_37 hl (k := 3) rfl (by rw [e37]; rfl) (by decide) rfl (fun ls hl => ?_)
  refine lv_goto (tgt := 4) X.hx X.hb dX8_keyOf_40 (by decide) ?_
  exact hr4 _ _ _ _ _ _  hf hW hS (lv_sub hl [2, 3, 1, 0] rfl)
noncomputable def f_X8_keyOf_L4 (st : St) : Nat → Int32 → Int32 → Int32 → Option Int32
  | 0, _, _, _ => none
  | fu + 1, x1, x2, x3 => if (st.1 0) ≤ x3 then some x2 else if x1 = 0 then f_X8_keyOf_J35 st ((f_X8_keyOf_L4 st fu)) x1 x3 0 (16 * x2) else if inb x3 4 = true then (f_X8_likeOf st (st.2.1 16 x3.toNatClampNeg) x1).bind fun b32 => f_X8_keyOf_J35 st ((f_X8_keyOf_L4 st fu)) x1 x3 b32 (16 * x2) else none
set_option maxRecDepth 100000 in
theorem f_X8_keyOf_L4_w {st : St} {res : Int32} (X : Cx V A cX8_keyOf 4 RX8 p m c s args) (hr : meth.sig.returnType = (some .int)) (hlk : meth.locks = false)  : ∀ (n9 : Nat) (x1 : Int32) (x2 : Int32) (x3 : Int32) (H : Heap) (locs : List Loc) (ls : Array Slot), f_X8_keyOf_L4 st n9 x1 x2 x3 = some res → (WdM V ad A) st H → va_S A s.heap H locs → lv_has ls 4 [(0, .ref (ad 0)), (1, .int x1), (2, .int x2), (3, .int x3)] → W p l e (rmF 5 120 0 0) s m args below meth c H locs 0 0 (MQ below (Qwi A (WdM V ad A) res st) args s 0 0 A) (F0 m 4 ls []) := by
  intro n9
  induction n9 with
  | zero =>
    intro x1 x2 x3 H locs ls hf
    exact absurd hf (by unfold f_X8_keyOf_L4; exact fun h => by cases h)
  | succ n9 hr4 =>
    intro x1 x2 x3 H locs ls hf hW hS hl
    
    unfold f_X8_keyOf_L4 at hf
    refine lv_iload_n X.hx X.hb dX8_keyOf_4 rfl (lv_at hl 3 rfl) ?_
    refine lv_aload_n X.hx X.hb dX8_keyOf_5 rfl (lv_at hl 0 rfl) ?_
    refine gX8_length X hW dX8_keyOf_6 ?_
    refine lv_icmp_ge (tgt := 43) X.hx X.hb dX8_keyOf_9 (by decide) (fun c9 => ?_) (fun c9 => ?_)
    · replace hf := ite_t c9 hf
      refine lv_iload_n X.hx X.hb dX8_keyOf_43 rfl (lv_at hl 2 rfl) ?_
      exact rt_i X hr hlk hW hS (Option.some.inj hf) (Nat.le_refl _) (Nat.le_refl _) dX8_keyOf_44
    · replace hf := ite_f c9 hf
      refine lv_bipush (v := 16) X.hx X.hb dX8_keyOf_12 (by decide) ?_
      refine lv_iload_n X.hx X.hb dX8_keyOf_14 rfl (lv_at hl 2 rfl) ?_
      refine lv_imul X.hx X.hb dX8_keyOf_15 ?_
      refine lv_iload_n X.hx X.hb dX8_keyOf_16 rfl (lv_at hl 1 rfl) ?_
      refine lv_if_ne (tgt := 24) X.hx X.hb dX8_keyOf_17 (by decide) (fun c17 => ?_) (fun c17 => ?_)
      · replace hf := ite_f c17 hf
        refine lv_aload_n X.hx X.hb dX8_keyOf_24 rfl (lv_at hl 0 rfl) ?_
        refine lv_aload_n X.hx X.hb dX8_keyOf_25 rfl (lv_at hl 0 rfl) ?_
        refine gX8_columnBy X hW dX8_keyOf_26 ?_
        refine lv_iload_n X.hx X.hb dX8_keyOf_29 rfl (lv_at hl 3 rfl) ?_
        obtain ⟨h30, hf⟩ := ite_n hf
        refine aM_ld X hW isM_16 rfl h30 dX8_keyOf_30 ?_
        refine lv_iload_n X.hx X.hb dX8_keyOf_31 rfl (lv_at hl 1 rfl) ?_
        obtain ⟨b32, h32, hf⟩ := bnd hf
        refine cl_i (run_V (As := [.int (st.2.1 16 x3.toNatClampNeg), .int x1]) (rest := [.int (16 * x2)]) X (w_X8_likeOf l V A ad h32) mw_X8_likeOf ln_X8_240 (rcX8 X hW) hW hS rfl hl.1 rfl (Nat.le_of_ble_eq_true rfl) ⟨Nat.le_of_ble_eq_true rfl, Nat.le_of_ble_eq_true rfl⟩ ⟨Nat.le_refl _, Nat.le_refl _⟩ dX8_keyOf_32) hS (fun H locs hW hS => ?_)
        exact f_X8_keyOf_J35_w X hr hlk hr4 _ _ _ _ _ _ _  hf hW hS (lv_sub hl [0, 1, 3] rfl)
      · replace hf := ite_t c17 hf
        refine lv_iconst (v := 0) X.hx X.hb dX8_keyOf_20 (by decide) ?_
        refine lv_goto (tgt := 35) X.hx X.hb dX8_keyOf_21 (by decide) ?_
        exact f_X8_keyOf_J35_w X hr hlk hr4 _ _ _ _ _ _ _  hf hW hS (lv_sub hl [0, 1, 3] rfl)
noncomputable def f_X8_keyOf (st : St) (a1 : Int32) : Option Int32 := f_X8_keyOf_L4 st FU a1 a1 0
set_option maxRecDepth 100000 in
theorem w_X8_keyOf (l : Launch) (V : Ev) (A : Nat → Prop) (ad : Nat → Nat) {st : St} {a1 : Int32} {res : Int32} (hf : f_X8_keyOf st a1 = some res) : Cn l yX8_keyOf cX8_keyOf 4 (some .int) 5 120 0 0 V A (WdM V ad A) st [.ref (ad 0), .int a1] (Qwi A (WdM V ad A) res st) := by
  refine cn_of RX8 (by decide) rfl (fun p e s m below meth c ls X hr hlk hW hS hl => ?_) (Nat.le_of_ble_eq_true rfl)
  have hl : lv_has ls 4 [(0, .ref (ad 0)), (1, .int a1)] := hl
  unfold f_X8_keyOf at hf
  refine lv_iload_n X.hx X.hb dX8_keyOf_0 rfl (lv_at hl 1 rfl) ?_
  refine lv_istore_n (lv' := [(2, .int a1), (0, .ref (ad 0)), (1, .int a1)]) X.hx X.hb dX8_keyOf_1 rfl hl (by decide) rfl (fun ls hl => ?_)
  refine lv_iconst (v := 0) X.hx X.hb dX8_keyOf_2 (by decide) ?_
  refine lv_istore_n (lv' := [(3, .int 0), (2, .int a1), (0, .ref (ad 0)), (1, .int a1)]) X.hx X.hb dX8_keyOf_3 rfl hl (by decide) rfl (fun ls hl => ?_)
  exact f_X8_keyOf_L4_w X hr hlk FU _ _ _ _ _ _  hf hW hS (lv_sub hl [2, 3, 1, 0] rfl)
-- WordSquaresModel.isKept
noncomputable def f_X8_isKept_J31 (st : St) (r4 : Int32 → Int32 → Int32 → Option Int32) (x1 : Int32) (x3 : Int32) (t0 : Int32) : Option Int32 := lt (x3 + 1) fun w32 => r4 x1 t0 w32
set_option maxRecDepth 100000 in
theorem f_X8_isKept_J31_w {st : St} {r4 : Int32 → Int32 → Int32 → Option Int32} {res : Int32} (X : Cx V A cX8_isKept 4 RX8 p m c s args) (hr : meth.sig.returnType = (some .boolean)) (hlk : meth.locks = false) (hr4 : ∀ (x1 : Int32) (x2 : Int32) (x3 : Int32) (H : Heap) (locs : List Loc) (ls : Array Slot), r4 x1 x2 x3 = some res → (WdM V ad A) st H → va_S A s.heap H locs → lv_has ls 4 [(0, .ref (ad 0)), (1, .int x1), (2, .int x2), (3, .int x3)] → W p l e (rmF 0 0 0 0) s m args below meth c H locs 0 0 (MQ below (Qwi A (WdM V ad A) res st) args s 0 0 A) (F0 m 4 ls [])) (x1 : Int32) (x3 : Int32) (t0 : Int32) (H : Heap) (locs : List Loc) (ls : Array Slot)  (hf : f_X8_isKept_J31 st r4 x1 x3 t0 = some res) (hW : (WdM V ad A) st H) (hS : va_S A s.heap H locs) (hl : lv_has ls 4 [(0, .ref (ad 0)), (1, .int x1), (3, .int x3)]) : W p l e (rmF 0 0 0 0) s m args below meth c H locs 0 0 (MQ below (Qwi A (WdM V ad A) res st) args s 0 0 A) (F0 m 31 ls [.int t0]) := by
  
  unfold f_X8_isKept_J31 at hf
  refine lv_istore_n (lv' := [(2, .int t0), (0, .ref (ad 0)), (1, .int x1), (3, .int x3)]) X.hx X.hb dX8_isKept_31 rfl hl (by decide) rfl (fun ls hl => ?_)
  obtain ⟨w32, e32, hf⟩ := lt_e hf
  refine lv_iinc (v := w32) (lv' := [(3, .int w32), (2, .int t0), (0, .ref (ad 0)), (1, .int x1)]) X.hx X.hb dX8_isKept_32 hl (k := 3) rfl (by rw [e32]; rfl) (by decide) rfl (fun ls hl => ?_)
  refine lv_goto (tgt := 4) X.hx X.hb dX8_isKept_35 (by decide) ?_
  exact hr4 _ _ _ _ _ _  hf hW hS (lv_sub hl [2, 3, 1, 0] rfl)
noncomputable def f_X8_isKept_J26 (st : St) (r4 : Int32 → Int32 → Int32 → Option Int32) (x1 : Int32) (x3 : Int32) : Option Int32 := f_X8_isKept_J31 st r4 x1 x3 1
set_option maxRecDepth 100000 in
theorem f_X8_isKept_J26_w {st : St} {r4 : Int32 → Int32 → Int32 → Option Int32} {res : Int32} (X : Cx V A cX8_isKept 4 RX8 p m c s args) (hr : meth.sig.returnType = (some .boolean)) (hlk : meth.locks = false) (hr4 : ∀ (x1 : Int32) (x2 : Int32) (x3 : Int32) (H : Heap) (locs : List Loc) (ls : Array Slot), r4 x1 x2 x3 = some res → (WdM V ad A) st H → va_S A s.heap H locs → lv_has ls 4 [(0, .ref (ad 0)), (1, .int x1), (2, .int x2), (3, .int x3)] → W p l e (rmF 0 0 0 0) s m args below meth c H locs 0 0 (MQ below (Qwi A (WdM V ad A) res st) args s 0 0 A) (F0 m 4 ls [])) (x1 : Int32) (x3 : Int32) (H : Heap) (locs : List Loc) (ls : Array Slot)  (hf : f_X8_isKept_J26 st r4 x1 x3 = some res) (hW : (WdM V ad A) st H) (hS : va_S A s.heap H locs) (hl : lv_has ls 4 [(0, .ref (ad 0)), (1, .int x1), (3, .int x3)]) : W p l e (rmF 0 0 0 0) s m args below meth c H locs 0 0 (MQ below (Qwi A (WdM V ad A) res st) args s 0 0 A) (F0 m 26 ls []) := by
  
  unfold f_X8_isKept_J26 at hf
  refine lv_iconst (v := 1) X.hx X.hb dX8_isKept_26 (by decide) ?_
  refine lv_goto (tgt := 31) X.hx X.hb dX8_isKept_27 (by decide) ?_
  exact f_X8_isKept_J31_w X hr hlk hr4 _ _ _ _ _ _  hf hW hS (lv_sub hl [0, 1, 2] rfl)
noncomputable def f_X8_isKept_L4 (st : St) : Nat → Int32 → Int32 → Int32 → Option Int32
  | 0, _, _, _ => none
  | fu + 1, x1, x2, x3 => if (st.1 12) ≤ x3 then if x2 = 0 ∨ x2 = 1 then some x2 else none else if x2 = 0 then if inb x3 2000 = true then if (st.2.1 17 x3.toNatClampNeg) = x1 then f_X8_isKept_J26 st ((f_X8_isKept_L4 st fu)) x1 x3 else f_X8_isKept_J31 st ((f_X8_isKept_L4 st fu)) x1 x3 0 else none else f_X8_isKept_J26 st ((f_X8_isKept_L4 st fu)) x1 x3
set_option maxRecDepth 100000 in
theorem f_X8_isKept_L4_w {st : St} {res : Int32} (X : Cx V A cX8_isKept 4 RX8 p m c s args) (hr : meth.sig.returnType = (some .boolean)) (hlk : meth.locks = false)  : ∀ (n9 : Nat) (x1 : Int32) (x2 : Int32) (x3 : Int32) (H : Heap) (locs : List Loc) (ls : Array Slot), f_X8_isKept_L4 st n9 x1 x2 x3 = some res → (WdM V ad A) st H → va_S A s.heap H locs → lv_has ls 4 [(0, .ref (ad 0)), (1, .int x1), (2, .int x2), (3, .int x3)] → W p l e (rmF 0 0 0 0) s m args below meth c H locs 0 0 (MQ below (Qwi A (WdM V ad A) res st) args s 0 0 A) (F0 m 4 ls []) := by
  intro n9
  induction n9 with
  | zero =>
    intro x1 x2 x3 H locs ls hf
    exact absurd hf (by unfold f_X8_isKept_L4; exact fun h => by cases h)
  | succ n9 hr4 =>
    intro x1 x2 x3 H locs ls hf hW hS hl
    
    unfold f_X8_isKept_L4 at hf
    refine lv_iload_n X.hx X.hb dX8_isKept_4 rfl (lv_at hl 3 rfl) ?_
    refine lv_aload_n X.hx X.hb dX8_isKept_5 rfl (lv_at hl 0 rfl) ?_
    refine gX8_keptMany X hW dX8_isKept_6 ?_
    refine lv_icmp_ge (tgt := 38) X.hx X.hb dX8_isKept_9 (by decide) (fun c9 => ?_) (fun c9 => ?_)
    · replace hf := ite_t c9 hf
      refine lv_iload_n X.hx X.hb dX8_isKept_38 rfl (lv_at hl 2 rfl) ?_
      obtain ⟨h39, hf⟩ := ite_n hf
      exact rt_z X hr hlk hW hS h39 (Option.some.inj hf) (Nat.le_refl _) (Nat.le_refl _) dX8_isKept_39
    · replace hf := ite_f c9 hf
      refine lv_iload_n X.hx X.hb dX8_isKept_12 rfl (lv_at hl 2 rfl) ?_
      refine lv_if_ne (tgt := 26) X.hx X.hb dX8_isKept_13 (by decide) (fun c13 => ?_) (fun c13 => ?_)
      · replace hf := ite_f c13 hf
        exact f_X8_isKept_J26_w X hr hlk hr4 _ _ _ _ _  hf hW hS (lv_sub hl [0, 1, 3] rfl)
      · replace hf := ite_t c13 hf
        refine lv_aload_n X.hx X.hb dX8_isKept_16 rfl (lv_at hl 0 rfl) ?_
        refine gX8_kept X hW dX8_isKept_17 ?_
        refine lv_iload_n X.hx X.hb dX8_isKept_20 rfl (lv_at hl 3 rfl) ?_
        obtain ⟨h21, hf⟩ := ite_n hf
        refine aM_ld X hW isM_17 rfl h21 dX8_isKept_21 ?_
        refine lv_iload_n X.hx X.hb dX8_isKept_22 rfl (lv_at hl 1 rfl) ?_
        refine lv_icmp_ne (tgt := 30) X.hx X.hb dX8_isKept_23 (by decide) (fun c23 => ?_) (fun c23 => ?_)
        · replace hf := ite_f c23 hf
          refine lv_iconst (v := 0) X.hx X.hb dX8_isKept_30 (by decide) ?_
          exact f_X8_isKept_J31_w X hr hlk hr4 _ _ _ _ _ _  hf hW hS (lv_sub hl [0, 1, 3] rfl)
        · replace hf := ite_t c23 hf
          exact f_X8_isKept_J26_w X hr hlk hr4 _ _ _ _ _  hf hW hS (lv_sub hl [0, 1, 3] rfl)
noncomputable def f_X8_isKept (st : St) (a1 : Int32) : Option Int32 := f_X8_isKept_L4 st FU a1 0 0
set_option maxRecDepth 100000 in
theorem w_X8_isKept (l : Launch) (V : Ev) (A : Nat → Prop) (ad : Nat → Nat) {st : St} {a1 : Int32} {res : Int32} (hf : f_X8_isKept st a1 = some res) : Cn l yX8_isKept cX8_isKept 4 (some .boolean) 0 0 0 0 V A (WdM V ad A) st [.ref (ad 0), .int a1] (Qwi A (WdM V ad A) res st) := by
  refine cn_of RX8 (by decide) rfl (fun p e s m below meth c ls X hr hlk hW hS hl => ?_) (Nat.le_of_ble_eq_true rfl)
  have hl : lv_has ls 4 [(0, .ref (ad 0)), (1, .int a1)] := hl
  unfold f_X8_isKept at hf
  refine lv_iconst (v := 0) X.hx X.hb dX8_isKept_0 (by decide) ?_
  refine lv_istore_n (lv' := [(2, .int 0), (0, .ref (ad 0)), (1, .int a1)]) X.hx X.hb dX8_isKept_1 rfl hl (by decide) rfl (fun ls hl => ?_)
  refine lv_iconst (v := 0) X.hx X.hb dX8_isKept_2 (by decide) ?_
  refine lv_istore_n (lv' := [(3, .int 0), (2, .int 0), (0, .ref (ad 0)), (1, .int a1)]) X.hx X.hb dX8_isKept_3 rfl hl (by decide) rfl (fun ls hl => ?_)
  exact f_X8_isKept_L4_w X hr hlk FU _ _ _ _ _ _  hf hW hS (lv_sub hl [2, 3, 1, 0] rfl)
-- WordSquaresModel.leave
noncomputable def f_X8_leave (st : St) (a1 : Int32) (a2 : Int32) : Option St := if inb a1 5 = true then if (st.2.1 15 a1.toNatClampNeg) = 0 then lt (sI st 10 ((st.1 10) + 1)) fun s30 => if a2 = 0 then some s30 else (f_X8_isState s30 a1).bind fun b39 => (f_X8_keyOf b39.2 a1).bind fun b45 => (f_X8_isKept b39.2 b45).bind fun b51 => if b51 = 0 then if inb (b39.2.1 12) 2000 = true then lt (sA b39.2 17 (b39.2.1 12).toNatClampNeg b45) fun s66 => lt (sI s66 12 ((s66.1 12) + 1)) fun s74 => some s74 else none else some b39.2 else if a1 ≤ 0 then some st else if inb (a1 - 1) 5 = true then lt (sA st 15 (a1 - 1).toNatClampNeg 1) fun s21 => some s21 else none else none
set_option maxRecDepth 100000 in
theorem w_X8_leave (l : Launch) (V : Ev) (A : Nat → Prop) (ad : Nat → Nat) {st : St} {a1 : Int32} {a2 : Int32} {res : St} (hf : f_X8_leave st a1 a2 = some res) : Cn l yX8_leave cX8_leave 4 none 6 143 0 0 V A (WdM V ad A) st [.ref (ad 0), .int a1, .int a2] (Qwv A (WdM V ad A) res) := by
  refine cn_of RX8 (by decide) rfl (fun p e s m below meth c ls X hr hlk hW hS hl => ?_) (Nat.le_of_ble_eq_true rfl)
  have hl : lv_has ls 4 [(0, .ref (ad 0)), (1, .int a1), (2, .int a2)] := hl
  unfold f_X8_leave at hf
  refine lv_aload_n X.hx X.hb dX8_leave_0 rfl (lv_at hl 0 rfl) ?_
  refine gX8_isLed X hW dX8_leave_1 ?_
  refine lv_iload_n X.hx X.hb dX8_leave_4 rfl (lv_at hl 1 rfl) ?_
  obtain ⟨h5, hf⟩ := ite_n hf
  refine zM_ld X hW h5 dX8_leave_5 ?_
  refine lv_if_eq (tgt := 23) X.hx X.hb dX8_leave_6 (by decide) (fun c6 => ?_) (fun c6 => ?_)
  · replace hf := ite_t c6 hf
    refine lv_aload_n X.hx X.hb dX8_leave_23 rfl (lv_at hl 0 rfl) ?_
    refine lv_dup X.hx X.hb dX8_leave_24 rfl ?_
    refine gX8_dead X hW dX8_leave_25 ?_
    refine lv_iconst (v := 1) X.hx X.hb dX8_leave_28 (by decide) ?_
    refine lv_iadd X.hx X.hb dX8_leave_29 ?_
    obtain ⟨s30, e30, hf⟩ := lt_e hf
    refine pX8_dead X hW hS dX8_leave_30 (fun H locs hW hS => ?_)
    rw [← e30] at hW
    refine lv_iload_n X.hx X.hb dX8_leave_33 rfl (lv_at hl 2 rfl) ?_
    refine lv_if_eq (tgt := 77) X.hx X.hb dX8_leave_34 (by decide) (fun c34 => ?_) (fun c34 => ?_)
    · replace hf := ite_t c34 hf
      exact rt_v X hr hlk (by rw [← Option.some.inj hf]; exact hW) hS (Nat.le_refl _) (Nat.le_refl _) dX8_leave_77
    · replace hf := ite_f c34 hf
      refine lv_aload_n X.hx X.hb dX8_leave_37 rfl (lv_at hl 0 rfl) ?_
      refine lv_iload_n X.hx X.hb dX8_leave_38 rfl (lv_at hl 1 rfl) ?_
      obtain ⟨b39, h39, hf⟩ := bnd hf
      refine cl_i (run_V (As := [.int a1]) (rest := []) X (w_X8_isState l V A ad h39) mw_X8_isState ln_X8_249 (rcX8 X hW) hW hS rfl hl.1 rfl (Nat.le_of_ble_eq_true rfl) ⟨Nat.le_of_ble_eq_true rfl, Nat.le_of_ble_eq_true rfl⟩ ⟨Nat.le_refl _, Nat.le_refl _⟩ dX8_leave_39) hS (fun H locs hW hS => ?_)
      refine lv_pop X.hx X.hb dX8_leave_42 rfl ?_
      refine lv_aload_n X.hx X.hb dX8_leave_43 rfl (lv_at hl 0 rfl) ?_
      refine lv_iload_n X.hx X.hb dX8_leave_44 rfl (lv_at hl 1 rfl) ?_
      obtain ⟨b45, h45, hf⟩ := bnd hf
      refine cl_i (run_V (As := [.int a1]) (rest := []) X (w_X8_keyOf l V A ad h45) mw_X8_keyOf ln_X8_252 (rcX8 X hW) hW hS rfl hl.1 rfl (Nat.le_of_ble_eq_true rfl) ⟨Nat.le_of_ble_eq_true rfl, Nat.le_of_ble_eq_true rfl⟩ ⟨Nat.le_refl _, Nat.le_refl _⟩ dX8_leave_45) hS (fun H locs hW hS => ?_)
      refine lv_istore_n (lv' := [(3, .int b45), (0, .ref (ad 0)), (1, .int a1), (2, .int a2)]) X.hx X.hb dX8_leave_48 rfl hl (by decide) rfl (fun ls hl => ?_)
      refine lv_aload_n X.hx X.hb dX8_leave_49 rfl (lv_at hl 1 rfl) ?_
      refine lv_iload_n X.hx X.hb dX8_leave_50 rfl (lv_at hl 0 rfl) ?_
      obtain ⟨b51, h51, hf⟩ := bnd hf
      refine cl_i (run_V (As := [.int b45]) (rest := []) X (w_X8_isKept l V A ad h51) mw_X8_isKept ln_X8_255 (rcX8 X hW) hW hS rfl hl.1 rfl (Nat.le_of_ble_eq_true rfl) ⟨Nat.le_of_ble_eq_true rfl, Nat.le_of_ble_eq_true rfl⟩ ⟨Nat.le_refl _, Nat.le_refl _⟩ dX8_leave_51) hS (fun H locs hW hS => ?_)
      refine lv_if_ne (tgt := 77) X.hx X.hb dX8_leave_54 (by decide) (fun c54 => ?_) (fun c54 => ?_)
      · replace hf := ite_f c54 hf
        exact rt_v X hr hlk (by rw [← Option.some.inj hf]; exact hW) hS (Nat.le_refl _) (Nat.le_refl _) dX8_leave_77
      · replace hf := ite_t c54 hf
        refine lv_aload_n X.hx X.hb dX8_leave_57 rfl (lv_at hl 1 rfl) ?_
        refine gX8_kept X hW dX8_leave_58 ?_
        refine lv_aload_n X.hx X.hb dX8_leave_61 rfl (lv_at hl 1 rfl) ?_
        refine gX8_keptMany X hW dX8_leave_62 ?_
        refine lv_iload_n X.hx X.hb dX8_leave_65 rfl (lv_at hl 0 rfl) ?_
        obtain ⟨h66, hf⟩ := ite_n hf
        obtain ⟨s66, e66, hf⟩ := lt_e hf
        refine aM_st X hW hS isM_17 rfl h66 dX8_leave_66 (fun H locs hW hS => ?_)
        rw [← e66] at hW
        refine lv_aload_n X.hx X.hb dX8_leave_67 rfl (lv_at hl 1 rfl) ?_
        refine lv_dup X.hx X.hb dX8_leave_68 rfl ?_
        refine gX8_keptMany X hW dX8_leave_69 ?_
        refine lv_iconst (v := 1) X.hx X.hb dX8_leave_72 (by decide) ?_
        refine lv_iadd X.hx X.hb dX8_leave_73 ?_
        obtain ⟨s74, e74, hf⟩ := lt_e hf
        refine pX8_keptMany X hW hS dX8_leave_74 (fun H locs hW hS => ?_)
        rw [← e74] at hW
        exact rt_v X hr hlk (by rw [← Option.some.inj hf]; exact hW) hS (Nat.le_refl _) (Nat.le_refl _) dX8_leave_77
  · replace hf := ite_f c6 hf
    refine lv_iload_n X.hx X.hb dX8_leave_9 rfl (lv_at hl 1 rfl) ?_
    refine lv_if_le (tgt := 22) X.hx X.hb dX8_leave_10 (by decide) (fun c10 => ?_) (fun c10 => ?_)
    · replace hf := ite_t c10 hf
      exact rt_v X hr hlk (by rw [← Option.some.inj hf]; exact hW) hS (Nat.le_refl _) (Nat.le_refl _) dX8_leave_22
    · replace hf := ite_f c10 hf
      refine lv_aload_n X.hx X.hb dX8_leave_13 rfl (lv_at hl 0 rfl) ?_
      refine gX8_isLed X hW dX8_leave_14 ?_
      refine lv_iload_n X.hx X.hb dX8_leave_17 rfl (lv_at hl 1 rfl) ?_
      refine lv_iconst (v := 1) X.hx X.hb dX8_leave_18 (by decide) ?_
      refine lv_isub X.hx X.hb dX8_leave_19 ?_
      refine lv_iconst (v := 1) X.hx X.hb dX8_leave_20 (by decide) ?_
      obtain ⟨h21, hf⟩ := ite_n hf
      obtain ⟨s21, e21, hf⟩ := lt_e hf
      refine zM_st X hW hS (Or.inr rfl) h21 dX8_leave_21 (fun H locs hW hS => ?_)
      rw [← e21] at hW
      exact rt_v X hr hlk (by rw [← Option.some.inj hf]; exact hW) hS (Nat.le_refl _) (Nat.le_refl _) dX8_leave_22
-- WordSquaresModel.visit
noncomputable def f_X8_visit_J61 (st : St) (x1 : Int32) : Option (Int32 × St) := if inb x1 5 = true then lt (sA st 14 x1.toNatClampNeg 0) fun s67 => if inb x1 5 = true then lt (sA s67 15 x1.toNatClampNeg 0) fun s74 => some (x1, s74) else none else none
set_option maxRecDepth 100000 in
theorem f_X8_visit_J61_w {res : (Int32 × St)} (X : Cx V A cX8_visit 3 RX8 p m c s args) (hr : meth.sig.returnType = (some .int)) (hlk : meth.locks = false)  (st : St) (x1 : Int32) (H : Heap) (locs : List Loc) (ls : Array Slot)  (hf : f_X8_visit_J61 st x1 = some res) (hW : (WdM V ad A) st H) (hS : va_S A s.heap H locs) (hl : lv_has ls 3 [(0, .ref (ad 0)), (1, .int x1)]) : W p l e (rmF 6 143 0 0) s m args below meth c H locs 0 0 (MQ below (Qwi A (WdM V ad A) res.1 res.2) args s 0 0 A) (F0 m 61 ls []) := by
  
  unfold f_X8_visit_J61 at hf
  refine lv_aload_n X.hx X.hb dX8_visit_61 rfl (lv_at hl 0 rfl) ?_
  refine gX8_tried X hW dX8_visit_62 ?_
  refine lv_iload_n X.hx X.hb dX8_visit_65 rfl (lv_at hl 1 rfl) ?_
  refine lv_iconst (v := 0) X.hx X.hb dX8_visit_66 (by decide) ?_
  obtain ⟨h67, hf⟩ := ite_n hf
  obtain ⟨s67, e67, hf⟩ := lt_e hf
  refine aM_st X hW hS isM_14 rfl h67 dX8_visit_67 (fun H locs hW hS => ?_)
  rw [← e67] at hW
  refine lv_aload_n X.hx X.hb dX8_visit_68 rfl (lv_at hl 0 rfl) ?_
  refine gX8_isLed X hW dX8_visit_69 ?_
  refine lv_iload_n X.hx X.hb dX8_visit_72 rfl (lv_at hl 1 rfl) ?_
  refine lv_iconst (v := 0) X.hx X.hb dX8_visit_73 (by decide) ?_
  obtain ⟨h74, hf⟩ := ite_n hf
  obtain ⟨s74, e74, hf⟩ := lt_e hf
  refine zM_st X hW hS (Or.inl rfl) h74 dX8_visit_74 (fun H locs hW hS => ?_)
  rw [← e74] at hW
  refine lv_iload_n X.hx X.hb dX8_visit_75 rfl (lv_at hl 1 rfl) ?_
  exact rt_i X hr hlk (by rw [← Option.some.inj hf]; exact hW) hS (by rw [← Option.some.inj hf]) (Nat.le_refl _) (Nat.le_refl _) dX8_visit_76
noncomputable def f_X8_visit (st : St) (a1 : Int32) (a2 : Int32) : Option (Int32 × St) := lt (sI st 9 ((st.1 9) + 1)) fun s7 => if a1 = (s7.1 0) then if inb (a1 - 1) 5 = true then lt (sA s7 15 (a1 - 1).toNatClampNeg 1) fun s26 => some (a1 - 1, s26) else none else if a2 = 0 then f_X8_visit_J61 s7 a1 else (f_X8_keyOf s7 a1).bind fun b38 => (f_X8_isKept s7 b38).bind fun b41 => if b41 = 0 then f_X8_visit_J61 s7 a1 else lt (sI s7 11 ((s7.1 11) + 1)) fun s54 => some (a1 - 1, s54)
set_option maxRecDepth 100000 in
theorem w_X8_visit (l : Launch) (V : Ev) (A : Nat → Prop) (ad : Nat → Nat) {st : St} {a1 : Int32} {a2 : Int32} {res : (Int32 × St)} (hf : f_X8_visit st a1 a2 = some res) : Cn l yX8_visit cX8_visit 3 (some .int) 6 143 0 0 V A (WdM V ad A) st [.ref (ad 0), .int a1, .int a2] (Qwi A (WdM V ad A) res.1 res.2) := by
  refine cn_of RX8 (by decide) rfl (fun p e s m below meth c ls X hr hlk hW hS hl => ?_) (Nat.le_of_ble_eq_true rfl)
  have hl : lv_has ls 3 [(0, .ref (ad 0)), (1, .int a1), (2, .int a2)] := hl
  unfold f_X8_visit at hf
  refine lv_aload_n X.hx X.hb dX8_visit_0 rfl (lv_at hl 0 rfl) ?_
  refine lv_dup X.hx X.hb dX8_visit_1 rfl ?_
  refine gX8_visited X hW dX8_visit_2 ?_
  refine lv_iconst (v := 1) X.hx X.hb dX8_visit_5 (by decide) ?_
  refine lv_iadd X.hx X.hb dX8_visit_6 ?_
  obtain ⟨s7, e7, hf⟩ := lt_e hf
  refine pX8_visited X hW hS dX8_visit_7 (fun H locs hW hS => ?_)
  rw [← e7] at hW
  refine lv_iload_n X.hx X.hb dX8_visit_10 rfl (lv_at hl 1 rfl) ?_
  refine lv_aload_n X.hx X.hb dX8_visit_11 rfl (lv_at hl 0 rfl) ?_
  refine gX8_length X hW dX8_visit_12 ?_
  refine lv_icmp_ne (tgt := 31) X.hx X.hb dX8_visit_15 (by decide) (fun c15 => ?_) (fun c15 => ?_)
  · replace hf := ite_f c15 hf
    refine lv_iload_n X.hx X.hb dX8_visit_31 rfl (lv_at hl 2 rfl) ?_
    refine lv_if_eq (tgt := 61) X.hx X.hb dX8_visit_32 (by decide) (fun c32 => ?_) (fun c32 => ?_)
    · replace hf := ite_t c32 hf
      exact f_X8_visit_J61_w X hr hlk _ _ _ _ _  hf hW hS (lv_sub hl [0, 1] rfl)
    · replace hf := ite_f c32 hf
      refine lv_aload_n X.hx X.hb dX8_visit_35 rfl (lv_at hl 0 rfl) ?_
      refine lv_aload_n X.hx X.hb dX8_visit_36 rfl (lv_at hl 0 rfl) ?_
      refine lv_iload_n X.hx X.hb dX8_visit_37 rfl (lv_at hl 1 rfl) ?_
      obtain ⟨b38, h38, hf⟩ := bnd hf
      refine cl_i (run_V (As := [.int a1]) (rest := [.ref (ad 0)]) X (w_X8_keyOf l V A ad h38) mw_X8_keyOf ln_X8_252 (rcX8 X hW) hW hS rfl hl.1 rfl (Nat.le_of_ble_eq_true rfl) ⟨Nat.le_of_ble_eq_true rfl, Nat.le_of_ble_eq_true rfl⟩ ⟨Nat.le_refl _, Nat.le_refl _⟩ dX8_visit_38) hS (fun H locs hW hS => ?_)
      obtain ⟨b41, h41, hf⟩ := bnd hf
      refine cl_i (run_V (As := [.int b38]) (rest := []) X (w_X8_isKept l V A ad h41) mw_X8_isKept ln_X8_255 (rcX8 X hW) hW hS rfl hl.1 rfl (Nat.le_of_ble_eq_true rfl) ⟨Nat.le_of_ble_eq_true rfl, Nat.le_of_ble_eq_true rfl⟩ ⟨Nat.le_refl _, Nat.le_refl _⟩ dX8_visit_41) hS (fun H locs hW hS => ?_)
      refine lv_if_eq (tgt := 61) X.hx X.hb dX8_visit_44 (by decide) (fun c44 => ?_) (fun c44 => ?_)
      · replace hf := ite_t c44 hf
        exact f_X8_visit_J61_w X hr hlk _ _ _ _ _  hf hW hS (lv_sub hl [0, 1] rfl)
      · replace hf := ite_f c44 hf
        refine lv_aload_n X.hx X.hb dX8_visit_47 rfl (lv_at hl 0 rfl) ?_
        refine lv_dup X.hx X.hb dX8_visit_48 rfl ?_
        refine gX8_cuts X hW dX8_visit_49 ?_
        refine lv_iconst (v := 1) X.hx X.hb dX8_visit_52 (by decide) ?_
        refine lv_iadd X.hx X.hb dX8_visit_53 ?_
        obtain ⟨s54, e54, hf⟩ := lt_e hf
        refine pX8_cuts X hW hS dX8_visit_54 (fun H locs hW hS => ?_)
        rw [← e54] at hW
        refine lv_iload_n X.hx X.hb dX8_visit_57 rfl (lv_at hl 1 rfl) ?_
        refine lv_iconst (v := 1) X.hx X.hb dX8_visit_58 (by decide) ?_
        refine lv_isub X.hx X.hb dX8_visit_59 ?_
        exact rt_i X hr hlk (by rw [← Option.some.inj hf]; exact hW) hS (by rw [← Option.some.inj hf]) (Nat.le_refl _) (Nat.le_refl _) dX8_visit_60
  · replace hf := ite_t c15 hf
    refine lv_aload_n X.hx X.hb dX8_visit_18 rfl (lv_at hl 0 rfl) ?_
    refine gX8_isLed X hW dX8_visit_19 ?_
    refine lv_iload_n X.hx X.hb dX8_visit_22 rfl (lv_at hl 1 rfl) ?_
    refine lv_iconst (v := 1) X.hx X.hb dX8_visit_23 (by decide) ?_
    refine lv_isub X.hx X.hb dX8_visit_24 ?_
    refine lv_iconst (v := 1) X.hx X.hb dX8_visit_25 (by decide) ?_
    obtain ⟨h26, hf⟩ := ite_n hf
    obtain ⟨s26, e26, hf⟩ := lt_e hf
    refine zM_st X hW hS (Or.inr rfl) h26 dX8_visit_26 (fun H locs hW hS => ?_)
    rw [← e26] at hW
    refine lv_iload_n X.hx X.hb dX8_visit_27 rfl (lv_at hl 1 rfl) ?_
    refine lv_iconst (v := 1) X.hx X.hb dX8_visit_28 (by decide) ?_
    refine lv_isub X.hx X.hb dX8_visit_29 ?_
    exact rt_i X hr hlk (by rw [← Option.some.inj hf]; exact hW) hS (by rw [← Option.some.inj hf]) (Nat.le_refl _) (Nat.le_refl _) dX8_visit_30
-- WordSquaresModel.goes
noncomputable def f_X8_goes_J109 (r36 : St → Int32 → Int32 → Option St) (st : St) (x1 : Int32) (t0 : Int32) : Option St := r36 st x1 t0
set_option maxRecDepth 100000 in
theorem f_X8_goes_J109_w {r36 : St → Int32 → Int32 → Option St} {res : St} (X : Cx V A cX8_goes 3 RX8 p m c s args) (hr : meth.sig.returnType = none) (hlk : meth.locks = false) (hr36 : ∀ (st : St) (x1 : Int32) (x2 : Int32) (H : Heap) (locs : List Loc) (ls : Array Slot), r36 st x1 x2 = some res → (WdM V ad A) st H → va_S A s.heap H locs → lv_has ls 3 [(0, .ref (ad 0)), (1, .int x1), (2, .int x2)] → W p l e (rmF 7 166 0 0) s m args below meth c H locs 0 0 (MQ below (Qwv A (WdM V ad A) res) args s 0 0 A) (F0 m 36 ls [])) (st : St) (x1 : Int32) (t0 : Int32) (H : Heap) (locs : List Loc) (ls : Array Slot)  (hf : f_X8_goes_J109 r36 st x1 t0 = some res) (hW : (WdM V ad A) st H) (hS : va_S A s.heap H locs) (hl : lv_has ls 3 [(0, .ref (ad 0)), (1, .int x1)]) : W p l e (rmF 7 166 0 0) s m args below meth c H locs 0 0 (MQ below (Qwv A (WdM V ad A) res) args s 0 0 A) (F0 m 109 ls [.int t0]) := by
  
  unfold f_X8_goes_J109 at hf
  refine lv_istore_n (lv' := [(2, .int t0), (0, .ref (ad 0)), (1, .int x1)]) X.hx X.hb dX8_goes_109 rfl hl (by decide) rfl (fun ls hl => ?_)
  refine lv_goto (tgt := 36) X.hx X.hb dX8_goes_110 (by decide) ?_
  exact hr36 _ _ _ _ _ _  hf hW hS (lv_sub hl [1, 2, 0] rfl)
noncomputable def f_X8_goes_L36 : Nat → St → Int32 → Int32 → Option St
  | 0, _, _, _ => none
  | fu + 1, st, x1, x2 => if x2 < 0 then some st else if inb x2 5 = true then if (st.2.1 14 x2.toNatClampNeg) = (st.1 1) then (f_X8_leave st x2 x1).bind fun b56 => lt (x2 + (-1)) fun w59 => (f_X8_goes_L36 fu) b56 x1 w59 else if inb x2 5 = true then if inb x2 4 = true then lt (sA st 6 x2.toNatClampNeg (st.2.1 14 x2.toNatClampNeg)) fun s76 => if inb x2 5 = true then if inb x2 5 = true then lt (sA s76 14 x2.toNatClampNeg ((s76.2.1 14 x2.toNatClampNeg) + 1)) fun s86 => (f_X8_isState s86 (x2 + 1)).bind fun b91 => if b91.1 = 0 then f_X8_goes_J109 ((f_X8_goes_L36 fu)) b91.2 x1 x2 else (f_X8_visit b91.2 (x2 + 1) x1).bind fun b102 => f_X8_goes_J109 ((f_X8_goes_L36 fu)) b102.2 x1 b102.1 else none else none else none else none else none
set_option maxRecDepth 100000 in
theorem f_X8_goes_L36_w {res : St} (X : Cx V A cX8_goes 3 RX8 p m c s args) (hr : meth.sig.returnType = none) (hlk : meth.locks = false)  : ∀ (n9 : Nat) (st : St) (x1 : Int32) (x2 : Int32) (H : Heap) (locs : List Loc) (ls : Array Slot), f_X8_goes_L36 n9 st x1 x2 = some res → (WdM V ad A) st H → va_S A s.heap H locs → lv_has ls 3 [(0, .ref (ad 0)), (1, .int x1), (2, .int x2)] → W p l e (rmF 7 166 0 0) s m args below meth c H locs 0 0 (MQ below (Qwv A (WdM V ad A) res) args s 0 0 A) (F0 m 36 ls []) := by
  intro n9
  induction n9 with
  | zero =>
    intro st x1 x2 H locs ls hf
    exact absurd hf (by unfold f_X8_goes_L36; exact fun h => by cases h)
  | succ n9 hr36 =>
    intro st x1 x2 H locs ls hf hW hS hl
    
    unfold f_X8_goes_L36 at hf
    refine lv_iload_n X.hx X.hb dX8_goes_36 rfl (lv_at hl 2 rfl) ?_
    refine lv_if_lt (tgt := 113) X.hx X.hb dX8_goes_37 (by decide) (fun c37 => ?_) (fun c37 => ?_)
    · replace hf := ite_t c37 hf
      exact rt_v X hr hlk (by rw [← Option.some.inj hf]; exact hW) hS (Nat.le_refl _) (Nat.le_refl _) dX8_goes_113
    · replace hf := ite_f c37 hf
      refine lv_aload_n X.hx X.hb dX8_goes_40 rfl (lv_at hl 0 rfl) ?_
      refine gX8_tried X hW dX8_goes_41 ?_
      refine lv_iload_n X.hx X.hb dX8_goes_44 rfl (lv_at hl 2 rfl) ?_
      obtain ⟨h45, hf⟩ := ite_n hf
      refine aM_ld X hW isM_14 rfl h45 dX8_goes_45 ?_
      refine lv_aload_n X.hx X.hb dX8_goes_46 rfl (lv_at hl 0 rfl) ?_
      refine gX8_words X hW dX8_goes_47 ?_
      refine lv_icmp_ne (tgt := 65) X.hx X.hb dX8_goes_50 (by decide) (fun c50 => ?_) (fun c50 => ?_)
      · replace hf := ite_f c50 hf
        refine lv_aload_n X.hx X.hb dX8_goes_65 rfl (lv_at hl 0 rfl) ?_
        refine gX8_rowWord X hW dX8_goes_66 ?_
        refine lv_iload_n X.hx X.hb dX8_goes_69 rfl (lv_at hl 2 rfl) ?_
        refine lv_aload_n X.hx X.hb dX8_goes_70 rfl (lv_at hl 0 rfl) ?_
        refine gX8_tried X hW dX8_goes_71 ?_
        refine lv_iload_n X.hx X.hb dX8_goes_74 rfl (lv_at hl 2 rfl) ?_
        obtain ⟨h75, hf⟩ := ite_n hf
        refine aM_ld X hW isM_14 rfl h75 dX8_goes_75 ?_
        obtain ⟨h76, hf⟩ := ite_n hf
        obtain ⟨s76, e76, hf⟩ := lt_e hf
        refine aM_st X hW hS isM_6 rfl h76 dX8_goes_76 (fun H locs hW hS => ?_)
        rw [← e76] at hW
        refine lv_aload_n X.hx X.hb dX8_goes_77 rfl (lv_at hl 0 rfl) ?_
        refine gX8_tried X hW dX8_goes_78 ?_
        refine lv_iload_n X.hx X.hb dX8_goes_81 rfl (lv_at hl 2 rfl) ?_
        refine lv_dup2_11 X.hx X.hb dX8_goes_82 rfl rfl ?_
        obtain ⟨h83, hf⟩ := ite_n hf
        refine aM_ld X hW isM_14 rfl h83 dX8_goes_83 ?_
        refine lv_iconst (v := 1) X.hx X.hb dX8_goes_84 (by decide) ?_
        refine lv_iadd X.hx X.hb dX8_goes_85 ?_
        obtain ⟨h86, hf⟩ := ite_n hf
        obtain ⟨s86, e86, hf⟩ := lt_e hf
        refine aM_st X hW hS isM_14 rfl h86 dX8_goes_86 (fun H locs hW hS => ?_)
        rw [← e86] at hW
        refine lv_aload_n X.hx X.hb dX8_goes_87 rfl (lv_at hl 0 rfl) ?_
        refine lv_iload_n X.hx X.hb dX8_goes_88 rfl (lv_at hl 2 rfl) ?_
        refine lv_iconst (v := 1) X.hx X.hb dX8_goes_89 (by decide) ?_
        refine lv_iadd X.hx X.hb dX8_goes_90 ?_
        obtain ⟨b91, h91, hf⟩ := bnd hf
        refine cl_i (run_V (As := [.int (x2 + 1)]) (rest := []) X (w_X8_isState l V A ad h91) mw_X8_isState ln_X8_249 (rcX8 X hW) hW hS rfl hl.1 rfl (Nat.le_of_ble_eq_true rfl) ⟨Nat.le_of_ble_eq_true rfl, Nat.le_of_ble_eq_true rfl⟩ ⟨Nat.le_refl _, Nat.le_refl _⟩ dX8_goes_91) hS (fun H locs hW hS => ?_)
        refine lv_if_eq (tgt := 108) X.hx X.hb dX8_goes_94 (by decide) (fun c94 => ?_) (fun c94 => ?_)
        · replace hf := ite_t c94 hf
          refine lv_iload_n X.hx X.hb dX8_goes_108 rfl (lv_at hl 2 rfl) ?_
          exact f_X8_goes_J109_w X hr hlk hr36 _ _ _ _ _ _  hf hW hS (lv_sub hl [0, 1] rfl)
        · replace hf := ite_f c94 hf
          refine lv_aload_n X.hx X.hb dX8_goes_97 rfl (lv_at hl 0 rfl) ?_
          refine lv_iload_n X.hx X.hb dX8_goes_98 rfl (lv_at hl 2 rfl) ?_
          refine lv_iconst (v := 1) X.hx X.hb dX8_goes_99 (by decide) ?_
          refine lv_iadd X.hx X.hb dX8_goes_100 ?_
          refine lv_iload_n X.hx X.hb dX8_goes_101 rfl (lv_at hl 1 rfl) ?_
          obtain ⟨b102, h102, hf⟩ := bnd hf
          refine cl_i (run_V (As := [.int (x2 + 1), .int x1]) (rest := []) X (w_X8_visit l V A ad h102) mw_X8_visit ln_X8_268 (rcX8 X hW) hW hS rfl hl.1 rfl (Nat.le_of_ble_eq_true rfl) ⟨Nat.le_of_ble_eq_true rfl, Nat.le_of_ble_eq_true rfl⟩ ⟨Nat.le_refl _, Nat.le_refl _⟩ dX8_goes_102) hS (fun H locs hW hS => ?_)
          refine lv_goto (tgt := 109) X.hx X.hb dX8_goes_105 (by decide) ?_
          exact f_X8_goes_J109_w X hr hlk hr36 _ _ _ _ _ _  hf hW hS (lv_sub hl [0, 1] rfl)
      · replace hf := ite_t c50 hf
        refine lv_aload_n X.hx X.hb dX8_goes_53 rfl (lv_at hl 0 rfl) ?_
        refine lv_iload_n X.hx X.hb dX8_goes_54 rfl (lv_at hl 2 rfl) ?_
        refine lv_iload_n X.hx X.hb dX8_goes_55 rfl (lv_at hl 1 rfl) ?_
        obtain ⟨b56, h56, hf⟩ := bnd hf
        refine cl_v (run_V (As := [.int x2, .int x1]) (rest := []) X (w_X8_leave l V A ad h56) mw_X8_leave ln_X8_264 (rcX8 X hW) hW hS rfl hl.1 rfl (Nat.le_of_ble_eq_true rfl) ⟨Nat.le_of_ble_eq_true rfl, Nat.le_of_ble_eq_true rfl⟩ ⟨Nat.le_refl _, Nat.le_refl _⟩ dX8_goes_56) hS (fun H locs hW hS => ?_)
        obtain ⟨w59, e59, hf⟩ := lt_e hf
        refine lv_iinc (v := w59) (lv' := [(2, .int w59), (0, .ref (ad 0)), (1, .int x1)]) X.hx X.hb dX8_goes_59 hl (k := 2) rfl (by rw [e59]; rfl) (by decide) rfl (fun ls hl => ?_)
        refine lv_goto (tgt := 36) X.hx X.hb dX8_goes_62 (by decide) ?_
        exact hr36 _ _ _ _ _ _  hf hW hS (lv_sub hl [1, 2, 0] rfl)
noncomputable def f_X8_goes (st : St) (a1 : Int32) : Option St := lt (sI st 9 1) fun s2 => lt (sI s2 10 0) fun s7 => lt (sI s7 11 0) fun s12 => lt (sI s12 12 0) fun s17 => if inb 0 5 = true then lt (sA s17 14 (Int32.toNatClampNeg 0) 0) fun s26 => if inb 0 5 = true then lt (sA s26 15 (Int32.toNatClampNeg 0) 0) fun s33 => f_X8_goes_L36 FU s33 a1 0 else none else none
set_option maxRecDepth 100000 in
theorem w_X8_goes (l : Launch) (V : Ev) (A : Nat → Prop) (ad : Nat → Nat) {st : St} {a1 : Int32} {res : St} (hf : f_X8_goes st a1 = some res) : Cn l yX8_goes cX8_goes 3 none 7 166 0 0 V A (WdM V ad A) st [.ref (ad 0), .int a1] (Qwv A (WdM V ad A) res) := by
  refine cn_of RX8 (by decide) rfl (fun p e s m below meth c ls X hr hlk hW hS hl => ?_) (Nat.le_of_ble_eq_true rfl)
  have hl : lv_has ls 3 [(0, .ref (ad 0)), (1, .int a1)] := hl
  unfold f_X8_goes at hf
  refine lv_aload_n X.hx X.hb dX8_goes_0 rfl (lv_at hl 0 rfl) ?_
  refine lv_iconst (v := 1) X.hx X.hb dX8_goes_1 (by decide) ?_
  obtain ⟨s2, e2, hf⟩ := lt_e hf
  refine pX8_visited X hW hS dX8_goes_2 (fun H locs hW hS => ?_)
  rw [← e2] at hW
  refine lv_aload_n X.hx X.hb dX8_goes_5 rfl (lv_at hl 0 rfl) ?_
  refine lv_iconst (v := 0) X.hx X.hb dX8_goes_6 (by decide) ?_
  obtain ⟨s7, e7, hf⟩ := lt_e hf
  refine pX8_dead X hW hS dX8_goes_7 (fun H locs hW hS => ?_)
  rw [← e7] at hW
  refine lv_aload_n X.hx X.hb dX8_goes_10 rfl (lv_at hl 0 rfl) ?_
  refine lv_iconst (v := 0) X.hx X.hb dX8_goes_11 (by decide) ?_
  obtain ⟨s12, e12, hf⟩ := lt_e hf
  refine pX8_cuts X hW hS dX8_goes_12 (fun H locs hW hS => ?_)
  rw [← e12] at hW
  refine lv_aload_n X.hx X.hb dX8_goes_15 rfl (lv_at hl 0 rfl) ?_
  refine lv_iconst (v := 0) X.hx X.hb dX8_goes_16 (by decide) ?_
  obtain ⟨s17, e17, hf⟩ := lt_e hf
  refine pX8_keptMany X hW hS dX8_goes_17 (fun H locs hW hS => ?_)
  rw [← e17] at hW
  refine lv_aload_n X.hx X.hb dX8_goes_20 rfl (lv_at hl 0 rfl) ?_
  refine gX8_tried X hW dX8_goes_21 ?_
  refine lv_iconst (v := 0) X.hx X.hb dX8_goes_24 (by decide) ?_
  refine lv_iconst (v := 0) X.hx X.hb dX8_goes_25 (by decide) ?_
  obtain ⟨h26, hf⟩ := ite_n hf
  obtain ⟨s26, e26, hf⟩ := lt_e hf
  refine aM_st X hW hS isM_14 rfl h26 dX8_goes_26 (fun H locs hW hS => ?_)
  rw [← e26] at hW
  refine lv_aload_n X.hx X.hb dX8_goes_27 rfl (lv_at hl 0 rfl) ?_
  refine gX8_isLed X hW dX8_goes_28 ?_
  refine lv_iconst (v := 0) X.hx X.hb dX8_goes_31 (by decide) ?_
  refine lv_iconst (v := 0) X.hx X.hb dX8_goes_32 (by decide) ?_
  obtain ⟨h33, hf⟩ := ite_n hf
  obtain ⟨s33, e33, hf⟩ := lt_e hf
  refine zM_st X hW hS (Or.inl rfl) h33 dX8_goes_33 (fun H locs hW hS => ?_)
  rw [← e33] at hW
  refine lv_iconst (v := 0) X.hx X.hb dX8_goes_34 (by decide) ?_
  refine lv_istore_n (lv' := [(2, .int 0), (0, .ref (ad 0)), (1, .int a1)]) X.hx X.hb dX8_goes_35 rfl hl (by decide) rfl (fun ls hl => ?_)
  exact f_X8_goes_L36_w X hr hlk FU _ _ _ _ _ _  hf hW hS (lv_sub hl [1, 2, 0] rfl)
-- WordSquaresModel.searchNow
noncomputable def f_X8_searchNow_J23 (st : St) : Option (Int32 × St) := some (st.1 9, st)
set_option maxRecDepth 100000 in
theorem f_X8_searchNow_J23_w {res : (Int32 × St)} (X : Cx V A cX8_searchNow 2 RX8 p m c s args) (hr : meth.sig.returnType = (some .int)) (hlk : meth.locks = false)  (st : St) (H : Heap) (locs : List Loc) (ls : Array Slot)  (hf : f_X8_searchNow_J23 st = some res) (hW : (WdM V ad A) st H) (hS : va_S A s.heap H locs) (hl : lv_has ls 2 [(0, .ref (ad 0))]) : W p l e (rmF 8 188 0 0) s m args below meth c H locs 0 0 (MQ below (Qwi A (WdM V ad A) res.1 res.2) args s 0 0 A) (F0 m 23 ls []) := by
  
  unfold f_X8_searchNow_J23 at hf
  refine lv_aload_n X.hx X.hb dX8_searchNow_23 rfl (lv_at hl 0 rfl) ?_
  refine gX8_visited X hW dX8_searchNow_24 ?_
  refine lv_goto (tgt := 58) X.hx X.hb dX8_searchNow_27 (by decide) ?_
  exact rt_i X hr hlk (by rw [← Option.some.inj hf]; exact hW) hS (by rw [← Option.some.inj hf]) (Nat.le_refl _) (Nat.le_refl _) dX8_searchNow_58
noncomputable def f_X8_searchNow_J11 (st : St) (x1 : Int32) (t0 : Int32) : Option (Int32 × St) := (f_X8_goes st t0).bind fun b11 => if x1 = 0 then f_X8_searchNow_J23 b11 else if x1 = 2 then f_X8_searchNow_J23 b11 else if x1 = 1 then some (b11.1 10, b11) else if x1 = 3 then some (b11.1 11, b11) else some (b11.1 12, b11)
set_option maxRecDepth 100000 in
theorem f_X8_searchNow_J11_w {res : (Int32 × St)} (X : Cx V A cX8_searchNow 2 RX8 p m c s args) (hr : meth.sig.returnType = (some .int)) (hlk : meth.locks = false)  (st : St) (x1 : Int32) (t0 : Int32) (H : Heap) (locs : List Loc) (ls : Array Slot)  (hf : f_X8_searchNow_J11 st x1 t0 = some res) (hW : (WdM V ad A) st H) (hS : va_S A s.heap H locs) (hl : lv_has ls 2 [(0, .ref (ad 0)), (1, .int x1)]) : W p l e (rmF 8 188 0 0) s m args below meth c H locs 0 0 (MQ below (Qwi A (WdM V ad A) res.1 res.2) args s 0 0 A) (F0 m 11 ls [.int t0, .ref (ad 0)]) := by
  
  unfold f_X8_searchNow_J11 at hf
  obtain ⟨b11, h11, hf⟩ := bnd hf
  refine cl_v (run_V (As := [.int t0]) (rest := []) X (w_X8_goes l V A ad h11) mw_X8_goes ln_X8_272 (rcX8 X hW) hW hS rfl hl.1 rfl (Nat.le_of_ble_eq_true rfl) ⟨Nat.le_of_ble_eq_true rfl, Nat.le_of_ble_eq_true rfl⟩ ⟨Nat.le_refl _, Nat.le_refl _⟩ dX8_searchNow_11) hS (fun H locs hW hS => ?_)
  refine lv_iload_n X.hx X.hb dX8_searchNow_14 rfl (lv_at hl 1 rfl) ?_
  refine lv_if_eq (tgt := 23) X.hx X.hb dX8_searchNow_15 (by decide) (fun c15 => ?_) (fun c15 => ?_)
  · replace hf := ite_t c15 hf
    exact f_X8_searchNow_J23_w X hr hlk _ _ _ _  hf hW hS (lv_sub hl [0] rfl)
  · replace hf := ite_f c15 hf
    refine lv_iload_n X.hx X.hb dX8_searchNow_18 rfl (lv_at hl 1 rfl) ?_
    refine lv_iconst (v := 2) X.hx X.hb dX8_searchNow_19 (by decide) ?_
    refine lv_icmp_ne (tgt := 30) X.hx X.hb dX8_searchNow_20 (by decide) (fun c20 => ?_) (fun c20 => ?_)
    · replace hf := ite_f c20 hf
      refine lv_iload_n X.hx X.hb dX8_searchNow_30 rfl (lv_at hl 1 rfl) ?_
      refine lv_iconst (v := 1) X.hx X.hb dX8_searchNow_31 (by decide) ?_
      refine lv_icmp_ne (tgt := 42) X.hx X.hb dX8_searchNow_32 (by decide) (fun c32 => ?_) (fun c32 => ?_)
      · replace hf := ite_f c32 hf
        refine lv_iload_n X.hx X.hb dX8_searchNow_42 rfl (lv_at hl 1 rfl) ?_
        refine lv_iconst (v := 3) X.hx X.hb dX8_searchNow_43 (by decide) ?_
        refine lv_icmp_ne (tgt := 54) X.hx X.hb dX8_searchNow_44 (by decide) (fun c44 => ?_) (fun c44 => ?_)
        · replace hf := ite_f c44 hf
          refine lv_aload_n X.hx X.hb dX8_searchNow_54 rfl (lv_at hl 0 rfl) ?_
          refine gX8_keptMany X hW dX8_searchNow_55 ?_
          exact rt_i X hr hlk (by rw [← Option.some.inj hf]; exact hW) hS (by rw [← Option.some.inj hf]) (Nat.le_refl _) (Nat.le_refl _) dX8_searchNow_58
        · replace hf := ite_t c44 hf
          refine lv_aload_n X.hx X.hb dX8_searchNow_47 rfl (lv_at hl 0 rfl) ?_
          refine gX8_cuts X hW dX8_searchNow_48 ?_
          refine lv_goto (tgt := 58) X.hx X.hb dX8_searchNow_51 (by decide) ?_
          exact rt_i X hr hlk (by rw [← Option.some.inj hf]; exact hW) hS (by rw [← Option.some.inj hf]) (Nat.le_refl _) (Nat.le_refl _) dX8_searchNow_58
      · replace hf := ite_t c32 hf
        refine lv_aload_n X.hx X.hb dX8_searchNow_35 rfl (lv_at hl 0 rfl) ?_
        refine gX8_dead X hW dX8_searchNow_36 ?_
        refine lv_goto (tgt := 58) X.hx X.hb dX8_searchNow_39 (by decide) ?_
        exact rt_i X hr hlk (by rw [← Option.some.inj hf]; exact hW) hS (by rw [← Option.some.inj hf]) (Nat.le_refl _) (Nat.le_refl _) dX8_searchNow_58
    · replace hf := ite_t c20 hf
      exact f_X8_searchNow_J23_w X hr hlk _ _ _ _  hf hW hS (lv_sub hl [0] rfl)
noncomputable def f_X8_searchNow (st : St) (a1 : Int32) : Option (Int32 × St) := if a1 ≤ 1 then f_X8_searchNow_J11 st a1 0 else f_X8_searchNow_J11 st a1 1
set_option maxRecDepth 100000 in
theorem w_X8_searchNow (l : Launch) (V : Ev) (A : Nat → Prop) (ad : Nat → Nat) {st : St} {a1 : Int32} {res : (Int32 × St)} (hf : f_X8_searchNow st a1 = some res) : Cn l yX8_searchNow cX8_searchNow 2 (some .int) 8 188 0 0 V A (WdM V ad A) st [.ref (ad 0), .int a1] (Qwi A (WdM V ad A) res.1 res.2) := by
  refine cn_of RX8 (by decide) rfl (fun p e s m below meth c ls X hr hlk hW hS hl => ?_) (Nat.le_of_ble_eq_true rfl)
  have hl : lv_has ls 2 [(0, .ref (ad 0)), (1, .int a1)] := hl
  unfold f_X8_searchNow at hf
  refine lv_aload_n X.hx X.hb dX8_searchNow_0 rfl (lv_at hl 0 rfl) ?_
  refine lv_iload_n X.hx X.hb dX8_searchNow_1 rfl (lv_at hl 1 rfl) ?_
  refine lv_iconst (v := 1) X.hx X.hb dX8_searchNow_2 (by decide) ?_
  refine lv_icmp_le (tgt := 10) X.hx X.hb dX8_searchNow_3 (by decide) (fun c3 => ?_) (fun c3 => ?_)
  · replace hf := ite_t c3 hf
    refine lv_iconst (v := 0) X.hx X.hb dX8_searchNow_10 (by decide) ?_
    exact f_X8_searchNow_J11_w X hr hlk _ _ _ _ _ _  hf hW hS (lv_sub hl [0, 1] rfl)
  · replace hf := ite_f c3 hf
    refine lv_iconst (v := 1) X.hx X.hb dX8_searchNow_6 (by decide) ?_
    refine lv_goto (tgt := 11) X.hx X.hb dX8_searchNow_7 (by decide) ?_
    exact f_X8_searchNow_J11_w X hr hlk _ _ _ _ _ _  hf hW hS (lv_sub hl [0, 1] rfl)
-- WordSquaresModel.search
noncomputable def f_X8_search (st : St) (a1 : Int32) : Option (Int32 × St) := (f_X8_within a1 0 4).bind fun b3 => if b3 = 0 then some ((-102), st) else if (st.1 1) ≤ 0 then some ((-103), st) else (f_X8_searchNow st a1).bind fun b21 => some (b21.1, b21.2)
set_option maxRecDepth 100000 in
theorem w_X8_search (l : Launch) (V : Ev) (A : Nat → Prop) (ad : Nat → Nat) {st : St} {a1 : Int32} {res : (Int32 × St)} (hf : f_X8_search st a1 = some res) : Cn l yX8_search cX8_search 2 (some .int) 9 209 0 0 V A (WdM V ad A) st [.ref (ad 0), .int a1] (Qwi A (WdM V ad A) res.1 res.2) := by
  refine cn_of RX8 (by decide) rfl (fun p e s m below meth c ls X hr hlk hW hS hl => ?_) (Nat.le_of_ble_eq_true rfl)
  have hl : lv_has ls 2 [(0, .ref (ad 0)), (1, .int a1)] := hl
  unfold f_X8_search at hf
  refine lv_iload_n X.hx X.hb dX8_search_0 rfl (lv_at hl 1 rfl) ?_
  refine lv_iconst (v := 0) X.hx X.hb dX8_search_1 (by decide) ?_
  refine lv_iconst (v := 4) X.hx X.hb dX8_search_2 (by decide) ?_
  obtain ⟨b3, h3, hf⟩ := bnd hf
  refine cl_i (run_S (As := [.int a1, .int 0, .int 4]) (rest := []) X (w_X8_within l V A (WdM V ad A) st h3) mw_X8_within ln_X8_65 hW hS rfl hl.1 rfl (Nat.le_of_ble_eq_true rfl) ⟨Nat.le_of_ble_eq_true rfl, Nat.le_of_ble_eq_true rfl⟩ ⟨Nat.le_refl _, Nat.le_refl _⟩ dX8_search_3) hS (fun H locs hW hS => ?_)
  refine lv_if_ne (tgt := 12) X.hx X.hb dX8_search_6 (by decide) (fun c6 => ?_) (fun c6 => ?_)
  · replace hf := ite_f c6 hf
    refine lv_aload_n X.hx X.hb dX8_search_12 rfl (lv_at hl 0 rfl) ?_
    refine gX8_words X hW dX8_search_13 ?_
    refine lv_if_le (tgt := 27) X.hx X.hb dX8_search_16 (by decide) (fun c16 => ?_) (fun c16 => ?_)
    · replace hf := ite_t c16 hf
      refine lv_bipush (v := (-103)) X.hx X.hb dX8_search_27 (by decide) ?_
      exact rt_i X hr hlk (by rw [← Option.some.inj hf]; exact hW) hS (by rw [← Option.some.inj hf]) (Nat.le_refl _) (Nat.le_refl _) dX8_search_29
    · replace hf := ite_f c16 hf
      refine lv_aload_n X.hx X.hb dX8_search_19 rfl (lv_at hl 0 rfl) ?_
      refine lv_iload_n X.hx X.hb dX8_search_20 rfl (lv_at hl 1 rfl) ?_
      obtain ⟨b21, h21, hf⟩ := bnd hf
      refine cl_i (run_V (As := [.int a1]) (rest := []) X (w_X8_searchNow l V A ad h21) mw_X8_searchNow ln_X8_276 (rcX8 X hW) hW hS rfl hl.1 rfl (Nat.le_of_ble_eq_true rfl) ⟨Nat.le_of_ble_eq_true rfl, Nat.le_of_ble_eq_true rfl⟩ ⟨Nat.le_refl _, Nat.le_refl _⟩ dX8_search_21) hS (fun H locs hW hS => ?_)
      refine lv_goto (tgt := 29) X.hx X.hb dX8_search_24 (by decide) ?_
      exact rt_i X hr hlk (by rw [← Option.some.inj hf]; exact hW) hS (by rw [← Option.some.inj hf]) (Nat.le_refl _) (Nat.le_refl _) dX8_search_29
  · replace hf := ite_t c6 hf
    refine lv_bipush (v := (-102)) X.hx X.hb dX8_search_9 (by decide) ?_
    exact rt_i X hr hlk (by rw [← Option.some.inj hf]; exact hW) hS (by rw [← Option.some.inj hf]) (Nat.le_refl _) (Nat.le_refl _) dX8_search_11
-- WordSquaresModel.laidMany
noncomputable def f_X8_laidMany_J28 (st : St) (r4 : Int32 → Int32 → Option Int32) (x2 : Int32) (t0 : Int32) (t1 : Int32) : Option Int32 := lt (t1 + t0) fun w29 => lt (x2 + 1) fun w30 => r4 w29 w30
set_option maxRecDepth 100000 in
theorem f_X8_laidMany_J28_w {st : St} {r4 : Int32 → Int32 → Option Int32} {res : Int32} (X : Cx V A cX8_laidMany 3 RX8 p m c s args) (hr : meth.sig.returnType = (some .int)) (hlk : meth.locks = false) (hr4 : ∀ (x1 : Int32) (x2 : Int32) (H : Heap) (locs : List Loc) (ls : Array Slot), r4 x1 x2 = some res → (WdM V ad A) st H → va_S A s.heap H locs → lv_has ls 3 [(0, .ref (ad 0)), (1, .int x1), (2, .int x2)] → W p l e (rmF 0 0 0 0) s m args below meth c H locs 0 0 (MQ below (Qwi A (WdM V ad A) res st) args s 0 0 A) (F0 m 4 ls [])) (x2 : Int32) (t0 : Int32) (t1 : Int32) (H : Heap) (locs : List Loc) (ls : Array Slot)  (hf : f_X8_laidMany_J28 st r4 x2 t0 t1 = some res) (hW : (WdM V ad A) st H) (hS : va_S A s.heap H locs) (hl : lv_has ls 3 [(0, .ref (ad 0)), (2, .int x2)]) : W p l e (rmF 0 0 0 0) s m args below meth c H locs 0 0 (MQ below (Qwi A (WdM V ad A) res st) args s 0 0 A) (F0 m 28 ls [.int t0, .int t1]) := by
  
  unfold f_X8_laidMany_J28 at hf
  refine lv_iadd X.hx X.hb dX8_laidMany_28 ?_
  obtain ⟨w29, e29, hf⟩ := lt_e hf
  refine lv_nm e29 ?_
  refine lv_istore_n (lv' := [(1, .int w29), (0, .ref (ad 0)), (2, .int x2)]) X.hx X.hb dX8_laidMany_29 rfl hl (by decide) rfl (fun ls hl => ?_)
  obtain ⟨w30, e30, hf⟩ := lt_e hf
  refine lv_iinc (v := w30) (lv' := [(2, .int w30), (1, .int w29), (0, .ref (ad 0))]) X.hx X.hb dX8_laidMany_30 hl (k := 2) rfl (by rw [e30]; rfl) (by decide) rfl (fun ls hl => ?_)
  refine lv_goto (tgt := 4) X.hx X.hb dX8_laidMany_33 (by decide) ?_
  exact hr4 _ _ _ _ _  hf hW hS (lv_sub hl [2, 1, 0] rfl)
noncomputable def f_X8_laidMany_L4 (st : St) : Nat → Int32 → Int32 → Option Int32
  | 0, _, _ => none
  | fu + 1, x1, x2 => if (st.1 0) ≤ x2 then some x1 else if inb x2 4 = true then if (st.2.1 3 x2.toNatClampNeg) = (-1) then f_X8_laidMany_J28 st ((f_X8_laidMany_L4 st fu)) x2 0 x1 else f_X8_laidMany_J28 st ((f_X8_laidMany_L4 st fu)) x2 1 x1 else none
set_option maxRecDepth 100000 in
theorem f_X8_laidMany_L4_w {st : St} {res : Int32} (X : Cx V A cX8_laidMany 3 RX8 p m c s args) (hr : meth.sig.returnType = (some .int)) (hlk : meth.locks = false)  : ∀ (n9 : Nat) (x1 : Int32) (x2 : Int32) (H : Heap) (locs : List Loc) (ls : Array Slot), f_X8_laidMany_L4 st n9 x1 x2 = some res → (WdM V ad A) st H → va_S A s.heap H locs → lv_has ls 3 [(0, .ref (ad 0)), (1, .int x1), (2, .int x2)] → W p l e (rmF 0 0 0 0) s m args below meth c H locs 0 0 (MQ below (Qwi A (WdM V ad A) res st) args s 0 0 A) (F0 m 4 ls []) := by
  intro n9
  induction n9 with
  | zero =>
    intro x1 x2 H locs ls hf
    exact absurd hf (by unfold f_X8_laidMany_L4; exact fun h => by cases h)
  | succ n9 hr4 =>
    intro x1 x2 H locs ls hf hW hS hl
    
    unfold f_X8_laidMany_L4 at hf
    refine lv_iload_n X.hx X.hb dX8_laidMany_4 rfl (lv_at hl 2 rfl) ?_
    refine lv_aload_n X.hx X.hb dX8_laidMany_5 rfl (lv_at hl 0 rfl) ?_
    refine gX8_length X hW dX8_laidMany_6 ?_
    refine lv_icmp_ge (tgt := 36) X.hx X.hb dX8_laidMany_9 (by decide) (fun c9 => ?_) (fun c9 => ?_)
    · replace hf := ite_t c9 hf
      refine lv_iload_n X.hx X.hb dX8_laidMany_36 rfl (lv_at hl 1 rfl) ?_
      exact rt_i X hr hlk hW hS (Option.some.inj hf) (Nat.le_refl _) (Nat.le_refl _) dX8_laidMany_37
    · replace hf := ite_f c9 hf
      refine lv_iload_n X.hx X.hb dX8_laidMany_12 rfl (lv_at hl 1 rfl) ?_
      refine lv_aload_n X.hx X.hb dX8_laidMany_13 rfl (lv_at hl 0 rfl) ?_
      refine gX8_laid X hW dX8_laidMany_14 ?_
      refine lv_iload_n X.hx X.hb dX8_laidMany_17 rfl (lv_at hl 2 rfl) ?_
      obtain ⟨h18, hf⟩ := ite_n hf
      refine aM_ld X hW isM_3 rfl h18 dX8_laidMany_18 ?_
      refine lv_iconst (v := (-1)) X.hx X.hb dX8_laidMany_19 (by decide) ?_
      refine lv_icmp_ne (tgt := 27) X.hx X.hb dX8_laidMany_20 (by decide) (fun c20 => ?_) (fun c20 => ?_)
      · replace hf := ite_f c20 hf
        refine lv_iconst (v := 1) X.hx X.hb dX8_laidMany_27 (by decide) ?_
        exact f_X8_laidMany_J28_w X hr hlk hr4 _ _ _ _ _ _  hf hW hS (lv_sub hl [0, 2] rfl)
      · replace hf := ite_t c20 hf
        refine lv_iconst (v := 0) X.hx X.hb dX8_laidMany_23 (by decide) ?_
        refine lv_goto (tgt := 28) X.hx X.hb dX8_laidMany_24 (by decide) ?_
        exact f_X8_laidMany_J28_w X hr hlk hr4 _ _ _ _ _ _  hf hW hS (lv_sub hl [0, 2] rfl)
noncomputable def f_X8_laidMany (st : St) : Option Int32 := f_X8_laidMany_L4 st FU 0 0
set_option maxRecDepth 100000 in
theorem w_X8_laidMany (l : Launch) (V : Ev) (A : Nat → Prop) (ad : Nat → Nat) {st : St} {res : Int32} (hf : f_X8_laidMany st = some res) : Cn l yX8_laidMany cX8_laidMany 3 (some .int) 0 0 0 0 V A (WdM V ad A) st [.ref (ad 0)] (Qwi A (WdM V ad A) res st) := by
  refine cn_of RX8 (by decide) rfl (fun p e s m below meth c ls X hr hlk hW hS hl => ?_) (Nat.le_of_ble_eq_true rfl)
  have hl : lv_has ls 3 [(0, .ref (ad 0))] := hl
  unfold f_X8_laidMany at hf
  refine lv_iconst (v := 0) X.hx X.hb dX8_laidMany_0 (by decide) ?_
  refine lv_istore_n (lv' := [(1, .int 0), (0, .ref (ad 0))]) X.hx X.hb dX8_laidMany_1 rfl hl (by decide) rfl (fun ls hl => ?_)
  refine lv_iconst (v := 0) X.hx X.hb dX8_laidMany_2 (by decide) ?_
  refine lv_istore_n (lv' := [(2, .int 0), (1, .int 0), (0, .ref (ad 0))]) X.hx X.hb dX8_laidMany_3 rfl hl (by decide) rfl (fun ls hl => ?_)
  exact f_X8_laidMany_L4_w X hr hlk FU _ _ _ _ _  hf hW hS (lv_sub hl [2, 1, 0] rfl)
-- WordSquaresModel.howMany
noncomputable def f_X8_howMany (st : St) (a1 : Int32) : Option Int32 := if a1 = 0 then some (st.1 1) else if a1 = 1 then some (st.1 4) else if a1 = 2 then (f_X8_laidMany st).bind fun b47 => some b47 else if a1 = 3 then some (st.1 2) else if a1 = 4 then some (st.1 3) else some (-102)
set_option maxRecDepth 100000 in
theorem w_X8_howMany (l : Launch) (V : Ev) (A : Nat → Prop) (ad : Nat → Nat) {st : St} {a1 : Int32} {res : Int32} (hf : f_X8_howMany st a1 = some res) : Cn l yX8_howMany cX8_howMany 2 (some .int) 1 22 0 0 V A (WdM V ad A) st [.ref (ad 0), .int a1] (Qwi A (WdM V ad A) res st) := by
  refine cn_of RX8 (by decide) rfl (fun p e s m below meth c ls X hr hlk hW hS hl => ?_) (Nat.le_of_ble_eq_true rfl)
  have hl : lv_has ls 2 [(0, .ref (ad 0)), (1, .int a1)] := hl
  unfold f_X8_howMany at hf
  refine lv_iload_n X.hx X.hb dX8_howMany_0 rfl (lv_at hl 1 rfl) ?_
  by_cases c1_0 : a1 = 0
  · replace hf := ite_t c1_0 hf
    refine lv_tableIn (tgt := 36) X.hx X.hb dX8_howMany_1 (by rw [c1_0]; decide) (by rw [c1_0]; decide) (by rw [c1_0]; rfl) (by decide) ?_
    refine lv_aload_n X.hx X.hb dX8_howMany_36 rfl (lv_at hl 0 rfl) ?_
    refine gX8_words X hW dX8_howMany_37 ?_
    exact rt_i X hr hlk hW hS (Option.some.inj hf) (Nat.le_refl _) (Nat.le_refl _) dX8_howMany_40
  replace hf := ite_f c1_0 hf
  by_cases c1_1 : a1 = 1
  · replace hf := ite_t c1_1 hf
    refine lv_tableIn (tgt := 41) X.hx X.hb dX8_howMany_1 (by rw [c1_1]; decide) (by rw [c1_1]; decide) (by rw [c1_1]; rfl) (by decide) ?_
    refine lv_aload_n X.hx X.hb dX8_howMany_41 rfl (lv_at hl 0 rfl) ?_
    refine gX8_pageLength X hW dX8_howMany_42 ?_
    exact rt_i X hr hlk hW hS (Option.some.inj hf) (Nat.le_refl _) (Nat.le_refl _) dX8_howMany_45
  replace hf := ite_f c1_1 hf
  by_cases c1_2 : a1 = 2
  · replace hf := ite_t c1_2 hf
    refine lv_tableIn (tgt := 46) X.hx X.hb dX8_howMany_1 (by rw [c1_2]; decide) (by rw [c1_2]; decide) (by rw [c1_2]; rfl) (by decide) ?_
    refine lv_aload_n X.hx X.hb dX8_howMany_46 rfl (lv_at hl 0 rfl) ?_
    obtain ⟨b47, h47, hf⟩ := bnd hf
    refine cl_i (run_V (As := []) (rest := []) X (w_X8_laidMany l V A ad h47) mw_X8_laidMany ln_X8_279 (rcX8 X hW) hW hS rfl hl.1 rfl (Nat.le_of_ble_eq_true rfl) ⟨Nat.le_of_ble_eq_true rfl, Nat.le_of_ble_eq_true rfl⟩ ⟨Nat.le_refl _, Nat.le_refl _⟩ dX8_howMany_47) hS (fun H locs hW hS => ?_)
    exact rt_i X hr hlk hW hS (Option.some.inj hf) (Nat.le_refl _) (Nat.le_refl _) dX8_howMany_50
  replace hf := ite_f c1_2 hf
  by_cases c1_3 : a1 = 3
  · replace hf := ite_t c1_3 hf
    refine lv_tableIn (tgt := 51) X.hx X.hb dX8_howMany_1 (by rw [c1_3]; decide) (by rw [c1_3]; decide) (by rw [c1_3]; rfl) (by decide) ?_
    refine lv_aload_n X.hx X.hb dX8_howMany_51 rfl (lv_at hl 0 rfl) ?_
    refine gX8_reads X hW dX8_howMany_52 ?_
    exact rt_i X hr hlk hW hS (Option.some.inj hf) (Nat.le_refl _) (Nat.le_refl _) dX8_howMany_55
  replace hf := ite_f c1_3 hf
  by_cases c1_4 : a1 = 4
  · replace hf := ite_t c1_4 hf
    refine lv_tableIn (tgt := 56) X.hx X.hb dX8_howMany_1 (by rw [c1_4]; decide) (by rw [c1_4]; decide) (by rw [c1_4]; rfl) (by decide) ?_
    refine lv_aload_n X.hx X.hb dX8_howMany_56 rfl (lv_at hl 0 rfl) ?_
    refine gX8_struck X hW dX8_howMany_57 ?_
    exact rt_i X hr hlk hW hS (Option.some.inj hf) (Nat.le_refl _) (Nat.le_refl _) dX8_howMany_60
  replace hf := ite_f c1_4 hf
  have n1 : (a1).toInt < 0 ∨ 4 < (a1).toInt := by
    have q0 := lv_neT (a := 0) c1_0 (by decide)
    have q1 := lv_neT (a := 1) c1_1 (by decide)
    have q2 := lv_neT (a := 2) c1_2 (by decide)
    have q3 := lv_neT (a := 3) c1_3 (by decide)
    have q4 := lv_neT (a := 4) c1_4 (by decide)
    omega
  refine lv_tableOut (tgt := 61) X.hx X.hb dX8_howMany_1 n1 (by decide) ?_
  refine lv_bipush (v := (-102)) X.hx X.hb dX8_howMany_61 (by decide) ?_
  exact rt_i X hr hlk hW hS (Option.some.inj hf) (Nat.le_refl _) (Nat.le_refl _) dX8_howMany_63
-- WordSquaresModel.count
noncomputable def f_X8_count (st : St) (a1 : Int32) : Option Int32 := (f_X8_howMany st a1).bind fun b2 => some b2
set_option maxRecDepth 100000 in
theorem w_X8_count (l : Launch) (V : Ev) (A : Nat → Prop) (ad : Nat → Nat) {st : St} {a1 : Int32} {res : Int32} (hf : f_X8_count st a1 = some res) : Cn l yX8_count cX8_count 2 (some .int) 2 43 0 0 V A (WdM V ad A) st [.ref (ad 0), .int a1] (Qwi A (WdM V ad A) res st) := by
  refine cn_of RX8 (by decide) rfl (fun p e s m below meth c ls X hr hlk hW hS hl => ?_) (Nat.le_of_ble_eq_true rfl)
  have hl : lv_has ls 2 [(0, .ref (ad 0)), (1, .int a1)] := hl
  unfold f_X8_count at hf
  refine lv_aload_n X.hx X.hb dX8_count_0 rfl (lv_at hl 0 rfl) ?_
  refine lv_iload_n X.hx X.hb dX8_count_1 rfl (lv_at hl 1 rfl) ?_
  obtain ⟨b2, h2, hf⟩ := bnd hf
  refine cl_i (run_V (As := [.int a1]) (rest := []) X (w_X8_howMany l V A ad h2) mw_X8_howMany ln_X8_282 (rcX8 X hW) hW hS rfl hl.1 rfl (Nat.le_of_ble_eq_true rfl) ⟨Nat.le_of_ble_eq_true rfl, Nat.le_of_ble_eq_true rfl⟩ ⟨Nat.le_refl _, Nat.le_refl _⟩ dX8_count_2) hS (fun H locs hW hS => ?_)
  exact rt_i X hr hlk hW hS (Option.some.inj hf) (Nat.le_refl _) (Nat.le_refl _) dX8_count_5
-- WordSquaresModel.mix
noncomputable def f_X8_mix (st : St) (a1 : Int64) : Option St := lt (sJ st 0 ((31 * (st.2.2.1 0)) + a1)) fun s11 => some s11
set_option maxRecDepth 100000 in
theorem w_X8_mix (l : Launch) (V : Ev) (A : Nat → Prop) (ad : Nat → Nat) {st : St} {a1 : Int64} {res : St} (hf : f_X8_mix st a1 = some res) : Cn l yX8_mix cX8_mix 3 none 0 0 0 0 V A (WdM V ad A) st [.ref (ad 0), .long a1] (Qwv A (WdM V ad A) res) := by
  refine cn_of RX8 (by decide) rfl (fun p e s m below meth c ls X hr hlk hW hS hl => ?_) (Nat.le_of_ble_eq_true rfl)
  have hl : lv_has ls 3 [(0, .ref (ad 0)), (1, .long a1)] := hl
  unfold f_X8_mix at hf
  refine lv_aload_n X.hx X.hb dX8_mix_0 rfl (lv_at hl 0 rfl) ?_
  refine lv_ldc2 (v := 31) X.hx X.hb X.ho (X.ts kn_X8_285) dX8_mix_1 ?_
  refine lv_aload_n X.hx X.hb dX8_mix_4 rfl (lv_at hl 0 rfl) ?_
  refine gX8_h X hW dX8_mix_5 ?_
  refine lv_lmul X.hx X.hb dX8_mix_8 ?_
  refine lv_lload_n X.hx X.hb dX8_mix_9 rfl (lv_at hl 1 rfl) ?_
  refine lv_ladd X.hx X.hb dX8_mix_10 ?_
  obtain ⟨s11, e11, hf⟩ := lt_e hf
  refine pX8_h X hW hS dX8_mix_11 (fun H locs hW hS => ?_)
  rw [← e11] at hW
  exact rt_v X hr hlk (by rw [← Option.some.inj hf]; exact hW) hS (Nat.le_refl _) (Nat.le_refl _) dX8_mix_14
-- WordSquaresModel.mixWords
noncomputable def f_X8_mixWords_L67 (r30 : St → Int32 → Option St) : Nat → St → Int32 → Int32 → Option St
  | 0, _, _, _ => none
  | fu + 1, st, x1, x2 => if 5 ≤ x2 then lt (x1 + 1) fun w89 => r30 st w89 else (f_X8_wordNow st x1 x2).bind fun b76 => (f_X8_mix st (Int32.toInt64 b76)).bind fun b80 => lt (x2 + 1) fun w83 => (f_X8_mixWords_L67 r30 fu) b80 x1 w83
set_option maxRecDepth 100000 in
theorem f_X8_mixWords_L67_w {r30 : St → Int32 → Option St} {res : St} (X : Cx V A cX8_mixWords 3 RX8 p m c s args) (hr : meth.sig.returnType = none) (hlk : meth.locks = false) (hr30 : ∀ (st : St) (x1 : Int32) (H : Heap) (locs : List Loc) (ls : Array Slot), r30 st x1 = some res → (WdM V ad A) st H → va_S A s.heap H locs → lv_has ls 3 [(0, .ref (ad 0)), (1, .int x1)] → W p l e (rmF 4 89 0 0) s m args below meth c H locs 0 0 (MQ below (Qwv A (WdM V ad A) res) args s 0 0 A) (F0 m 30 ls [])) : ∀ (n9 : Nat) (st : St) (x1 : Int32) (x2 : Int32) (H : Heap) (locs : List Loc) (ls : Array Slot), f_X8_mixWords_L67 r30 n9 st x1 x2 = some res → (WdM V ad A) st H → va_S A s.heap H locs → lv_has ls 3 [(0, .ref (ad 0)), (1, .int x1), (2, .int x2)] → W p l e (rmF 4 89 0 0) s m args below meth c H locs 0 0 (MQ below (Qwv A (WdM V ad A) res) args s 0 0 A) (F0 m 67 ls []) := by
  intro n9
  induction n9 with
  | zero =>
    intro st x1 x2 H locs ls hf
    exact absurd hf (by unfold f_X8_mixWords_L67; exact fun h => by cases h)
  | succ n9 hr67 =>
    intro st x1 x2 H locs ls hf hW hS hl
    
    unfold f_X8_mixWords_L67 at hf
    refine lv_iload_n X.hx X.hb dX8_mixWords_67 rfl (lv_at hl 2 rfl) ?_
    refine lv_iconst (v := 5) X.hx X.hb dX8_mixWords_68 (by decide) ?_
    refine lv_icmp_ge (tgt := 89) X.hx X.hb dX8_mixWords_69 (by decide) (fun c69 => ?_) (fun c69 => ?_)
    · replace hf := ite_t c69 hf
      obtain ⟨w89, e89, hf⟩ := lt_e hf
      refine lv_iinc (v := w89) (lv' := [(1, .int w89), (0, .ref (ad 0)), (2, .int x2)]) X.hx X.hb dX8_mixWords_89 hl (k := 1) rfl (by rw [e89]; rfl) (by decide) rfl (fun ls hl => ?_)
      refine lv_goto (tgt := 30) X.hx X.hb dX8_mixWords_92 (by decide) ?_
      exact hr30 _ _ _ _ _  hf hW hS (lv_sub hl [1, 0] rfl)
    · replace hf := ite_f c69 hf
      refine lv_aload_n X.hx X.hb dX8_mixWords_72 rfl (lv_at hl 0 rfl) ?_
      refine lv_aload_n X.hx X.hb dX8_mixWords_73 rfl (lv_at hl 0 rfl) ?_
      refine lv_iload_n X.hx X.hb dX8_mixWords_74 rfl (lv_at hl 1 rfl) ?_
      refine lv_iload_n X.hx X.hb dX8_mixWords_75 rfl (lv_at hl 2 rfl) ?_
      obtain ⟨b76, h76, hf⟩ := bnd hf
      refine cl_i (run_V (As := [.int x1, .int x2]) (rest := [.ref (ad 0)]) X (w_X8_wordNow l V A ad h76) mw_X8_wordNow ln_X8_201 (rcX8 X hW) hW hS rfl hl.1 rfl (Nat.le_of_ble_eq_true rfl) ⟨Nat.le_of_ble_eq_true rfl, Nat.le_of_ble_eq_true rfl⟩ ⟨Nat.le_refl _, Nat.le_refl _⟩ dX8_mixWords_76) hS (fun H locs hW hS => ?_)
      refine lv_i2l X.hx X.hb dX8_mixWords_79 rfl ?_
      obtain ⟨b80, h80, hf⟩ := bnd hf
      refine cl_v (run_V (As := [.long (Int32.toInt64 b76)]) (rest := []) X (w_X8_mix l V A ad h80) mw_X8_mix ln_X8_291 (rcX8 X hW) hW hS rfl hl.1 rfl (Nat.le_of_ble_eq_true rfl) ⟨Nat.le_of_ble_eq_true rfl, Nat.le_of_ble_eq_true rfl⟩ ⟨Nat.le_refl _, Nat.le_refl _⟩ dX8_mixWords_80) hS (fun H locs hW hS => ?_)
      obtain ⟨w83, e83, hf⟩ := lt_e hf
      refine lv_iinc (v := w83) (lv' := [(2, .int w83), (0, .ref (ad 0)), (1, .int x1)]) X.hx X.hb dX8_mixWords_83 hl (k := 2) rfl (by rw [e83]; rfl) (by decide) rfl (fun ls hl => ?_)
      refine lv_goto (tgt := 67) X.hx X.hb dX8_mixWords_86 (by decide) ?_
      exact hr67 _ _ _ _ _ _  hf hW hS (lv_sub hl [1, 2, 0] rfl)
noncomputable def f_X8_mixWords_L40 (r30 : St → Int32 → Option St) : Nat → St → Int32 → Int32 → Option St
  | 0, _, _, _ => none
  | fu + 1, st, x1, x2 => if (st.1 0) ≤ x2 then f_X8_mixWords_L67 r30 FU st x1 0 else (f_X8_at st x1 x2).bind fun b52 => (f_X8_mix st (Int32.toInt64 b52)).bind fun b56 => lt (x2 + 1) fun w59 => (f_X8_mixWords_L40 r30 fu) b56 x1 w59
set_option maxRecDepth 100000 in
theorem f_X8_mixWords_L40_w {r30 : St → Int32 → Option St} {res : St} (X : Cx V A cX8_mixWords 3 RX8 p m c s args) (hr : meth.sig.returnType = none) (hlk : meth.locks = false) (hr30 : ∀ (st : St) (x1 : Int32) (H : Heap) (locs : List Loc) (ls : Array Slot), r30 st x1 = some res → (WdM V ad A) st H → va_S A s.heap H locs → lv_has ls 3 [(0, .ref (ad 0)), (1, .int x1)] → W p l e (rmF 4 89 0 0) s m args below meth c H locs 0 0 (MQ below (Qwv A (WdM V ad A) res) args s 0 0 A) (F0 m 30 ls [])) : ∀ (n9 : Nat) (st : St) (x1 : Int32) (x2 : Int32) (H : Heap) (locs : List Loc) (ls : Array Slot), f_X8_mixWords_L40 r30 n9 st x1 x2 = some res → (WdM V ad A) st H → va_S A s.heap H locs → lv_has ls 3 [(0, .ref (ad 0)), (1, .int x1), (2, .int x2)] → W p l e (rmF 4 89 0 0) s m args below meth c H locs 0 0 (MQ below (Qwv A (WdM V ad A) res) args s 0 0 A) (F0 m 40 ls []) := by
  intro n9
  induction n9 with
  | zero =>
    intro st x1 x2 H locs ls hf
    exact absurd hf (by unfold f_X8_mixWords_L40; exact fun h => by cases h)
  | succ n9 hr40 =>
    intro st x1 x2 H locs ls hf hW hS hl
    
    unfold f_X8_mixWords_L40 at hf
    refine lv_iload_n X.hx X.hb dX8_mixWords_40 rfl (lv_at hl 2 rfl) ?_
    refine lv_aload_n X.hx X.hb dX8_mixWords_41 rfl (lv_at hl 0 rfl) ?_
    refine gX8_length X hW dX8_mixWords_42 ?_
    refine lv_icmp_ge (tgt := 65) X.hx X.hb dX8_mixWords_45 (by decide) (fun c45 => ?_) (fun c45 => ?_)
    · replace hf := ite_t c45 hf
      refine lv_iconst (v := 0) X.hx X.hb dX8_mixWords_65 (by decide) ?_
      refine lv_istore_n (lv' := [(2, .int 0), (0, .ref (ad 0)), (1, .int x1)]) X.hx X.hb dX8_mixWords_66 rfl hl (by decide) rfl (fun ls hl => ?_)
      exact f_X8_mixWords_L67_w X hr hlk hr30 FU _ _ _ _ _ _  hf hW hS (lv_sub hl [1, 2, 0] rfl)
    · replace hf := ite_f c45 hf
      refine lv_aload_n X.hx X.hb dX8_mixWords_48 rfl (lv_at hl 0 rfl) ?_
      refine lv_aload_n X.hx X.hb dX8_mixWords_49 rfl (lv_at hl 0 rfl) ?_
      refine lv_iload_n X.hx X.hb dX8_mixWords_50 rfl (lv_at hl 1 rfl) ?_
      refine lv_iload_n X.hx X.hb dX8_mixWords_51 rfl (lv_at hl 2 rfl) ?_
      obtain ⟨b52, h52, hf⟩ := bnd hf
      refine cl_i (run_V (As := [.int x1, .int x2]) (rest := [.ref (ad 0)]) X (w_X8_at l V A ad h52) mw_X8_at ln_X8_130 (rcX8 X hW) hW hS rfl hl.1 rfl (Nat.le_of_ble_eq_true rfl) ⟨Nat.le_of_ble_eq_true rfl, Nat.le_of_ble_eq_true rfl⟩ ⟨Nat.le_refl _, Nat.le_refl _⟩ dX8_mixWords_52) hS (fun H locs hW hS => ?_)
      refine lv_i2l X.hx X.hb dX8_mixWords_55 rfl ?_
      obtain ⟨b56, h56, hf⟩ := bnd hf
      refine cl_v (run_V (As := [.long (Int32.toInt64 b52)]) (rest := []) X (w_X8_mix l V A ad h56) mw_X8_mix ln_X8_291 (rcX8 X hW) hW hS rfl hl.1 rfl (Nat.le_of_ble_eq_true rfl) ⟨Nat.le_of_ble_eq_true rfl, Nat.le_of_ble_eq_true rfl⟩ ⟨Nat.le_refl _, Nat.le_refl _⟩ dX8_mixWords_56) hS (fun H locs hW hS => ?_)
      obtain ⟨w59, e59, hf⟩ := lt_e hf
      refine lv_iinc (v := w59) (lv' := [(2, .int w59), (0, .ref (ad 0)), (1, .int x1)]) X.hx X.hb dX8_mixWords_59 hl (k := 2) rfl (by rw [e59]; rfl) (by decide) rfl (fun ls hl => ?_)
      refine lv_goto (tgt := 40) X.hx X.hb dX8_mixWords_62 (by decide) ?_
      exact hr40 _ _ _ _ _ _  hf hW hS (lv_sub hl [1, 2, 0] rfl)
noncomputable def f_X8_mixWords_L30 : Nat → St → Int32 → Option St
  | 0, _, _ => none
  | fu + 1, st, x1 => if (st.1 1) ≤ x1 then some st else f_X8_mixWords_L40 ((f_X8_mixWords_L30 fu)) FU st x1 0
set_option maxRecDepth 100000 in
theorem f_X8_mixWords_L30_w {res : St} (X : Cx V A cX8_mixWords 3 RX8 p m c s args) (hr : meth.sig.returnType = none) (hlk : meth.locks = false)  : ∀ (n9 : Nat) (st : St) (x1 : Int32) (H : Heap) (locs : List Loc) (ls : Array Slot), f_X8_mixWords_L30 n9 st x1 = some res → (WdM V ad A) st H → va_S A s.heap H locs → lv_has ls 3 [(0, .ref (ad 0)), (1, .int x1)] → W p l e (rmF 4 89 0 0) s m args below meth c H locs 0 0 (MQ below (Qwv A (WdM V ad A) res) args s 0 0 A) (F0 m 30 ls []) := by
  intro n9
  induction n9 with
  | zero =>
    intro st x1 H locs ls hf
    exact absurd hf (by unfold f_X8_mixWords_L30; exact fun h => by cases h)
  | succ n9 hr30 =>
    intro st x1 H locs ls hf hW hS hl
    
    unfold f_X8_mixWords_L30 at hf
    refine lv_iload_n X.hx X.hb dX8_mixWords_30 rfl (lv_at hl 1 rfl) ?_
    refine lv_aload_n X.hx X.hb dX8_mixWords_31 rfl (lv_at hl 0 rfl) ?_
    refine gX8_words X hW dX8_mixWords_32 ?_
    refine lv_icmp_ge (tgt := 95) X.hx X.hb dX8_mixWords_35 (by decide) (fun c35 => ?_) (fun c35 => ?_)
    · replace hf := ite_t c35 hf
      exact rt_v X hr hlk (by rw [← Option.some.inj hf]; exact hW) hS (Nat.le_refl _) (Nat.le_refl _) dX8_mixWords_95
    · replace hf := ite_f c35 hf
      refine lv_iconst (v := 0) X.hx X.hb dX8_mixWords_38 (by decide) ?_
      refine lv_istore_n (lv' := [(2, .int 0), (0, .ref (ad 0)), (1, .int x1)]) X.hx X.hb dX8_mixWords_39 rfl hl (by decide) rfl (fun ls hl => ?_)
      exact f_X8_mixWords_L40_w X hr hlk hr30 FU _ _ _ _ _ _  hf hW hS (lv_sub hl [1, 2, 0] rfl)
noncomputable def f_X8_mixWords_L2 : Nat → St → Int32 → Option St
  | 0, _, _ => none
  | fu + 1, st, x1 => if 6 ≤ x1 then (f_X8_layCounts st).bind fun b25 => f_X8_mixWords_L30 FU b25 0 else (f_X8_aboutNow st x1).bind fun b11 => (f_X8_mix st (Int32.toInt64 b11)).bind fun b15 => lt (x1 + 1) fun w18 => (f_X8_mixWords_L2 fu) b15 w18
set_option maxRecDepth 100000 in
theorem f_X8_mixWords_L2_w {res : St} (X : Cx V A cX8_mixWords 3 RX8 p m c s args) (hr : meth.sig.returnType = none) (hlk : meth.locks = false)  : ∀ (n9 : Nat) (st : St) (x1 : Int32) (H : Heap) (locs : List Loc) (ls : Array Slot), f_X8_mixWords_L2 n9 st x1 = some res → (WdM V ad A) st H → va_S A s.heap H locs → lv_has ls 3 [(0, .ref (ad 0)), (1, .int x1)] → W p l e (rmF 4 89 0 0) s m args below meth c H locs 0 0 (MQ below (Qwv A (WdM V ad A) res) args s 0 0 A) (F0 m 2 ls []) := by
  intro n9
  induction n9 with
  | zero =>
    intro st x1 H locs ls hf
    exact absurd hf (by unfold f_X8_mixWords_L2; exact fun h => by cases h)
  | succ n9 hr2 =>
    intro st x1 H locs ls hf hW hS hl
    
    unfold f_X8_mixWords_L2 at hf
    refine lv_iload_n X.hx X.hb dX8_mixWords_2 rfl (lv_at hl 1 rfl) ?_
    refine lv_bipush (v := 6) X.hx X.hb dX8_mixWords_3 (by decide) ?_
    refine lv_icmp_ge (tgt := 24) X.hx X.hb dX8_mixWords_5 (by decide) (fun c5 => ?_) (fun c5 => ?_)
    · replace hf := ite_t c5 hf
      refine lv_aload_n X.hx X.hb dX8_mixWords_24 rfl (lv_at hl 0 rfl) ?_
      obtain ⟨b25, h25, hf⟩ := bnd hf
      refine cl_v (run_V (As := []) (rest := []) X (w_X8_layCounts l V A ad h25) mw_X8_layCounts ln_X8_198 (rcX8 X hW) hW hS rfl hl.1 rfl (Nat.le_of_ble_eq_true rfl) ⟨Nat.le_of_ble_eq_true rfl, Nat.le_of_ble_eq_true rfl⟩ ⟨Nat.le_refl _, Nat.le_refl _⟩ dX8_mixWords_25) hS (fun H locs hW hS => ?_)
      refine lv_iconst (v := 0) X.hx X.hb dX8_mixWords_28 (by decide) ?_
      refine lv_istore_n (lv' := [(1, .int 0), (0, .ref (ad 0))]) X.hx X.hb dX8_mixWords_29 rfl hl (by decide) rfl (fun ls hl => ?_)
      exact f_X8_mixWords_L30_w X hr hlk FU _ _ _ _ _  hf hW hS (lv_sub hl [1, 0] rfl)
    · replace hf := ite_f c5 hf
      refine lv_aload_n X.hx X.hb dX8_mixWords_8 rfl (lv_at hl 0 rfl) ?_
      refine lv_aload_n X.hx X.hb dX8_mixWords_9 rfl (lv_at hl 0 rfl) ?_
      refine lv_iload_n X.hx X.hb dX8_mixWords_10 rfl (lv_at hl 1 rfl) ?_
      obtain ⟨b11, h11, hf⟩ := bnd hf
      refine cl_i (run_V (As := [.int x1]) (rest := [.ref (ad 0)]) X (w_X8_aboutNow l V A ad h11) mw_X8_aboutNow ln_X8_153 (rcX8 X hW) hW hS rfl hl.1 rfl (Nat.le_of_ble_eq_true rfl) ⟨Nat.le_of_ble_eq_true rfl, Nat.le_of_ble_eq_true rfl⟩ ⟨Nat.le_refl _, Nat.le_refl _⟩ dX8_mixWords_11) hS (fun H locs hW hS => ?_)
      refine lv_i2l X.hx X.hb dX8_mixWords_14 rfl ?_
      obtain ⟨b15, h15, hf⟩ := bnd hf
      refine cl_v (run_V (As := [.long (Int32.toInt64 b11)]) (rest := []) X (w_X8_mix l V A ad h15) mw_X8_mix ln_X8_291 (rcX8 X hW) hW hS rfl hl.1 rfl (Nat.le_of_ble_eq_true rfl) ⟨Nat.le_of_ble_eq_true rfl, Nat.le_of_ble_eq_true rfl⟩ ⟨Nat.le_refl _, Nat.le_refl _⟩ dX8_mixWords_15) hS (fun H locs hW hS => ?_)
      obtain ⟨w18, e18, hf⟩ := lt_e hf
      refine lv_iinc (v := w18) (lv' := [(1, .int w18), (0, .ref (ad 0))]) X.hx X.hb dX8_mixWords_18 hl (k := 1) rfl (by rw [e18]; rfl) (by decide) rfl (fun ls hl => ?_)
      refine lv_goto (tgt := 2) X.hx X.hb dX8_mixWords_21 (by decide) ?_
      exact hr2 _ _ _ _ _  hf hW hS (lv_sub hl [1, 0] rfl)
noncomputable def f_X8_mixWords (st : St) : Option St := f_X8_mixWords_L2 FU st 0
set_option maxRecDepth 100000 in
theorem w_X8_mixWords (l : Launch) (V : Ev) (A : Nat → Prop) (ad : Nat → Nat) {st : St} {res : St} (hf : f_X8_mixWords st = some res) : Cn l yX8_mixWords cX8_mixWords 3 none 4 89 0 0 V A (WdM V ad A) st [.ref (ad 0)] (Qwv A (WdM V ad A) res) := by
  refine cn_of RX8 (by decide) rfl (fun p e s m below meth c ls X hr hlk hW hS hl => ?_) (Nat.le_of_ble_eq_true rfl)
  have hl : lv_has ls 3 [(0, .ref (ad 0))] := hl
  unfold f_X8_mixWords at hf
  refine lv_iconst (v := 0) X.hx X.hb dX8_mixWords_0 (by decide) ?_
  refine lv_istore_n (lv' := [(1, .int 0), (0, .ref (ad 0))]) X.hx X.hb dX8_mixWords_1 rfl hl (by decide) rfl (fun ls hl => ?_)
  exact f_X8_mixWords_L2_w X hr hlk FU _ _ _ _ _  hf hW hS (lv_sub hl [1, 0] rfl)
-- WordSquaresModel.mixSquares
noncomputable def f_X8_mixSquares_J107 (r42 : St → Int32 → Int32 → Option St) (st : St) (x1 : Int32) (t0 : Int32) : Option St := r42 st x1 t0
set_option maxRecDepth 100000 in
theorem f_X8_mixSquares_J107_w {r42 : St → Int32 → Int32 → Option St} {res : St} (X : Cx V A cX8_mixSquares 4 RX8 p m c s args) (hr : meth.sig.returnType = none) (hlk : meth.locks = false) (hr42 : ∀ (st : St) (x1 : Int32) (x2 : Int32) (H : Heap) (locs : List Loc) (ls : Array Slot), r42 st x1 x2 = some res → (WdM V ad A) st H → va_S A s.heap H locs → lv_has ls 4 [(0, .ref (ad 0)), (1, .int x1), (2, .int x2)] → W p l e (rmF 5 114 0 0) s m args below meth c H locs 0 0 (MQ below (Qwv A (WdM V ad A) res) args s 0 0 A) (F0 m 42 ls [])) (st : St) (x1 : Int32) (t0 : Int32) (H : Heap) (locs : List Loc) (ls : Array Slot)  (hf : f_X8_mixSquares_J107 r42 st x1 t0 = some res) (hW : (WdM V ad A) st H) (hS : va_S A s.heap H locs) (hl : lv_has ls 4 [(0, .ref (ad 0)), (1, .int x1)]) : W p l e (rmF 5 114 0 0) s m args below meth c H locs 0 0 (MQ below (Qwv A (WdM V ad A) res) args s 0 0 A) (F0 m 107 ls [.int t0]) := by
  
  unfold f_X8_mixSquares_J107 at hf
  refine lv_istore_n (lv' := [(2, .int t0), (0, .ref (ad 0)), (1, .int x1)]) X.hx X.hb dX8_mixSquares_107 rfl hl (by decide) rfl (fun ls hl => ?_)
  refine lv_goto (tgt := 42) X.hx X.hb dX8_mixSquares_108 (by decide) ?_
  exact hr42 _ _ _ _ _ _  hf hW hS (lv_sub hl [1, 2, 0] rfl)
noncomputable def f_X8_mixSquares_J106 (r42 : St → Int32 → Int32 → Option St) (st : St) (x1 : Int32) : Option St := f_X8_mixSquares_J107 r42 st x1 0
set_option maxRecDepth 100000 in
theorem f_X8_mixSquares_J106_w {r42 : St → Int32 → Int32 → Option St} {res : St} (X : Cx V A cX8_mixSquares 4 RX8 p m c s args) (hr : meth.sig.returnType = none) (hlk : meth.locks = false) (hr42 : ∀ (st : St) (x1 : Int32) (x2 : Int32) (H : Heap) (locs : List Loc) (ls : Array Slot), r42 st x1 x2 = some res → (WdM V ad A) st H → va_S A s.heap H locs → lv_has ls 4 [(0, .ref (ad 0)), (1, .int x1), (2, .int x2)] → W p l e (rmF 5 114 0 0) s m args below meth c H locs 0 0 (MQ below (Qwv A (WdM V ad A) res) args s 0 0 A) (F0 m 42 ls [])) (st : St) (x1 : Int32) (H : Heap) (locs : List Loc) (ls : Array Slot)  (hf : f_X8_mixSquares_J106 r42 st x1 = some res) (hW : (WdM V ad A) st H) (hS : va_S A s.heap H locs) (hl : lv_has ls 4 [(0, .ref (ad 0)), (1, .int x1)]) : W p l e (rmF 5 114 0 0) s m args below meth c H locs 0 0 (MQ below (Qwv A (WdM V ad A) res) args s 0 0 A) (F0 m 106 ls []) := by
  
  unfold f_X8_mixSquares_J106 at hf
  refine lv_iconst (v := 0) X.hx X.hb dX8_mixSquares_106 (by decide) ?_
  exact f_X8_mixSquares_J107_w X hr hlk hr42 _ _ _ _ _ _  hf hW hS (lv_sub hl [0, 1] rfl)
noncomputable def f_X8_mixSquares_J89 (r42 : St → Int32 → Int32 → Option St) (st : St) (x1 : Int32) : Option St := if 40 ≤ x1 then f_X8_mixSquares_J106 r42 st x1 else (f_X8_next st).bind fun b96 => if b96.1 = 0 then f_X8_mixSquares_J106 r42 b96.2 x1 else f_X8_mixSquares_J107 r42 b96.2 x1 1
set_option maxRecDepth 100000 in
theorem f_X8_mixSquares_J89_w {r42 : St → Int32 → Int32 → Option St} {res : St} (X : Cx V A cX8_mixSquares 4 RX8 p m c s args) (hr : meth.sig.returnType = none) (hlk : meth.locks = false) (hr42 : ∀ (st : St) (x1 : Int32) (x2 : Int32) (H : Heap) (locs : List Loc) (ls : Array Slot), r42 st x1 x2 = some res → (WdM V ad A) st H → va_S A s.heap H locs → lv_has ls 4 [(0, .ref (ad 0)), (1, .int x1), (2, .int x2)] → W p l e (rmF 5 114 0 0) s m args below meth c H locs 0 0 (MQ below (Qwv A (WdM V ad A) res) args s 0 0 A) (F0 m 42 ls [])) (st : St) (x1 : Int32) (H : Heap) (locs : List Loc) (ls : Array Slot)  (hf : f_X8_mixSquares_J89 r42 st x1 = some res) (hW : (WdM V ad A) st H) (hS : va_S A s.heap H locs) (hl : lv_has ls 4 [(0, .ref (ad 0)), (1, .int x1)]) : W p l e (rmF 5 114 0 0) s m args below meth c H locs 0 0 (MQ below (Qwv A (WdM V ad A) res) args s 0 0 A) (F0 m 89 ls []) := by
  
  unfold f_X8_mixSquares_J89 at hf
  refine lv_iload_n X.hx X.hb dX8_mixSquares_89 rfl (lv_at hl 1 rfl) ?_
  refine lv_bipush (v := 40) X.hx X.hb dX8_mixSquares_90 (by decide) ?_
  refine lv_icmp_ge (tgt := 106) X.hx X.hb dX8_mixSquares_92 (by decide) (fun c92 => ?_) (fun c92 => ?_)
  · replace hf := ite_t c92 hf
    exact f_X8_mixSquares_J106_w X hr hlk hr42 _ _ _ _ _  hf hW hS (lv_sub hl [0, 1] rfl)
  · replace hf := ite_f c92 hf
    refine lv_aload_n X.hx X.hb dX8_mixSquares_95 rfl (lv_at hl 0 rfl) ?_
    obtain ⟨b96, h96, hf⟩ := bnd hf
    refine cl_i (run_V (As := []) (rest := []) X (w_X8_next l V A ad h96) mw_X8_next ln_X8_177 (rcX8 X hW) hW hS rfl hl.1 rfl (Nat.le_of_ble_eq_true rfl) ⟨Nat.le_of_ble_eq_true rfl, Nat.le_of_ble_eq_true rfl⟩ ⟨Nat.le_refl _, Nat.le_refl _⟩ dX8_mixSquares_96) hS (fun H locs hW hS => ?_)
    refine lv_if_eq (tgt := 106) X.hx X.hb dX8_mixSquares_99 (by decide) (fun c99 => ?_) (fun c99 => ?_)
    · replace hf := ite_t c99 hf
      exact f_X8_mixSquares_J106_w X hr hlk hr42 _ _ _ _ _  hf hW hS (lv_sub hl [0, 1] rfl)
    · replace hf := ite_f c99 hf
      refine lv_iconst (v := 1) X.hx X.hb dX8_mixSquares_102 (by decide) ?_
      refine lv_goto (tgt := 107) X.hx X.hb dX8_mixSquares_103 (by decide) ?_
      exact f_X8_mixSquares_J107_w X hr hlk hr42 _ _ _ _ _ _  hf hW hS (lv_sub hl [0, 1] rfl)
noncomputable def f_X8_mixSquares_J86 (r42 : St → Int32 → Int32 → Option St) (st : St) (x1 : Int32) : Option St := lt (x1 + 1) fun w86 => f_X8_mixSquares_J89 r42 st w86
set_option maxRecDepth 100000 in
theorem f_X8_mixSquares_J86_w {r42 : St → Int32 → Int32 → Option St} {res : St} (X : Cx V A cX8_mixSquares 4 RX8 p m c s args) (hr : meth.sig.returnType = none) (hlk : meth.locks = false) (hr42 : ∀ (st : St) (x1 : Int32) (x2 : Int32) (H : Heap) (locs : List Loc) (ls : Array Slot), r42 st x1 x2 = some res → (WdM V ad A) st H → va_S A s.heap H locs → lv_has ls 4 [(0, .ref (ad 0)), (1, .int x1), (2, .int x2)] → W p l e (rmF 5 114 0 0) s m args below meth c H locs 0 0 (MQ below (Qwv A (WdM V ad A) res) args s 0 0 A) (F0 m 42 ls [])) (st : St) (x1 : Int32) (H : Heap) (locs : List Loc) (ls : Array Slot)  (hf : f_X8_mixSquares_J86 r42 st x1 = some res) (hW : (WdM V ad A) st H) (hS : va_S A s.heap H locs) (hl : lv_has ls 4 [(0, .ref (ad 0)), (1, .int x1)]) : W p l e (rmF 5 114 0 0) s m args below meth c H locs 0 0 (MQ below (Qwv A (WdM V ad A) res) args s 0 0 A) (F0 m 86 ls []) := by
  
  unfold f_X8_mixSquares_J86 at hf
  obtain ⟨w86, e86, hf⟩ := lt_e hf
  refine lv_iinc (v := w86) (lv' := [(1, .int w86), (0, .ref (ad 0))]) X.hx X.hb dX8_mixSquares_86 hl (k := 1) rfl (by rw [e86]; rfl) (by decide) rfl (fun ls hl => ?_)
  exact f_X8_mixSquares_J89_w X hr hlk hr42 _ _ _ _ _  hf hW hS (lv_sub hl [1, 0] rfl)
noncomputable def f_X8_mixSquares_L55 (r42 : St → Int32 → Int32 → Option St) : Nat → St → Int32 → Int32 → Option St
  | 0, _, _, _ => none
  | fu + 1, st, x1, x3 => if (st.1 0) ≤ x3 then f_X8_mixSquares_J86 r42 st x1 else if 40 ≤ x1 then f_X8_mixSquares_J86 r42 st x1 else if inb x3 4 = true then (f_X8_mix st (Int32.toInt64 (st.2.1 6 x3.toNatClampNeg))).bind fun b77 => lt (x3 + 1) fun w80 => (f_X8_mixSquares_L55 r42 fu) b77 x1 w80 else none
set_option maxRecDepth 100000 in
theorem f_X8_mixSquares_L55_w {r42 : St → Int32 → Int32 → Option St} {res : St} (X : Cx V A cX8_mixSquares 4 RX8 p m c s args) (hr : meth.sig.returnType = none) (hlk : meth.locks = false) (hr42 : ∀ (st : St) (x1 : Int32) (x2 : Int32) (H : Heap) (locs : List Loc) (ls : Array Slot), r42 st x1 x2 = some res → (WdM V ad A) st H → va_S A s.heap H locs → lv_has ls 4 [(0, .ref (ad 0)), (1, .int x1), (2, .int x2)] → W p l e (rmF 5 114 0 0) s m args below meth c H locs 0 0 (MQ below (Qwv A (WdM V ad A) res) args s 0 0 A) (F0 m 42 ls [])) : ∀ (n9 : Nat) (st : St) (x1 : Int32) (x3 : Int32) (H : Heap) (locs : List Loc) (ls : Array Slot), f_X8_mixSquares_L55 r42 n9 st x1 x3 = some res → (WdM V ad A) st H → va_S A s.heap H locs → lv_has ls 4 [(0, .ref (ad 0)), (1, .int x1), (3, .int x3)] → W p l e (rmF 5 114 0 0) s m args below meth c H locs 0 0 (MQ below (Qwv A (WdM V ad A) res) args s 0 0 A) (F0 m 55 ls []) := by
  intro n9
  induction n9 with
  | zero =>
    intro st x1 x3 H locs ls hf
    exact absurd hf (by unfold f_X8_mixSquares_L55; exact fun h => by cases h)
  | succ n9 hr55 =>
    intro st x1 x3 H locs ls hf hW hS hl
    
    unfold f_X8_mixSquares_L55 at hf
    refine lv_iload_n X.hx X.hb dX8_mixSquares_55 rfl (lv_at hl 2 rfl) ?_
    refine lv_aload_n X.hx X.hb dX8_mixSquares_56 rfl (lv_at hl 0 rfl) ?_
    refine gX8_length X hW dX8_mixSquares_57 ?_
    refine lv_icmp_ge (tgt := 86) X.hx X.hb dX8_mixSquares_60 (by decide) (fun c60 => ?_) (fun c60 => ?_)
    · replace hf := ite_t c60 hf
      exact f_X8_mixSquares_J86_w X hr hlk hr42 _ _ _ _ _  hf hW hS (lv_sub hl [0, 1] rfl)
    · replace hf := ite_f c60 hf
      refine lv_iload_n X.hx X.hb dX8_mixSquares_63 rfl (lv_at hl 1 rfl) ?_
      refine lv_bipush (v := 40) X.hx X.hb dX8_mixSquares_64 (by decide) ?_
      refine lv_icmp_ge (tgt := 86) X.hx X.hb dX8_mixSquares_66 (by decide) (fun c66 => ?_) (fun c66 => ?_)
      · replace hf := ite_t c66 hf
        exact f_X8_mixSquares_J86_w X hr hlk hr42 _ _ _ _ _  hf hW hS (lv_sub hl [0, 1] rfl)
      · replace hf := ite_f c66 hf
        refine lv_aload_n X.hx X.hb dX8_mixSquares_69 rfl (lv_at hl 0 rfl) ?_
        refine lv_aload_n X.hx X.hb dX8_mixSquares_70 rfl (lv_at hl 0 rfl) ?_
        refine gX8_rowWord X hW dX8_mixSquares_71 ?_
        refine lv_iload_n X.hx X.hb dX8_mixSquares_74 rfl (lv_at hl 2 rfl) ?_
        obtain ⟨h75, hf⟩ := ite_n hf
        refine aM_ld X hW isM_6 rfl h75 dX8_mixSquares_75 ?_
        refine lv_i2l X.hx X.hb dX8_mixSquares_76 rfl ?_
        obtain ⟨b77, h77, hf⟩ := bnd hf
        refine cl_v (run_V (As := [.long (Int32.toInt64 (st.2.1 6 x3.toNatClampNeg))]) (rest := []) X (w_X8_mix l V A ad h77) mw_X8_mix ln_X8_291 (rcX8 X hW) hW hS rfl hl.1 rfl (Nat.le_of_ble_eq_true rfl) ⟨Nat.le_of_ble_eq_true rfl, Nat.le_of_ble_eq_true rfl⟩ ⟨Nat.le_refl _, Nat.le_refl _⟩ dX8_mixSquares_77) hS (fun H locs hW hS => ?_)
        obtain ⟨w80, e80, hf⟩ := lt_e hf
        refine lv_iinc (v := w80) (lv' := [(3, .int w80), (0, .ref (ad 0)), (1, .int x1)]) X.hx X.hb dX8_mixSquares_80 hl (k := 2) rfl (by rw [e80]; rfl) (by decide) rfl (fun ls hl => ?_)
        refine lv_goto (tgt := 55) X.hx X.hb dX8_mixSquares_83 (by decide) ?_
        exact hr55 _ _ _ _ _ _  hf hW hS (lv_sub hl [1, 2, 0] rfl)
noncomputable def f_X8_mixSquares_L113 : Nat → St → Int32 → Option St
  | 0, _, _ => none
  | fu + 1, st, x3 => if 3 ≤ x3 then some st else (f_X8_heaviestNow st x3).bind fun b121 => (f_X8_mix b121.2 (Int32.toInt64 b121.1)).bind fun b125 => lt (x3 + 1) fun w128 => (f_X8_mixSquares_L113 fu) b125 w128
set_option maxRecDepth 100000 in
theorem f_X8_mixSquares_L113_w {res : St} (X : Cx V A cX8_mixSquares 4 RX8 p m c s args) (hr : meth.sig.returnType = none) (hlk : meth.locks = false)  : ∀ (n9 : Nat) (st : St) (x3 : Int32) (H : Heap) (locs : List Loc) (ls : Array Slot), f_X8_mixSquares_L113 n9 st x3 = some res → (WdM V ad A) st H → va_S A s.heap H locs → lv_has ls 4 [(0, .ref (ad 0)), (3, .int x3)] → W p l e (rmF 5 114 0 0) s m args below meth c H locs 0 0 (MQ below (Qwv A (WdM V ad A) res) args s 0 0 A) (F0 m 113 ls []) := by
  intro n9
  induction n9 with
  | zero =>
    intro st x3 H locs ls hf
    exact absurd hf (by unfold f_X8_mixSquares_L113; exact fun h => by cases h)
  | succ n9 hr113 =>
    intro st x3 H locs ls hf hW hS hl
    
    unfold f_X8_mixSquares_L113 at hf
    refine lv_iload_n X.hx X.hb dX8_mixSquares_113 rfl (lv_at hl 1 rfl) ?_
    refine lv_iconst (v := 3) X.hx X.hb dX8_mixSquares_114 (by decide) ?_
    refine lv_icmp_ge (tgt := 134) X.hx X.hb dX8_mixSquares_115 (by decide) (fun c115 => ?_) (fun c115 => ?_)
    · replace hf := ite_t c115 hf
      exact rt_v X hr hlk (by rw [← Option.some.inj hf]; exact hW) hS (Nat.le_refl _) (Nat.le_refl _) dX8_mixSquares_134
    · replace hf := ite_f c115 hf
      refine lv_aload_n X.hx X.hb dX8_mixSquares_118 rfl (lv_at hl 0 rfl) ?_
      refine lv_aload_n X.hx X.hb dX8_mixSquares_119 rfl (lv_at hl 0 rfl) ?_
      refine lv_iload_n X.hx X.hb dX8_mixSquares_120 rfl (lv_at hl 1 rfl) ?_
      obtain ⟨b121, h121, hf⟩ := bnd hf
      refine cl_i (run_V (As := [.int x3]) (rest := [.ref (ad 0)]) X (w_X8_heaviestNow l V A ad h121) mw_X8_heaviestNow ln_X8_192 (rcX8 X hW) hW hS rfl hl.1 rfl (Nat.le_of_ble_eq_true rfl) ⟨Nat.le_of_ble_eq_true rfl, Nat.le_of_ble_eq_true rfl⟩ ⟨Nat.le_refl _, Nat.le_refl _⟩ dX8_mixSquares_121) hS (fun H locs hW hS => ?_)
      refine lv_i2l X.hx X.hb dX8_mixSquares_124 rfl ?_
      obtain ⟨b125, h125, hf⟩ := bnd hf
      refine cl_v (run_V (As := [.long (Int32.toInt64 b121.1)]) (rest := []) X (w_X8_mix l V A ad h125) mw_X8_mix ln_X8_291 (rcX8 X hW) hW hS rfl hl.1 rfl (Nat.le_of_ble_eq_true rfl) ⟨Nat.le_of_ble_eq_true rfl, Nat.le_of_ble_eq_true rfl⟩ ⟨Nat.le_refl _, Nat.le_refl _⟩ dX8_mixSquares_125) hS (fun H locs hW hS => ?_)
      obtain ⟨w128, e128, hf⟩ := lt_e hf
      refine lv_iinc (v := w128) (lv' := [(3, .int w128), (0, .ref (ad 0))]) X.hx X.hb dX8_mixSquares_128 hl (k := 1) rfl (by rw [e128]; rfl) (by decide) rfl (fun ls hl => ?_)
      refine lv_goto (tgt := 113) X.hx X.hb dX8_mixSquares_131 (by decide) ?_
      exact hr113 _ _ _ _ _  hf hW hS (lv_sub hl [1, 0] rfl)
noncomputable def f_X8_mixSquares_L42 : Nat → St → Int32 → Int32 → Option St
  | 0, _, _, _ => none
  | fu + 1, st, x1, x2 => if x2 = 0 then f_X8_mixSquares_L113 FU st 0 else (f_X8_isSquare st).bind fun b47 => if b47.1 = 0 then f_X8_mixSquares_J89 ((f_X8_mixSquares_L42 fu)) b47.2 x1 else f_X8_mixSquares_L55 ((f_X8_mixSquares_L42 fu)) FU b47.2 x1 0
set_option maxRecDepth 100000 in
theorem f_X8_mixSquares_L42_w {res : St} (X : Cx V A cX8_mixSquares 4 RX8 p m c s args) (hr : meth.sig.returnType = none) (hlk : meth.locks = false)  : ∀ (n9 : Nat) (st : St) (x1 : Int32) (x2 : Int32) (H : Heap) (locs : List Loc) (ls : Array Slot), f_X8_mixSquares_L42 n9 st x1 x2 = some res → (WdM V ad A) st H → va_S A s.heap H locs → lv_has ls 4 [(0, .ref (ad 0)), (1, .int x1), (2, .int x2)] → W p l e (rmF 5 114 0 0) s m args below meth c H locs 0 0 (MQ below (Qwv A (WdM V ad A) res) args s 0 0 A) (F0 m 42 ls []) := by
  intro n9
  induction n9 with
  | zero =>
    intro st x1 x2 H locs ls hf
    exact absurd hf (by unfold f_X8_mixSquares_L42; exact fun h => by cases h)
  | succ n9 hr42 =>
    intro st x1 x2 H locs ls hf hW hS hl
    
    unfold f_X8_mixSquares_L42 at hf
    refine lv_iload_n X.hx X.hb dX8_mixSquares_42 rfl (lv_at hl 2 rfl) ?_
    refine lv_if_eq (tgt := 111) X.hx X.hb dX8_mixSquares_43 (by decide) (fun c43 => ?_) (fun c43 => ?_)
    · replace hf := ite_t c43 hf
      refine lv_iconst (v := 0) X.hx X.hb dX8_mixSquares_111 (by decide) ?_
      refine lv_istore_n (lv' := [(3, .int 0), (0, .ref (ad 0)), (1, .int x1), (2, .int x2)]) X.hx X.hb dX8_mixSquares_112 rfl hl (by decide) rfl (fun ls hl => ?_)
      exact f_X8_mixSquares_L113_w X hr hlk FU _ _ _ _ _  hf hW hS (lv_sub hl [1, 0] rfl)
    · replace hf := ite_f c43 hf
      refine lv_aload_n X.hx X.hb dX8_mixSquares_46 rfl (lv_at hl 0 rfl) ?_
      obtain ⟨b47, h47, hf⟩ := bnd hf
      refine cl_i (run_V (As := []) (rest := []) X (w_X8_isSquare l V A ad h47) mw_X8_isSquare ln_X8_162 (rcX8 X hW) hW hS rfl hl.1 rfl (Nat.le_of_ble_eq_true rfl) ⟨Nat.le_of_ble_eq_true rfl, Nat.le_of_ble_eq_true rfl⟩ ⟨Nat.le_refl _, Nat.le_refl _⟩ dX8_mixSquares_47) hS (fun H locs hW hS => ?_)
      refine lv_if_eq (tgt := 89) X.hx X.hb dX8_mixSquares_50 (by decide) (fun c50 => ?_) (fun c50 => ?_)
      · replace hf := ite_t c50 hf
        exact f_X8_mixSquares_J89_w X hr hlk hr42 _ _ _ _ _  hf hW hS (lv_sub hl [0, 1] rfl)
      · replace hf := ite_f c50 hf
        refine lv_iconst (v := 0) X.hx X.hb dX8_mixSquares_53 (by decide) ?_
        refine lv_istore_n (lv' := [(3, .int 0), (0, .ref (ad 0)), (1, .int x1), (2, .int x2)]) X.hx X.hb dX8_mixSquares_54 rfl hl (by decide) rfl (fun ls hl => ?_)
        exact f_X8_mixSquares_L55_w X hr hlk hr42 FU _ _ _ _ _ _  hf hW hS (lv_sub hl [1, 2, 0] rfl)
noncomputable def f_X8_mixSquares_J41 (st : St) (x1 : Int32) (t0 : Int32) : Option St := f_X8_mixSquares_L42 FU st x1 t0
set_option maxRecDepth 100000 in
theorem f_X8_mixSquares_J41_w {res : St} (X : Cx V A cX8_mixSquares 4 RX8 p m c s args) (hr : meth.sig.returnType = none) (hlk : meth.locks = false)  (st : St) (x1 : Int32) (t0 : Int32) (H : Heap) (locs : List Loc) (ls : Array Slot)  (hf : f_X8_mixSquares_J41 st x1 t0 = some res) (hW : (WdM V ad A) st H) (hS : va_S A s.heap H locs) (hl : lv_has ls 4 [(0, .ref (ad 0)), (1, .int x1)]) : W p l e (rmF 5 114 0 0) s m args below meth c H locs 0 0 (MQ below (Qwv A (WdM V ad A) res) args s 0 0 A) (F0 m 41 ls [.int t0]) := by
  
  unfold f_X8_mixSquares_J41 at hf
  refine lv_istore_n (lv' := [(2, .int t0), (0, .ref (ad 0)), (1, .int x1)]) X.hx X.hb dX8_mixSquares_41 rfl hl (by decide) rfl (fun ls hl => ?_)
  exact f_X8_mixSquares_L42_w X hr hlk FU _ _ _ _ _ _  hf hW hS (lv_sub hl [1, 2, 0] rfl)
noncomputable def f_X8_mixSquares_L2 : Nat → St → Int32 → Option St
  | 0, _, _ => none
  | fu + 1, st, x1 => if 3 ≤ x1 then (f_X8_begin st).bind fun b26 => if (b26.1 1) ≤ 0 then f_X8_mixSquares_J41 b26 0 0 else f_X8_mixSquares_J41 b26 0 1 else (f_X8_squaresNow st x1).bind fun b10 => (f_X8_mix b10.2 (Int32.toInt64 b10.1)).bind fun b14 => lt (x1 + 1) fun w17 => (f_X8_mixSquares_L2 fu) b14 w17
set_option maxRecDepth 100000 in
theorem f_X8_mixSquares_L2_w {res : St} (X : Cx V A cX8_mixSquares 4 RX8 p m c s args) (hr : meth.sig.returnType = none) (hlk : meth.locks = false)  : ∀ (n9 : Nat) (st : St) (x1 : Int32) (H : Heap) (locs : List Loc) (ls : Array Slot), f_X8_mixSquares_L2 n9 st x1 = some res → (WdM V ad A) st H → va_S A s.heap H locs → lv_has ls 4 [(0, .ref (ad 0)), (1, .int x1)] → W p l e (rmF 5 114 0 0) s m args below meth c H locs 0 0 (MQ below (Qwv A (WdM V ad A) res) args s 0 0 A) (F0 m 2 ls []) := by
  intro n9
  induction n9 with
  | zero =>
    intro st x1 H locs ls hf
    exact absurd hf (by unfold f_X8_mixSquares_L2; exact fun h => by cases h)
  | succ n9 hr2 =>
    intro st x1 H locs ls hf hW hS hl
    
    unfold f_X8_mixSquares_L2 at hf
    refine lv_iload_n X.hx X.hb dX8_mixSquares_2 rfl (lv_at hl 1 rfl) ?_
    refine lv_iconst (v := 3) X.hx X.hb dX8_mixSquares_3 (by decide) ?_
    refine lv_icmp_ge (tgt := 23) X.hx X.hb dX8_mixSquares_4 (by decide) (fun c4 => ?_) (fun c4 => ?_)
    · replace hf := ite_t c4 hf
      refine lv_iconst (v := 0) X.hx X.hb dX8_mixSquares_23 (by decide) ?_
      refine lv_istore_n (lv' := [(1, .int 0), (0, .ref (ad 0))]) X.hx X.hb dX8_mixSquares_24 rfl hl (by decide) rfl (fun ls hl => ?_)
      refine lv_aload_n X.hx X.hb dX8_mixSquares_25 rfl (lv_at hl 1 rfl) ?_
      obtain ⟨b26, h26, hf⟩ := bnd hf
      refine cl_v (run_V (As := []) (rest := []) X (w_X8_begin l V A ad h26) mw_X8_begin ln_X8_171 (rcX8 X hW) hW hS rfl hl.1 rfl (Nat.le_of_ble_eq_true rfl) ⟨Nat.le_of_ble_eq_true rfl, Nat.le_of_ble_eq_true rfl⟩ ⟨Nat.le_refl _, Nat.le_refl _⟩ dX8_mixSquares_26) hS (fun H locs hW hS => ?_)
      refine lv_aload_n X.hx X.hb dX8_mixSquares_29 rfl (lv_at hl 1 rfl) ?_
      refine gX8_words X hW dX8_mixSquares_30 ?_
      refine lv_if_le (tgt := 40) X.hx X.hb dX8_mixSquares_33 (by decide) (fun c33 => ?_) (fun c33 => ?_)
      · replace hf := ite_t c33 hf
        refine lv_iconst (v := 0) X.hx X.hb dX8_mixSquares_40 (by decide) ?_
        exact f_X8_mixSquares_J41_w X hr hlk _ _ _ _ _ _  hf hW hS (lv_sub hl [1, 0] rfl)
      · replace hf := ite_f c33 hf
        refine lv_iconst (v := 1) X.hx X.hb dX8_mixSquares_36 (by decide) ?_
        refine lv_goto (tgt := 41) X.hx X.hb dX8_mixSquares_37 (by decide) ?_
        exact f_X8_mixSquares_J41_w X hr hlk _ _ _ _ _ _  hf hW hS (lv_sub hl [1, 0] rfl)
    · replace hf := ite_f c4 hf
      refine lv_aload_n X.hx X.hb dX8_mixSquares_7 rfl (lv_at hl 0 rfl) ?_
      refine lv_aload_n X.hx X.hb dX8_mixSquares_8 rfl (lv_at hl 0 rfl) ?_
      refine lv_iload_n X.hx X.hb dX8_mixSquares_9 rfl (lv_at hl 1 rfl) ?_
      obtain ⟨b10, h10, hf⟩ := bnd hf
      refine cl_i (run_V (As := [.int x1]) (rest := [.ref (ad 0)]) X (w_X8_squaresNow l V A ad h10) mw_X8_squaresNow ln_X8_180 (rcX8 X hW) hW hS rfl hl.1 rfl (Nat.le_of_ble_eq_true rfl) ⟨Nat.le_of_ble_eq_true rfl, Nat.le_of_ble_eq_true rfl⟩ ⟨Nat.le_refl _, Nat.le_refl _⟩ dX8_mixSquares_10) hS (fun H locs hW hS => ?_)
      refine lv_i2l X.hx X.hb dX8_mixSquares_13 rfl ?_
      obtain ⟨b14, h14, hf⟩ := bnd hf
      refine cl_v (run_V (As := [.long (Int32.toInt64 b10.1)]) (rest := []) X (w_X8_mix l V A ad h14) mw_X8_mix ln_X8_291 (rcX8 X hW) hW hS rfl hl.1 rfl (Nat.le_of_ble_eq_true rfl) ⟨Nat.le_of_ble_eq_true rfl, Nat.le_of_ble_eq_true rfl⟩ ⟨Nat.le_refl _, Nat.le_refl _⟩ dX8_mixSquares_14) hS (fun H locs hW hS => ?_)
      obtain ⟨w17, e17, hf⟩ := lt_e hf
      refine lv_iinc (v := w17) (lv' := [(1, .int w17), (0, .ref (ad 0))]) X.hx X.hb dX8_mixSquares_17 hl (k := 1) rfl (by rw [e17]; rfl) (by decide) rfl (fun ls hl => ?_)
      refine lv_goto (tgt := 2) X.hx X.hb dX8_mixSquares_20 (by decide) ?_
      exact hr2 _ _ _ _ _  hf hW hS (lv_sub hl [1, 0] rfl)
noncomputable def f_X8_mixSquares (st : St) : Option St := f_X8_mixSquares_L2 FU st 0
set_option maxRecDepth 100000 in
theorem w_X8_mixSquares (l : Launch) (V : Ev) (A : Nat → Prop) (ad : Nat → Nat) {st : St} {res : St} (hf : f_X8_mixSquares st = some res) : Cn l yX8_mixSquares cX8_mixSquares 4 none 5 114 0 0 V A (WdM V ad A) st [.ref (ad 0)] (Qwv A (WdM V ad A) res) := by
  refine cn_of RX8 (by decide) rfl (fun p e s m below meth c ls X hr hlk hW hS hl => ?_) (Nat.le_of_ble_eq_true rfl)
  have hl : lv_has ls 4 [(0, .ref (ad 0))] := hl
  unfold f_X8_mixSquares at hf
  refine lv_iconst (v := 0) X.hx X.hb dX8_mixSquares_0 (by decide) ?_
  refine lv_istore_n (lv' := [(1, .int 0), (0, .ref (ad 0))]) X.hx X.hb dX8_mixSquares_1 rfl hl (by decide) rfl (fun ls hl => ?_)
  exact f_X8_mixSquares_L2_w X hr hlk FU _ _ _ _ _  hf hW hS (lv_sub hl [1, 0] rfl)
-- WordSquaresModel.mixBoard
noncomputable def f_X8_mixBoard_J70 (r6 : St → Int32 → Option St) (st : St) (x1 : Int32) : Option St := lt (x1 + 1) fun w70 => r6 st w70
set_option maxRecDepth 100000 in
theorem f_X8_mixBoard_J70_w {r6 : St → Int32 → Option St} {res : St} (X : Cx V A cX8_mixBoard 3 RX8 p m c s args) (hr : meth.sig.returnType = none) (hlk : meth.locks = false) (hr6 : ∀ (st : St) (x1 : Int32) (H : Heap) (locs : List Loc) (ls : Array Slot), r6 st x1 = some res → (WdM V ad A) st H → va_S A s.heap H locs → lv_has ls 3 [(0, .ref (ad 0)), (1, .int x1)] → W p l e (rmF 5 110 0 0) s m args below meth c H locs 0 0 (MQ below (Qwv A (WdM V ad A) res) args s 0 0 A) (F0 m 6 ls [])) (st : St) (x1 : Int32) (H : Heap) (locs : List Loc) (ls : Array Slot)  (hf : f_X8_mixBoard_J70 r6 st x1 = some res) (hW : (WdM V ad A) st H) (hS : va_S A s.heap H locs) (hl : lv_has ls 3 [(0, .ref (ad 0)), (1, .int x1)]) : W p l e (rmF 5 110 0 0) s m args below meth c H locs 0 0 (MQ below (Qwv A (WdM V ad A) res) args s 0 0 A) (F0 m 70 ls []) := by
  
  unfold f_X8_mixBoard_J70 at hf
  obtain ⟨w70, e70, hf⟩ := lt_e hf
  refine lv_iinc (v := w70) (lv' := [(1, .int w70), (0, .ref (ad 0))]) X.hx X.hb dX8_mixBoard_70 hl (k := 1) rfl (by rw [e70]; rfl) (by decide) rfl (fun ls hl => ?_)
  refine lv_goto (tgt := 6) X.hx X.hb dX8_mixBoard_73 (by decide) ?_
  exact hr6 _ _ _ _ _  hf hW hS (lv_sub hl [1, 0] rfl)
noncomputable def f_X8_mixBoard_L38 (r6 : St → Int32 → Option St) : Nat → St → Int32 → Int32 → Option St
  | 0, _, _, _ => none
  | fu + 1, st, x1, x2 => if (st.1 0) ≤ x2 then f_X8_mixBoard_J70 r6 st x1 else if (st.1 8) ≤ 0 then f_X8_mixBoard_J70 r6 st x1 else (f_X8_sureNow st x1 x2).bind fun b57 => (f_X8_mix st (Int32.toInt64 b57)).bind fun b61 => lt (x2 + 1) fun w64 => (f_X8_mixBoard_L38 r6 fu) b61 x1 w64
set_option maxRecDepth 100000 in
theorem f_X8_mixBoard_L38_w {r6 : St → Int32 → Option St} {res : St} (X : Cx V A cX8_mixBoard 3 RX8 p m c s args) (hr : meth.sig.returnType = none) (hlk : meth.locks = false) (hr6 : ∀ (st : St) (x1 : Int32) (H : Heap) (locs : List Loc) (ls : Array Slot), r6 st x1 = some res → (WdM V ad A) st H → va_S A s.heap H locs → lv_has ls 3 [(0, .ref (ad 0)), (1, .int x1)] → W p l e (rmF 5 110 0 0) s m args below meth c H locs 0 0 (MQ below (Qwv A (WdM V ad A) res) args s 0 0 A) (F0 m 6 ls [])) : ∀ (n9 : Nat) (st : St) (x1 : Int32) (x2 : Int32) (H : Heap) (locs : List Loc) (ls : Array Slot), f_X8_mixBoard_L38 r6 n9 st x1 x2 = some res → (WdM V ad A) st H → va_S A s.heap H locs → lv_has ls 3 [(0, .ref (ad 0)), (1, .int x1), (2, .int x2)] → W p l e (rmF 5 110 0 0) s m args below meth c H locs 0 0 (MQ below (Qwv A (WdM V ad A) res) args s 0 0 A) (F0 m 38 ls []) := by
  intro n9
  induction n9 with
  | zero =>
    intro st x1 x2 H locs ls hf
    exact absurd hf (by unfold f_X8_mixBoard_L38; exact fun h => by cases h)
  | succ n9 hr38 =>
    intro st x1 x2 H locs ls hf hW hS hl
    
    unfold f_X8_mixBoard_L38 at hf
    refine lv_iload_n X.hx X.hb dX8_mixBoard_38 rfl (lv_at hl 2 rfl) ?_
    refine lv_aload_n X.hx X.hb dX8_mixBoard_39 rfl (lv_at hl 0 rfl) ?_
    refine gX8_length X hW dX8_mixBoard_40 ?_
    refine lv_icmp_ge (tgt := 70) X.hx X.hb dX8_mixBoard_43 (by decide) (fun c43 => ?_) (fun c43 => ?_)
    · replace hf := ite_t c43 hf
      exact f_X8_mixBoard_J70_w X hr hlk hr6 _ _ _ _ _  hf hW hS (lv_sub hl [0, 1] rfl)
    · replace hf := ite_f c43 hf
      refine lv_aload_n X.hx X.hb dX8_mixBoard_46 rfl (lv_at hl 0 rfl) ?_
      refine gX8_fitting X hW dX8_mixBoard_47 ?_
      refine lv_if_le (tgt := 70) X.hx X.hb dX8_mixBoard_50 (by decide) (fun c50 => ?_) (fun c50 => ?_)
      · replace hf := ite_t c50 hf
        exact f_X8_mixBoard_J70_w X hr hlk hr6 _ _ _ _ _  hf hW hS (lv_sub hl [0, 1] rfl)
      · replace hf := ite_f c50 hf
        refine lv_aload_n X.hx X.hb dX8_mixBoard_53 rfl (lv_at hl 0 rfl) ?_
        refine lv_aload_n X.hx X.hb dX8_mixBoard_54 rfl (lv_at hl 0 rfl) ?_
        refine lv_iload_n X.hx X.hb dX8_mixBoard_55 rfl (lv_at hl 1 rfl) ?_
        refine lv_iload_n X.hx X.hb dX8_mixBoard_56 rfl (lv_at hl 2 rfl) ?_
        obtain ⟨b57, h57, hf⟩ := bnd hf
        refine cl_i (run_V (As := [.int x1, .int x2]) (rest := [.ref (ad 0)]) X (w_X8_sureNow l V A ad h57) mw_X8_sureNow ln_X8_228 (rcX8 X hW) hW hS rfl hl.1 rfl (Nat.le_of_ble_eq_true rfl) ⟨Nat.le_of_ble_eq_true rfl, Nat.le_of_ble_eq_true rfl⟩ ⟨Nat.le_refl _, Nat.le_refl _⟩ dX8_mixBoard_57) hS (fun H locs hW hS => ?_)
        refine lv_i2l X.hx X.hb dX8_mixBoard_60 rfl ?_
        obtain ⟨b61, h61, hf⟩ := bnd hf
        refine cl_v (run_V (As := [.long (Int32.toInt64 b57)]) (rest := []) X (w_X8_mix l V A ad h61) mw_X8_mix ln_X8_291 (rcX8 X hW) hW hS rfl hl.1 rfl (Nat.le_of_ble_eq_true rfl) ⟨Nat.le_of_ble_eq_true rfl, Nat.le_of_ble_eq_true rfl⟩ ⟨Nat.le_refl _, Nat.le_refl _⟩ dX8_mixBoard_61) hS (fun H locs hW hS => ?_)
        obtain ⟨w64, e64, hf⟩ := lt_e hf
        refine lv_iinc (v := w64) (lv' := [(2, .int w64), (0, .ref (ad 0)), (1, .int x1)]) X.hx X.hb dX8_mixBoard_64 hl (k := 2) rfl (by rw [e64]; rfl) (by decide) rfl (fun ls hl => ?_)
        refine lv_goto (tgt := 38) X.hx X.hb dX8_mixBoard_67 (by decide) ?_
        exact hr38 _ _ _ _ _ _  hf hW hS (lv_sub hl [1, 2, 0] rfl)
noncomputable def f_X8_mixBoard_L6 : Nat → St → Int32 → Option St
  | 0, _, _ => none
  | fu + 1, st, x1 => if (st.1 0) ≤ x1 then (f_X8_mix st (Int32.toInt64 (st.1 8))).bind fun b82 => some b82 else if inb x1 4 = true then (f_X8_mix st (Int32.toInt64 (st.2.1 3 x1.toNatClampNeg))).bind fun b22 => if inb x1 4 = true then (f_X8_mix b22 (Int32.toInt64 (b22.2.1 12 x1.toNatClampNeg))).bind fun b33 => f_X8_mixBoard_L38 ((f_X8_mixBoard_L6 fu)) FU b33 x1 0 else none else none
set_option maxRecDepth 100000 in
theorem f_X8_mixBoard_L6_w {res : St} (X : Cx V A cX8_mixBoard 3 RX8 p m c s args) (hr : meth.sig.returnType = none) (hlk : meth.locks = false)  : ∀ (n9 : Nat) (st : St) (x1 : Int32) (H : Heap) (locs : List Loc) (ls : Array Slot), f_X8_mixBoard_L6 n9 st x1 = some res → (WdM V ad A) st H → va_S A s.heap H locs → lv_has ls 3 [(0, .ref (ad 0)), (1, .int x1)] → W p l e (rmF 5 110 0 0) s m args below meth c H locs 0 0 (MQ below (Qwv A (WdM V ad A) res) args s 0 0 A) (F0 m 6 ls []) := by
  intro n9
  induction n9 with
  | zero =>
    intro st x1 H locs ls hf
    exact absurd hf (by unfold f_X8_mixBoard_L6; exact fun h => by cases h)
  | succ n9 hr6 =>
    intro st x1 H locs ls hf hW hS hl
    
    unfold f_X8_mixBoard_L6 at hf
    refine lv_iload_n X.hx X.hb dX8_mixBoard_6 rfl (lv_at hl 1 rfl) ?_
    refine lv_aload_n X.hx X.hb dX8_mixBoard_7 rfl (lv_at hl 0 rfl) ?_
    refine gX8_length X hW dX8_mixBoard_8 ?_
    refine lv_icmp_ge (tgt := 76) X.hx X.hb dX8_mixBoard_11 (by decide) (fun c11 => ?_) (fun c11 => ?_)
    · replace hf := ite_t c11 hf
      refine lv_aload_n X.hx X.hb dX8_mixBoard_76 rfl (lv_at hl 0 rfl) ?_
      refine lv_aload_n X.hx X.hb dX8_mixBoard_77 rfl (lv_at hl 0 rfl) ?_
      refine gX8_fitting X hW dX8_mixBoard_78 ?_
      refine lv_i2l X.hx X.hb dX8_mixBoard_81 rfl ?_
      obtain ⟨b82, h82, hf⟩ := bnd hf
      refine cl_v (run_V (As := [.long (Int32.toInt64 (st.1 8))]) (rest := []) X (w_X8_mix l V A ad h82) mw_X8_mix ln_X8_291 (rcX8 X hW) hW hS rfl hl.1 rfl (Nat.le_of_ble_eq_true rfl) ⟨Nat.le_of_ble_eq_true rfl, Nat.le_of_ble_eq_true rfl⟩ ⟨Nat.le_refl _, Nat.le_refl _⟩ dX8_mixBoard_82) hS (fun H locs hW hS => ?_)
      exact rt_v X hr hlk (by rw [← Option.some.inj hf]; exact hW) hS (Nat.le_refl _) (Nat.le_refl _) dX8_mixBoard_85
    · replace hf := ite_f c11 hf
      refine lv_aload_n X.hx X.hb dX8_mixBoard_14 rfl (lv_at hl 0 rfl) ?_
      refine lv_aload_n X.hx X.hb dX8_mixBoard_15 rfl (lv_at hl 0 rfl) ?_
      refine gX8_laid X hW dX8_mixBoard_16 ?_
      refine lv_iload_n X.hx X.hb dX8_mixBoard_19 rfl (lv_at hl 1 rfl) ?_
      obtain ⟨h20, hf⟩ := ite_n hf
      refine aM_ld X hW isM_3 rfl h20 dX8_mixBoard_20 ?_
      refine lv_i2l X.hx X.hb dX8_mixBoard_21 rfl ?_
      obtain ⟨b22, h22, hf⟩ := bnd hf
      refine cl_v (run_V (As := [.long (Int32.toInt64 (st.2.1 3 x1.toNatClampNeg))]) (rest := []) X (w_X8_mix l V A ad h22) mw_X8_mix ln_X8_291 (rcX8 X hW) hW hS rfl hl.1 rfl (Nat.le_of_ble_eq_true rfl) ⟨Nat.le_of_ble_eq_true rfl, Nat.le_of_ble_eq_true rfl⟩ ⟨Nat.le_refl _, Nat.le_refl _⟩ dX8_mixBoard_22) hS (fun H locs hW hS => ?_)
      refine lv_aload_n X.hx X.hb dX8_mixBoard_25 rfl (lv_at hl 0 rfl) ?_
      refine lv_aload_n X.hx X.hb dX8_mixBoard_26 rfl (lv_at hl 0 rfl) ?_
      refine gX8_mayBe X hW dX8_mixBoard_27 ?_
      refine lv_iload_n X.hx X.hb dX8_mixBoard_30 rfl (lv_at hl 1 rfl) ?_
      obtain ⟨h31, hf⟩ := ite_n hf
      refine aM_ld X hW isM_12 rfl h31 dX8_mixBoard_31 ?_
      refine lv_i2l X.hx X.hb dX8_mixBoard_32 rfl ?_
      obtain ⟨b33, h33, hf⟩ := bnd hf
      refine cl_v (run_V (As := [.long (Int32.toInt64 (b22.2.1 12 x1.toNatClampNeg))]) (rest := []) X (w_X8_mix l V A ad h33) mw_X8_mix ln_X8_291 (rcX8 X hW) hW hS rfl hl.1 rfl (Nat.le_of_ble_eq_true rfl) ⟨Nat.le_of_ble_eq_true rfl, Nat.le_of_ble_eq_true rfl⟩ ⟨Nat.le_refl _, Nat.le_refl _⟩ dX8_mixBoard_33) hS (fun H locs hW hS => ?_)
      refine lv_iconst (v := 0) X.hx X.hb dX8_mixBoard_36 (by decide) ?_
      refine lv_istore_n (lv' := [(2, .int 0), (0, .ref (ad 0)), (1, .int x1)]) X.hx X.hb dX8_mixBoard_37 rfl hl (by decide) rfl (fun ls hl => ?_)
      exact f_X8_mixBoard_L38_w X hr hlk hr6 FU _ _ _ _ _ _  hf hW hS (lv_sub hl [1, 2, 0] rfl)
noncomputable def f_X8_mixBoard (st : St) : Option St := (f_X8_layFitting st).bind fun b1 => f_X8_mixBoard_L6 FU b1 0
set_option maxRecDepth 100000 in
theorem w_X8_mixBoard (l : Launch) (V : Ev) (A : Nat → Prop) (ad : Nat → Nat) {st : St} {res : St} (hf : f_X8_mixBoard st = some res) : Cn l yX8_mixBoard cX8_mixBoard 3 none 5 110 0 0 V A (WdM V ad A) st [.ref (ad 0)] (Qwv A (WdM V ad A) res) := by
  refine cn_of RX8 (by decide) rfl (fun p e s m below meth c ls X hr hlk hW hS hl => ?_) (Nat.le_of_ble_eq_true rfl)
  have hl : lv_has ls 3 [(0, .ref (ad 0))] := hl
  unfold f_X8_mixBoard at hf
  refine lv_aload_n X.hx X.hb dX8_mixBoard_0 rfl (lv_at hl 0 rfl) ?_
  obtain ⟨b1, h1, hf⟩ := bnd hf
  refine cl_v (run_V (As := []) (rest := []) X (w_X8_layFitting l V A ad h1) mw_X8_layFitting ln_X8_219 (rcX8 X hW) hW hS rfl hl.1 rfl (Nat.le_of_ble_eq_true rfl) ⟨Nat.le_of_ble_eq_true rfl, Nat.le_of_ble_eq_true rfl⟩ ⟨Nat.le_refl _, Nat.le_refl _⟩ dX8_mixBoard_1) hS (fun H locs hW hS => ?_)
  refine lv_iconst (v := 0) X.hx X.hb dX8_mixBoard_4 (by decide) ?_
  refine lv_istore_n (lv' := [(1, .int 0), (0, .ref (ad 0))]) X.hx X.hb dX8_mixBoard_5 rfl hl (by decide) rfl (fun ls hl => ?_)
  exact f_X8_mixBoard_L6_w X hr hlk FU _ _ _ _ _  hf hW hS (lv_sub hl [1, 0] rfl)
-- WordSquaresModel.digest
noncomputable def f_X8_digest_L78 : Nat → St → Int32 → Option (Int64 × St)
  | 0, _, _ => none
  | fu + 1, st, x1 => if 5 ≤ x1 then some (st.2.2.1 0, st) else (f_X8_howMany st x1).bind fun b86 => (f_X8_mix st (Int32.toInt64 b86)).bind fun b90 => lt (x1 + 1) fun w93 => (f_X8_digest_L78 fu) b90 w93
set_option maxRecDepth 100000 in
theorem f_X8_digest_L78_w {res : (Int64 × St)} (X : Cx V A cX8_digest 2 RX8 p m c s args) (hr : meth.sig.returnType = (some .long)) (hlk : meth.locks = false)  : ∀ (n9 : Nat) (st : St) (x1 : Int32) (H : Heap) (locs : List Loc) (ls : Array Slot), f_X8_digest_L78 n9 st x1 = some res → (WdM V ad A) st H → va_S A s.heap H locs → lv_has ls 2 [(0, .ref (ad 0)), (1, .int x1)] → W p l e (rmF 9 209 0 0) s m args below meth c H locs 0 0 (MQ below (Qwl A (WdM V ad A) res.1 res.2) args s 0 0 A) (F0 m 78 ls []) := by
  intro n9
  induction n9 with
  | zero =>
    intro st x1 H locs ls hf
    exact absurd hf (by unfold f_X8_digest_L78; exact fun h => by cases h)
  | succ n9 hr78 =>
    intro st x1 H locs ls hf hW hS hl
    
    unfold f_X8_digest_L78 at hf
    refine lv_iload_n X.hx X.hb dX8_digest_78 rfl (lv_at hl 1 rfl) ?_
    refine lv_iconst (v := 5) X.hx X.hb dX8_digest_79 (by decide) ?_
    refine lv_icmp_ge (tgt := 99) X.hx X.hb dX8_digest_80 (by decide) (fun c80 => ?_) (fun c80 => ?_)
    · replace hf := ite_t c80 hf
      refine lv_aload_n X.hx X.hb dX8_digest_99 rfl (lv_at hl 0 rfl) ?_
      refine gX8_h X hW dX8_digest_100 ?_
      exact rt_l X hr hlk (by rw [← Option.some.inj hf]; exact hW) hS (by rw [← Option.some.inj hf]) (Nat.le_refl _) (Nat.le_refl _) dX8_digest_103
    · replace hf := ite_f c80 hf
      refine lv_aload_n X.hx X.hb dX8_digest_83 rfl (lv_at hl 0 rfl) ?_
      refine lv_aload_n X.hx X.hb dX8_digest_84 rfl (lv_at hl 0 rfl) ?_
      refine lv_iload_n X.hx X.hb dX8_digest_85 rfl (lv_at hl 1 rfl) ?_
      obtain ⟨b86, h86, hf⟩ := bnd hf
      refine cl_i (run_V (As := [.int x1]) (rest := [.ref (ad 0)]) X (w_X8_howMany l V A ad h86) mw_X8_howMany ln_X8_282 (rcX8 X hW) hW hS rfl hl.1 rfl (Nat.le_of_ble_eq_true rfl) ⟨Nat.le_of_ble_eq_true rfl, Nat.le_of_ble_eq_true rfl⟩ ⟨Nat.le_refl _, Nat.le_refl _⟩ dX8_digest_86) hS (fun H locs hW hS => ?_)
      refine lv_i2l X.hx X.hb dX8_digest_89 rfl ?_
      obtain ⟨b90, h90, hf⟩ := bnd hf
      refine cl_v (run_V (As := [.long (Int32.toInt64 b86)]) (rest := []) X (w_X8_mix l V A ad h90) mw_X8_mix ln_X8_291 (rcX8 X hW) hW hS rfl hl.1 rfl (Nat.le_of_ble_eq_true rfl) ⟨Nat.le_of_ble_eq_true rfl, Nat.le_of_ble_eq_true rfl⟩ ⟨Nat.le_refl _, Nat.le_refl _⟩ dX8_digest_90) hS (fun H locs hW hS => ?_)
      obtain ⟨w93, e93, hf⟩ := lt_e hf
      refine lv_iinc (v := w93) (lv' := [(1, .int w93), (0, .ref (ad 0))]) X.hx X.hb dX8_digest_93 hl (k := 1) rfl (by rw [e93]; rfl) (by decide) rfl (fun ls hl => ?_)
      refine lv_goto (tgt := 78) X.hx X.hb dX8_digest_96 (by decide) ?_
      exact hr78 _ _ _ _ _  hf hW hS (lv_sub hl [1, 0] rfl)
noncomputable def f_X8_digest_L51 : Nat → St → Int32 → Option (Int64 × St)
  | 0, _, _ => none
  | fu + 1, st, x1 => if (st.1 4) ≤ x1 then f_X8_digest_L78 FU st 0 else if inb x1 60 = true then (f_X8_mix st (Int32.toInt64 (st.2.1 4 x1.toNatClampNeg))).bind fun b67 => lt (x1 + 1) fun w70 => (f_X8_digest_L51 fu) b67 w70 else none
set_option maxRecDepth 100000 in
theorem f_X8_digest_L51_w {res : (Int64 × St)} (X : Cx V A cX8_digest 2 RX8 p m c s args) (hr : meth.sig.returnType = (some .long)) (hlk : meth.locks = false)  : ∀ (n9 : Nat) (st : St) (x1 : Int32) (H : Heap) (locs : List Loc) (ls : Array Slot), f_X8_digest_L51 n9 st x1 = some res → (WdM V ad A) st H → va_S A s.heap H locs → lv_has ls 2 [(0, .ref (ad 0)), (1, .int x1)] → W p l e (rmF 9 209 0 0) s m args below meth c H locs 0 0 (MQ below (Qwl A (WdM V ad A) res.1 res.2) args s 0 0 A) (F0 m 51 ls []) := by
  intro n9
  induction n9 with
  | zero =>
    intro st x1 H locs ls hf
    exact absurd hf (by unfold f_X8_digest_L51; exact fun h => by cases h)
  | succ n9 hr51 =>
    intro st x1 H locs ls hf hW hS hl
    
    unfold f_X8_digest_L51 at hf
    refine lv_iload_n X.hx X.hb dX8_digest_51 rfl (lv_at hl 1 rfl) ?_
    refine lv_aload_n X.hx X.hb dX8_digest_52 rfl (lv_at hl 0 rfl) ?_
    refine gX8_pageLength X hW dX8_digest_53 ?_
    refine lv_icmp_ge (tgt := 76) X.hx X.hb dX8_digest_56 (by decide) (fun c56 => ?_) (fun c56 => ?_)
    · replace hf := ite_t c56 hf
      refine lv_iconst (v := 0) X.hx X.hb dX8_digest_76 (by decide) ?_
      refine lv_istore_n (lv' := [(1, .int 0), (0, .ref (ad 0))]) X.hx X.hb dX8_digest_77 rfl hl (by decide) rfl (fun ls hl => ?_)
      exact f_X8_digest_L78_w X hr hlk FU _ _ _ _ _  hf hW hS (lv_sub hl [1, 0] rfl)
    · replace hf := ite_f c56 hf
      refine lv_aload_n X.hx X.hb dX8_digest_59 rfl (lv_at hl 0 rfl) ?_
      refine lv_aload_n X.hx X.hb dX8_digest_60 rfl (lv_at hl 0 rfl) ?_
      refine gX8_page X hW dX8_digest_61 ?_
      refine lv_iload_n X.hx X.hb dX8_digest_64 rfl (lv_at hl 1 rfl) ?_
      obtain ⟨h65, hf⟩ := ite_n hf
      refine aM_ld X hW isM_4 rfl h65 dX8_digest_65 ?_
      refine lv_i2l X.hx X.hb dX8_digest_66 rfl ?_
      obtain ⟨b67, h67, hf⟩ := bnd hf
      refine cl_v (run_V (As := [.long (Int32.toInt64 (st.2.1 4 x1.toNatClampNeg))]) (rest := []) X (w_X8_mix l V A ad h67) mw_X8_mix ln_X8_291 (rcX8 X hW) hW hS rfl hl.1 rfl (Nat.le_of_ble_eq_true rfl) ⟨Nat.le_of_ble_eq_true rfl, Nat.le_of_ble_eq_true rfl⟩ ⟨Nat.le_refl _, Nat.le_refl _⟩ dX8_digest_67) hS (fun H locs hW hS => ?_)
      obtain ⟨w70, e70, hf⟩ := lt_e hf
      refine lv_iinc (v := w70) (lv' := [(1, .int w70), (0, .ref (ad 0))]) X.hx X.hb dX8_digest_70 hl (k := 1) rfl (by rw [e70]; rfl) (by decide) rfl (fun ls hl => ?_)
      refine lv_goto (tgt := 51) X.hx X.hb dX8_digest_73 (by decide) ?_
      exact hr51 _ _ _ _ _  hf hW hS (lv_sub hl [1, 0] rfl)
noncomputable def f_X8_digest_J49 (st : St) : Option (Int64 × St) := f_X8_digest_L51 FU st 0
set_option maxRecDepth 100000 in
theorem f_X8_digest_J49_w {res : (Int64 × St)} (X : Cx V A cX8_digest 2 RX8 p m c s args) (hr : meth.sig.returnType = (some .long)) (hlk : meth.locks = false)  (st : St) (H : Heap) (locs : List Loc) (ls : Array Slot)  (hf : f_X8_digest_J49 st = some res) (hW : (WdM V ad A) st H) (hS : va_S A s.heap H locs) (hl : lv_has ls 2 [(0, .ref (ad 0))]) : W p l e (rmF 9 209 0 0) s m args below meth c H locs 0 0 (MQ below (Qwl A (WdM V ad A) res.1 res.2) args s 0 0 A) (F0 m 49 ls []) := by
  
  unfold f_X8_digest_J49 at hf
  refine lv_iconst (v := 0) X.hx X.hb dX8_digest_49 (by decide) ?_
  refine lv_istore_n (lv' := [(1, .int 0), (0, .ref (ad 0))]) X.hx X.hb dX8_digest_50 rfl hl (by decide) rfl (fun ls hl => ?_)
  exact f_X8_digest_L51_w X hr hlk FU _ _ _ _ _  hf hW hS (lv_sub hl [1, 0] rfl)
noncomputable def f_X8_digest_L21 : Nat → St → Int32 → Option (Int64 × St)
  | 0, _, _ => none
  | fu + 1, st, x1 => if 5 ≤ x1 then f_X8_digest_J49 st else if (st.1 1) ≤ 0 then f_X8_digest_J49 st else (f_X8_searchNow st x1).bind fun b36 => (f_X8_mix b36.2 (Int32.toInt64 b36.1)).bind fun b40 => lt (x1 + 1) fun w43 => (f_X8_digest_L21 fu) b40 w43
set_option maxRecDepth 100000 in
theorem f_X8_digest_L21_w {res : (Int64 × St)} (X : Cx V A cX8_digest 2 RX8 p m c s args) (hr : meth.sig.returnType = (some .long)) (hlk : meth.locks = false)  : ∀ (n9 : Nat) (st : St) (x1 : Int32) (H : Heap) (locs : List Loc) (ls : Array Slot), f_X8_digest_L21 n9 st x1 = some res → (WdM V ad A) st H → va_S A s.heap H locs → lv_has ls 2 [(0, .ref (ad 0)), (1, .int x1)] → W p l e (rmF 9 209 0 0) s m args below meth c H locs 0 0 (MQ below (Qwl A (WdM V ad A) res.1 res.2) args s 0 0 A) (F0 m 21 ls []) := by
  intro n9
  induction n9 with
  | zero =>
    intro st x1 H locs ls hf
    exact absurd hf (by unfold f_X8_digest_L21; exact fun h => by cases h)
  | succ n9 hr21 =>
    intro st x1 H locs ls hf hW hS hl
    
    unfold f_X8_digest_L21 at hf
    refine lv_iload_n X.hx X.hb dX8_digest_21 rfl (lv_at hl 1 rfl) ?_
    refine lv_iconst (v := 5) X.hx X.hb dX8_digest_22 (by decide) ?_
    refine lv_icmp_ge (tgt := 49) X.hx X.hb dX8_digest_23 (by decide) (fun c23 => ?_) (fun c23 => ?_)
    · replace hf := ite_t c23 hf
      exact f_X8_digest_J49_w X hr hlk _ _ _ _  hf hW hS (lv_sub hl [0] rfl)
    · replace hf := ite_f c23 hf
      refine lv_aload_n X.hx X.hb dX8_digest_26 rfl (lv_at hl 0 rfl) ?_
      refine gX8_words X hW dX8_digest_27 ?_
      refine lv_if_le (tgt := 49) X.hx X.hb dX8_digest_30 (by decide) (fun c30 => ?_) (fun c30 => ?_)
      · replace hf := ite_t c30 hf
        exact f_X8_digest_J49_w X hr hlk _ _ _ _  hf hW hS (lv_sub hl [0] rfl)
      · replace hf := ite_f c30 hf
        refine lv_aload_n X.hx X.hb dX8_digest_33 rfl (lv_at hl 0 rfl) ?_
        refine lv_aload_n X.hx X.hb dX8_digest_34 rfl (lv_at hl 0 rfl) ?_
        refine lv_iload_n X.hx X.hb dX8_digest_35 rfl (lv_at hl 1 rfl) ?_
        obtain ⟨b36, h36, hf⟩ := bnd hf
        refine cl_i (run_V (As := [.int x1]) (rest := [.ref (ad 0)]) X (w_X8_searchNow l V A ad h36) mw_X8_searchNow ln_X8_276 (rcX8 X hW) hW hS rfl hl.1 rfl (Nat.le_of_ble_eq_true rfl) ⟨Nat.le_of_ble_eq_true rfl, Nat.le_of_ble_eq_true rfl⟩ ⟨Nat.le_refl _, Nat.le_refl _⟩ dX8_digest_36) hS (fun H locs hW hS => ?_)
        refine lv_i2l X.hx X.hb dX8_digest_39 rfl ?_
        obtain ⟨b40, h40, hf⟩ := bnd hf
        refine cl_v (run_V (As := [.long (Int32.toInt64 b36.1)]) (rest := []) X (w_X8_mix l V A ad h40) mw_X8_mix ln_X8_291 (rcX8 X hW) hW hS rfl hl.1 rfl (Nat.le_of_ble_eq_true rfl) ⟨Nat.le_of_ble_eq_true rfl, Nat.le_of_ble_eq_true rfl⟩ ⟨Nat.le_refl _, Nat.le_refl _⟩ dX8_digest_40) hS (fun H locs hW hS => ?_)
        obtain ⟨w43, e43, hf⟩ := lt_e hf
        refine lv_iinc (v := w43) (lv' := [(1, .int w43), (0, .ref (ad 0))]) X.hx X.hb dX8_digest_43 hl (k := 1) rfl (by rw [e43]; rfl) (by decide) rfl (fun ls hl => ?_)
        refine lv_goto (tgt := 21) X.hx X.hb dX8_digest_46 (by decide) ?_
        exact hr21 _ _ _ _ _  hf hW hS (lv_sub hl [1, 0] rfl)
noncomputable def f_X8_digest (st : St) : Option (Int64 × St) := lt (sJ st 0 1579) fun s4 => (f_X8_mixWords s4).bind fun b8 => (f_X8_mixSquares b8).bind fun b12 => (f_X8_mixBoard b12).bind fun b16 => f_X8_digest_L21 FU b16 0
set_option maxRecDepth 100000 in
theorem w_X8_digest (l : Launch) (V : Ev) (A : Nat → Prop) (ad : Nat → Nat) {st : St} {res : (Int64 × St)} (hf : f_X8_digest st = some res) : Cn l yX8_digest cX8_digest 2 (some .long) 9 209 0 0 V A (WdM V ad A) st [.ref (ad 0)] (Qwl A (WdM V ad A) res.1 res.2) := by
  refine cn_of RX8 (by decide) rfl (fun p e s m below meth c ls X hr hlk hW hS hl => ?_) (Nat.le_of_ble_eq_true rfl)
  have hl : lv_has ls 2 [(0, .ref (ad 0))] := hl
  unfold f_X8_digest at hf
  refine lv_aload_n X.hx X.hb dX8_digest_0 rfl (lv_at hl 0 rfl) ?_
  refine lv_ldc2 (v := 1579) X.hx X.hb X.ho (X.ts kn_X8_295) dX8_digest_1 ?_
  obtain ⟨s4, e4, hf⟩ := lt_e hf
  refine pX8_h X hW hS dX8_digest_4 (fun H locs hW hS => ?_)
  rw [← e4] at hW
  refine lv_aload_n X.hx X.hb dX8_digest_7 rfl (lv_at hl 0 rfl) ?_
  obtain ⟨b8, h8, hf⟩ := bnd hf
  refine cl_v (run_V (As := []) (rest := []) X (w_X8_mixWords l V A ad h8) mw_X8_mixWords ln_X8_297 (rcX8 X hW) hW hS rfl hl.1 rfl (Nat.le_of_ble_eq_true rfl) ⟨Nat.le_of_ble_eq_true rfl, Nat.le_of_ble_eq_true rfl⟩ ⟨Nat.le_refl _, Nat.le_refl _⟩ dX8_digest_8) hS (fun H locs hW hS => ?_)
  refine lv_aload_n X.hx X.hb dX8_digest_11 rfl (lv_at hl 0 rfl) ?_
  obtain ⟨b12, h12, hf⟩ := bnd hf
  refine cl_v (run_V (As := []) (rest := []) X (w_X8_mixSquares l V A ad h12) mw_X8_mixSquares ln_X8_300 (rcX8 X hW) hW hS rfl hl.1 rfl (Nat.le_of_ble_eq_true rfl) ⟨Nat.le_of_ble_eq_true rfl, Nat.le_of_ble_eq_true rfl⟩ ⟨Nat.le_refl _, Nat.le_refl _⟩ dX8_digest_12) hS (fun H locs hW hS => ?_)
  refine lv_aload_n X.hx X.hb dX8_digest_15 rfl (lv_at hl 0 rfl) ?_
  obtain ⟨b16, h16, hf⟩ := bnd hf
  refine cl_v (run_V (As := []) (rest := []) X (w_X8_mixBoard l V A ad h16) mw_X8_mixBoard ln_X8_303 (rcX8 X hW) hW hS rfl hl.1 rfl (Nat.le_of_ble_eq_true rfl) ⟨Nat.le_of_ble_eq_true rfl, Nat.le_of_ble_eq_true rfl⟩ ⟨Nat.le_refl _, Nat.le_refl _⟩ dX8_digest_16) hS (fun H locs hW hS => ?_)
  refine lv_iconst (v := 0) X.hx X.hb dX8_digest_19 (by decide) ?_
  refine lv_istore_n (lv' := [(1, .int 0), (0, .ref (ad 0))]) X.hx X.hb dX8_digest_20 rfl hl (by decide) rfl (fun ls hl => ?_)
  exact f_X8_digest_L21_w X hr hlk FU _ _ _ _ _  hf hW hS (lv_sub hl [1, 0] rfl)
end GW
