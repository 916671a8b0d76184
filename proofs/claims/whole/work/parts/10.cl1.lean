section GW
variable {p : Program} {l : Launch} {e : Env} {s : State} {m : MethodId} {args : Array Value} {below : List Frame} {meth : Method} {c : Code} {V : Ev} {A : Nat → Prop} {ad : Nat → Nat} {Wd : St → Heap → Prop}

-- java/util/Arrays.fill
noncomputable def f_J7_fill_53178_L5 (q : Nat) (n : Nat) : Nat → St → Int32 → Int32 → Int32 → Option St
  | 0, _, _, _, _ => none
  | fu + 1, st, x1, x2, x3 => if x3 ≤ x2 then some st else if inb x2 n = true then lt (sA st q x2.toNatClampNeg x1) fun s13 => lt (x2 + 1) fun w14 => (f_J7_fill_53178_L5 q n fu) s13 x1 w14 x3 else none
theorem f_J7_fill_53178_L5_l {q : Nat} {n : Nat} {res : St} : ∀ (n9 : Nat) (st : St) (x1 : Int32) (x2 : Int32) (x3 : Int32), f_J7_fill_53178_L5 q n n9 st x1 x2 x3 = some res → phi res = phi st := by
  intro n9
  induction n9 with
  | zero =>
    intro st x1 x2 x3 hf
    exact absurd hf (by unfold f_J7_fill_53178_L5; exact fun h => by cases h)
  | succ n9 hq5 =>
    intro st x1 x2 x3 hf
    unfold f_J7_fill_53178_L5 at hf
    by_cases c7 : x3 ≤ x2
    · replace hf := ite_t c7 hf
      have q9 := congrArg phi (Option.some.inj hf)
      omega
    · replace hf := ite_f c7 hf
      obtain ⟨h13, hf⟩ := ite_n hf
      obtain ⟨s13, e13, hf⟩ := lt_e hf
      have p13 : phi s13 = phi st := by rw [e13]; rfl
      obtain ⟨w14, e14, hf⟩ := lt_e hf
      have q9 := hq5 _ _ _ _ hf
      omega
set_option maxRecDepth 100000 in
theorem f_J7_fill_53178_L5_w {q : Nat} {n : Nat} {res : St} (X : Cx V A cJ7_fill_53178 4 RJ7 p m c s args) (hr : meth.sig.returnType = none) (hlk : meth.locks = false) (hq : isA q) (hn : ∀ st, aln st q = n)  : ∀ (n9 : Nat) (st : St) (x1 : Int32) (x2 : Int32) (x3 : Int32) (H : Heap) (locs : List Loc) (ls : Array Slot), f_J7_fill_53178_L5 q n n9 st x1 x2 x3 = some res → (WdC V ad A) st H → va_S A s.heap H locs → lv_has ls 4 [(0, .ref (ad q)), (1, .int x1), (2, .int x2), (3, .int x3)] → W p l e (rmF 0 0 0 0) s m args below meth c H locs 0 0 (MQ below (Qwv A (WdC V ad A) res) args s 0 0 A) (F0 m 5 ls []) := by
  intro n9
  induction n9 with
  | zero =>
    intro st x1 x2 x3 H locs ls hf
    exact absurd hf (by unfold f_J7_fill_53178_L5; exact fun h => by cases h)
  | succ n9 hr5 =>
    intro st x1 x2 x3 H locs ls hf hW hS hl
    
    unfold f_J7_fill_53178_L5 at hf
    refine lv_iload_n X.hx X.hb dJ7_fill_53178_5 rfl (lv_at hl 2 rfl) ?_
    refine lv_iload_n X.hx X.hb dJ7_fill_53178_6 rfl (lv_at hl 3 rfl) ?_
    refine lv_icmp_ge (tgt := 20) X.hx X.hb dJ7_fill_53178_7 (by decide) (fun c7 => ?_) (fun c7 => ?_)
    · replace hf := ite_t c7 hf
      exact rt_v X hr hlk (by rw [← Option.some.inj hf]; exact hW) hS (Nat.le_refl _) (Nat.le_refl _) dJ7_fill_53178_20
    · replace hf := ite_f c7 hf
      refine lv_aload_n X.hx X.hb dJ7_fill_53178_10 rfl (lv_at hl 0 rfl) ?_
      refine lv_iload_n X.hx X.hb dJ7_fill_53178_11 rfl (lv_at hl 2 rfl) ?_
      refine lv_iload_n X.hx X.hb dJ7_fill_53178_12 rfl (lv_at hl 1 rfl) ?_
      obtain ⟨h13, hf⟩ := ite_n hf
      obtain ⟨s13, e13, hf⟩ := lt_e hf
      refine aC_st X hW hS hq (hn _) h13 dJ7_fill_53178_13 (fun H locs hW hS => ?_)
      rw [← e13] at hW
      obtain ⟨w14, e14, hf⟩ := lt_e hf
      refine lv_iinc (v := w14) (lv' := [(2, .int w14), (0, .ref (ad q)), (1, .int x1), (3, .int x3)]) X.hx X.hb dJ7_fill_53178_14 hl (k := 2) rfl (by rw [e14]; rfl) (by decide) rfl (fun ls hl => ?_)
      refine lv_goto (tgt := 5) X.hx X.hb dJ7_fill_53178_17 (by decide) ?_
      exact hr5 _ _ _ _ _ _ _  hf hW hS (lv_sub hl [1, 2, 0, 3] rfl)
noncomputable def f_J7_fill_53178 (st : St) (q : Nat) (n : Nat) (a1 : Int32) : Option St := lt (nI n) fun w4 => f_J7_fill_53178_L5 q n FU st a1 0 w4
theorem l_J7_fill_53178 {st : St} {q : Nat} {n : Nat} {a1 : Int32} {res : St} (hf : f_J7_fill_53178 st q n a1 = some res) : phi res = phi st := by
  unfold f_J7_fill_53178 at hf
  obtain ⟨w4, e4, hf⟩ := lt_e hf
  have q9 := f_J7_fill_53178_L5_l  FU _ _ _ _ hf
  omega
set_option maxRecDepth 100000 in
theorem w_J7_fill_53178 (l : Launch) (V : Ev) (A : Nat → Prop) (ad : Nat → Nat) {st : St} {q : Nat} {n : Nat} {a1 : Int32} {res : St} (hq : isA q) (hn : ∀ st, aln st q = n) (hf : f_J7_fill_53178 st q n a1 = some res) : Cn l yJ7_fill_53178 cJ7_fill_53178 4 none 0 0 0 0 V A (WdC V ad A) st [.ref (ad q), .int a1] (Qwv A (WdC V ad A) res) := by
  refine cn_of RJ7 (by decide) rfl (fun p e s m below meth c ls X hr hlk hW hS hl => ?_) (Nat.le_of_ble_eq_true rfl)
  have hl : lv_has ls 4 [(0, .ref (ad q)), (1, .int a1)] := hl
  unfold f_J7_fill_53178 at hf
  refine lv_iconst (v := 0) X.hx X.hb dJ7_fill_53178_0 (by decide) ?_
  refine lv_istore_n (lv' := [(2, .int 0), (0, .ref (ad q)), (1, .int a1)]) X.hx X.hb dJ7_fill_53178_1 rfl hl (by decide) rfl (fun ls hl => ?_)
  refine lv_aload_n X.hx X.hb dJ7_fill_53178_2 rfl (lv_at hl 1 rfl) ?_
  refine aC_len X hW hq (hn _) dJ7_fill_53178_3 ?_
  obtain ⟨w4, e4, hf⟩ := lt_e hf
  refine lv_nm e4 ?_
  refine lv_istore_n (lv' := [(3, .int w4), (2, .int 0), (0, .ref (ad q)), (1, .int a1)]) X.hx X.hb dJ7_fill_53178_4 rfl hl (by decide) rfl (fun ls hl => ?_)
  exact f_J7_fill_53178_L5_w X hr hlk hq hn FU _ _ _ _ _ _ _  hf hW hS (lv_sub hl [2, 3, 1, 0] rfl)
-- WordSquares$Board.clear
noncomputable def f_X0_clear (st : St) : Option St := (f_J7_fill_53178 st 17 4 (-1)).bind fun b5 => some b5
theorem l_X0_clear {st : St} {res : St} (hf : f_X0_clear st = some res) : phi res = phi st := by
  unfold f_X0_clear at hf
  obtain ⟨b5, h5, hf⟩ := bnd hf
  have p5 := l_J7_fill_53178 h5
  have q9 := congrArg phi (Option.some.inj hf)
  omega
set_option maxRecDepth 100000 in
theorem w_X0_clear (l : Launch) (V : Ev) (A : Nat → Prop) (ad : Nat → Nat) {st : St} {res : St} (hf : f_X0_clear st = some res) : Cn l yX0_clear cX0_clear 1 none 1 23 0 0 V A (WdC V ad A) st [.ref (ad 6)] (Qwv A (WdC V ad A) res) := by
  refine cn_of RX0 (by decide) rfl (fun p e s m below meth c ls X hr hlk hW hS hl => ?_) (Nat.le_of_ble_eq_true rfl)
  have hl : lv_has ls 1 [(0, .ref (ad 6))] := hl
  unfold f_X0_clear at hf
  refine lv_aload_n X.hx X.hb dX0_clear_0 rfl (lv_at hl 0 rfl) ?_
  refine gX0_placed X hW dX0_clear_1 ?_
  refine lv_iconst (v := (-1)) X.hx X.hb dX0_clear_4 (by decide) ?_
  obtain ⟨b5, h5, hf⟩ := bnd hf
  refine cl_v (run_S (As := [.ref (ad 17), .int (-1)]) (rest := []) X (w_J7_fill_53178 l V A ad isA_17 (fun _ => rfl) h5) mw_J7_fill_53178 ln_X0_22 hW hS rfl hl.1 rfl (Nat.le_of_ble_eq_true rfl) ⟨Nat.le_of_ble_eq_true rfl, Nat.le_of_ble_eq_true rfl⟩ ⟨Nat.le_refl _, Nat.le_refl _⟩ dX0_clear_5) hS (fun H locs hW hS => ?_)
  exact rt_v X hr hlk (by rw [← Option.some.inj hf]; exact hW) hS (Nat.le_refl _) (Nat.le_refl _) dX0_clear_8
-- WordSquares$Board.given
noncomputable def f_X0_given_J18 (st : St) : Option Int32 := some (-1)
set_option maxRecDepth 100000 in
theorem f_X0_given_J18_w {st : St} {res : Int32} (X : Cx V A cX0_given 2 RX0 p m c s args) (hr : meth.sig.returnType = (some .int)) (hlk : meth.locks = false)  (H : Heap) (locs : List Loc) (ls : Array Slot)  (hf : f_X0_given_J18 st  = some res) (hW : (WdC V ad A) st H) (hS : va_S A s.heap H locs) (hl : lv_has ls 2 []) : W p l e (rmF 0 0 0 0) s m args below meth c H locs 0 0 (MQ below (Qwi A (WdC V ad A) res st) args s 0 0 A) (F0 m 18 ls []) := by
  
  unfold f_X0_given_J18 at hf
  refine lv_iconst (v := (-1)) X.hx X.hb dX0_given_18 (by decide) ?_
  exact rt_i X hr hlk hW hS (Option.some.inj hf) (Nat.le_refl _) (Nat.le_refl _) dX0_given_19
noncomputable def f_X0_given (st : St) (a1 : Int32) : Option Int32 := if a1 < 0 then f_X0_given_J18 st else if 4 ≤ a1 then f_X0_given_J18 st else if inb a1 4 = true then some (st.2.1 17 a1.toNatClampNeg) else none
set_option maxRecDepth 100000 in
theorem w_X0_given (l : Launch) (V : Ev) (A : Nat → Prop) (ad : Nat → Nat) {st : St} {a1 : Int32} {res : Int32} (hf : f_X0_given st a1 = some res) : Cn l yX0_given cX0_given 2 (some .int) 0 0 0 0 V A (WdC V ad A) st [.ref (ad 6), .int a1] (Qwi A (WdC V ad A) res st) := by
  refine cn_of RX0 (by decide) rfl (fun p e s m below meth c ls X hr hlk hW hS hl => ?_) (Nat.le_of_ble_eq_true rfl)
  have hl : lv_has ls 2 [(0, .ref (ad 6)), (1, .int a1)] := hl
  unfold f_X0_given at hf
  refine lv_iload_n X.hx X.hb dX0_given_0 rfl (lv_at hl 1 rfl) ?_
  refine lv_if_lt (tgt := 18) X.hx X.hb dX0_given_1 (by decide) (fun c1 => ?_) (fun c1 => ?_)
  · replace hf := ite_t c1 hf
    exact f_X0_given_J18_w X hr hlk  _ _ _  hf hW hS (lv_sub hl [] rfl)
  · replace hf := ite_f c1 hf
    refine lv_iload_n X.hx X.hb dX0_given_4 rfl (lv_at hl 1 rfl) ?_
    refine lv_iconst (v := 4) X.hx X.hb dX0_given_5 (by decide) ?_
    refine lv_icmp_ge (tgt := 18) X.hx X.hb dX0_given_6 (by decide) (fun c6 => ?_) (fun c6 => ?_)
    · replace hf := ite_t c6 hf
      exact f_X0_given_J18_w X hr hlk  _ _ _  hf hW hS (lv_sub hl [] rfl)
    · replace hf := ite_f c6 hf
      refine lv_aload_n X.hx X.hb dX0_given_9 rfl (lv_at hl 0 rfl) ?_
      refine gX0_placed X hW dX0_given_10 ?_
      refine lv_iload_n X.hx X.hb dX0_given_13 rfl (lv_at hl 1 rfl) ?_
      obtain ⟨h14, hf⟩ := ite_n hf
      refine aC_ld X hW isA_17 rfl h14 dX0_given_14 ?_
      refine lv_goto (tgt := 19) X.hx X.hb dX0_given_15 (by decide) ?_
      exact rt_i X hr hlk hW hS (Option.some.inj hf) (Nat.le_refl _) (Nat.le_refl _) dX0_given_19
-- WordSquares$Board.give
noncomputable def f_X0_give (st : St) (a1 : Int32) (a2 : Int32) : Option St := if a1 < 0 then some st else if 4 ≤ a1 then some st else if inb a1 4 = true then lt (sA st 17 a1.toNatClampNeg a2) fun s15 => some s15 else none
theorem l_X0_give {st : St} {a1 : Int32} {a2 : Int32} {res : St} (hf : f_X0_give st a1 a2 = some res) : phi res = phi st := by
  unfold f_X0_give at hf
  by_cases c1 : a1 < 0
  · replace hf := ite_t c1 hf
    have q9 := congrArg phi (Option.some.inj hf)
    omega
  · replace hf := ite_f c1 hf
    by_cases c6 : 4 ≤ a1
    · replace hf := ite_t c6 hf
      have q9 := congrArg phi (Option.some.inj hf)
      omega
    · replace hf := ite_f c6 hf
      obtain ⟨h15, hf⟩ := ite_n hf
      obtain ⟨s15, e15, hf⟩ := lt_e hf
      have p15 : phi s15 = phi st := by rw [e15]; rfl
      have q9 := congrArg phi (Option.some.inj hf)
      omega
set_option maxRecDepth 100000 in
theorem w_X0_give (l : Launch) (V : Ev) (A : Nat → Prop) (ad : Nat → Nat) {st : St} {a1 : Int32} {a2 : Int32} {res : St} (hf : f_X0_give st a1 a2 = some res) : Cn l yX0_give cX0_give 3 none 0 0 0 0 V A (WdC V ad A) st [.ref (ad 6), .int a1, .int a2] (Qwv A (WdC V ad A) res) := by
  refine cn_of RX0 (by decide) rfl (fun p e s m below meth c ls X hr hlk hW hS hl => ?_) (Nat.le_of_ble_eq_true rfl)
  have hl : lv_has ls 3 [(0, .ref (ad 6)), (1, .int a1), (2, .int a2)] := hl
  unfold f_X0_give at hf
  refine lv_iload_n X.hx X.hb dX0_give_0 rfl (lv_at hl 1 rfl) ?_
  refine lv_if_lt (tgt := 16) X.hx X.hb dX0_give_1 (by decide) (fun c1 => ?_) (fun c1 => ?_)
  · replace hf := ite_t c1 hf
    exact rt_v X hr hlk (by rw [← Option.some.inj hf]; exact hW) hS (Nat.le_refl _) (Nat.le_refl _) dX0_give_16
  · replace hf := ite_f c1 hf
    refine lv_iload_n X.hx X.hb dX0_give_4 rfl (lv_at hl 1 rfl) ?_
    refine lv_iconst (v := 4) X.hx X.hb dX0_give_5 (by decide) ?_
    refine lv_icmp_ge (tgt := 16) X.hx X.hb dX0_give_6 (by decide) (fun c6 => ?_) (fun c6 => ?_)
    · replace hf := ite_t c6 hf
      exact rt_v X hr hlk (by rw [← Option.some.inj hf]; exact hW) hS (Nat.le_refl _) (Nat.le_refl _) dX0_give_16
    · replace hf := ite_f c6 hf
      refine lv_aload_n X.hx X.hb dX0_give_9 rfl (lv_at hl 0 rfl) ?_
      refine gX0_placed X hW dX0_give_10 ?_
      refine lv_iload_n X.hx X.hb dX0_give_13 rfl (lv_at hl 1 rfl) ?_
      refine lv_iload_n X.hx X.hb dX0_give_14 rfl (lv_at hl 2 rfl) ?_
      obtain ⟨h15, hf⟩ := ite_n hf
      obtain ⟨s15, e15, hf⟩ := lt_e hf
      refine aC_st X hW hS isA_17 rfl h15 dX0_give_15 (fun H locs hW hS => ?_)
      rw [← e15] at hW
      exact rt_v X hr hlk (by rw [← Option.some.inj hf]; exact hW) hS (Nat.le_refl _) (Nat.le_refl _) dX0_give_16
-- WordSquares$Board.numberOfGiven
noncomputable def f_X0_numberOfGiven_J22 (st : St) (r4 : Int32 → Int32 → Option Int32) (x1 : Int32) (x2 : Int32) : Option Int32 := lt (x2 + 1) fun w22 => r4 x1 w22
set_option maxRecDepth 100000 in
theorem f_X0_numberOfGiven_J22_w {st : St} {r4 : Int32 → Int32 → Option Int32} {res : Int32} (X : Cx V A cX0_numberOfGiven 3 RX0 p m c s args) (hr : meth.sig.returnType = (some .int)) (hlk : meth.locks = false) (hr4 : ∀ (x1 : Int32) (x2 : Int32) (H : Heap) (locs : List Loc) (ls : Array Slot), r4 x1 x2 = some res → (WdC V ad A) st H → va_S A s.heap H locs → lv_has ls 3 [(0, .ref (ad 6)), (1, .int x1), (2, .int x2)] → W p l e (rmF 0 0 0 0) s m args below meth c H locs 0 0 (MQ below (Qwi A (WdC V ad A) res st) args s 0 0 A) (F0 m 4 ls [])) (x1 : Int32) (x2 : Int32) (H : Heap) (locs : List Loc) (ls : Array Slot)  (hf : f_X0_numberOfGiven_J22 st r4 x1 x2 = some res) (hW : (WdC V ad A) st H) (hS : va_S A s.heap H locs) (hl : lv_has ls 3 [(0, .ref (ad 6)), (1, .int x1), (2, .int x2)]) : W p l e (rmF 0 0 0 0) s m args below meth c H locs 0 0 (MQ below (Qwi A (WdC V ad A) res st) args s 0 0 A) (F0 m 22 ls []) := by
  
  unfold f_X0_numberOfGiven_J22 at hf
  obtain ⟨w22, e22, hf⟩ := lt_e hf
  refine lv_iinc (v := w22) (lv' := [(2, .int w22), (0, .ref (ad 6)), (1, .int x1)]) X.hx X.hb dX0_numberOfGiven_22 hl (k := 2) rfl (by rw [e22]; rfl) (by decide) rfl (fun ls hl => ?_)
  refine lv_goto (tgt := 4) X.hx X.hb dX0_numberOfGiven_25 (by decide) ?_
  exact hr4 _ _ _ _ _  hf hW hS (lv_sub hl [1, 2, 0] rfl)
noncomputable def f_X0_numberOfGiven_L4 (st : St) : Nat → Int32 → Int32 → Option Int32
  | 0, _, _ => none
  | fu + 1, x1, x2 => if 4 ≤ x2 then some x1 else if inb x2 4 = true then if (st.2.1 17 x2.toNatClampNeg) = (-1) then f_X0_numberOfGiven_J22 st ((f_X0_numberOfGiven_L4 st fu)) x1 x2 else lt (x1 + 1) fun w19 => f_X0_numberOfGiven_J22 st ((f_X0_numberOfGiven_L4 st fu)) w19 x2 else none
set_option maxRecDepth 100000 in
theorem f_X0_numberOfGiven_L4_w {st : St} {res : Int32} (X : Cx V A cX0_numberOfGiven 3 RX0 p m c s args) (hr : meth.sig.returnType = (some .int)) (hlk : meth.locks = false)  : ∀ (n9 : Nat) (x1 : Int32) (x2 : Int32) (H : Heap) (locs : List Loc) (ls : Array Slot), f_X0_numberOfGiven_L4 st n9 x1 x2 = some res → (WdC V ad A) st H → va_S A s.heap H locs → lv_has ls 3 [(0, .ref (ad 6)), (1, .int x1), (2, .int x2)] → W p l e (rmF 0 0 0 0) s m args below meth c H locs 0 0 (MQ below (Qwi A (WdC V ad A) res st) args s 0 0 A) (F0 m 4 ls []) := by
  intro n9
  induction n9 with
  | zero =>
    intro x1 x2 H locs ls hf
    exact absurd hf (by unfold f_X0_numberOfGiven_L4; exact fun h => by cases h)
  | succ n9 hr4 =>
    intro x1 x2 H locs ls hf hW hS hl
    
    unfold f_X0_numberOfGiven_L4 at hf
    refine lv_iload_n X.hx X.hb dX0_numberOfGiven_4 rfl (lv_at hl 2 rfl) ?_
    refine lv_iconst (v := 4) X.hx X.hb dX0_numberOfGiven_5 (by decide) ?_
    refine lv_icmp_ge (tgt := 28) X.hx X.hb dX0_numberOfGiven_6 (by decide) (fun c6 => ?_) (fun c6 => ?_)
    · replace hf := ite_t c6 hf
      refine lv_iload_n X.hx X.hb dX0_numberOfGiven_28 rfl (lv_at hl 1 rfl) ?_
      exact rt_i X hr hlk hW hS (Option.some.inj hf) (Nat.le_refl _) (Nat.le_refl _) dX0_numberOfGiven_29
    · replace hf := ite_f c6 hf
      refine lv_aload_n X.hx X.hb dX0_numberOfGiven_9 rfl (lv_at hl 0 rfl) ?_
      refine gX0_placed X hW dX0_numberOfGiven_10 ?_
      refine lv_iload_n X.hx X.hb dX0_numberOfGiven_13 rfl (lv_at hl 2 rfl) ?_
      obtain ⟨h14, hf⟩ := ite_n hf
      refine aC_ld X hW isA_17 rfl h14 dX0_numberOfGiven_14 ?_
      refine lv_iconst (v := (-1)) X.hx X.hb dX0_numberOfGiven_15 (by decide) ?_
      refine lv_icmp_eq (tgt := 22) X.hx X.hb dX0_numberOfGiven_16 (by decide) (fun c16 => ?_) (fun c16 => ?_)
      · replace hf := ite_t c16 hf
        exact f_X0_numberOfGiven_J22_w X hr hlk hr4 _ _ _ _ _  hf hW hS (lv_sub hl [0, 1, 2] rfl)
      · replace hf := ite_f c16 hf
        obtain ⟨w19, e19, hf⟩ := lt_e hf
        refine lv_iinc (v := w19) (lv' := [(1, .int w19), (0, .ref (ad 6)), (2, .int x2)]) X.hx X.hb dX0_numberOfGiven_19 hl (k := 1) rfl (by rw [e19]; rfl) (by decide) rfl (fun ls hl => ?_)
        exact f_X0_numberOfGiven_J22_w X hr hlk hr4 _ _ _ _ _  hf hW hS (lv_sub hl [1, 0, 2] rfl)
noncomputable def f_X0_numberOfGiven (st : St) : Option Int32 := f_X0_numberOfGiven_L4 st FU 0 0
set_option maxRecDepth 100000 in
theorem w_X0_numberOfGiven (l : Launch) (V : Ev) (A : Nat → Prop) (ad : Nat → Nat) {st : St} {res : Int32} (hf : f_X0_numberOfGiven st = some res) : Cn l yX0_numberOfGiven cX0_numberOfGiven 3 (some .int) 0 0 0 0 V A (WdC V ad A) st [.ref (ad 6)] (Qwi A (WdC V ad A) res st) := by
  refine cn_of RX0 (by decide) rfl (fun p e s m below meth c ls X hr hlk hW hS hl => ?_) (Nat.le_of_ble_eq_true rfl)
  have hl : lv_has ls 3 [(0, .ref (ad 6))] := hl
  unfold f_X0_numberOfGiven at hf
  refine lv_iconst (v := 0) X.hx X.hb dX0_numberOfGiven_0 (by decide) ?_
  refine lv_istore_n (lv' := [(1, .int 0), (0, .ref (ad 6))]) X.hx X.hb dX0_numberOfGiven_1 rfl hl (by decide) rfl (fun ls hl => ?_)
  refine lv_iconst (v := 0) X.hx X.hb dX0_numberOfGiven_2 (by decide) ?_
  refine lv_istore_n (lv' := [(2, .int 0), (1, .int 0), (0, .ref (ad 6))]) X.hx X.hb dX0_numberOfGiven_3 rfl hl (by decide) rfl (fun ls hl => ?_)
  exact f_X0_numberOfGiven_L4_w X hr hlk FU _ _ _ _ _  hf hW hS (lv_sub hl [2, 1, 0] rfl)
-- WordSquares$Board.numberOfFitting
noncomputable def f_X0_numberOfFitting (st : St) : Option Int32 := some (st.1 12)
set_option maxRecDepth 100000 in
theorem w_X0_numberOfFitting (l : Launch) (V : Ev) (A : Nat → Prop) (ad : Nat → Nat) {st : St} {res : Int32} (hf : f_X0_numberOfFitting st = some res) : Cn l yX0_numberOfFitting cX0_numberOfFitting 1 (some .int) 0 0 0 0 V A (WdC V ad A) st [.ref (ad 6)] (Qwi A (WdC V ad A) res st) := by
  refine cn_of RX0 (by decide) rfl (fun p e s m below meth c ls X hr hlk hW hS hl => ?_) (Nat.le_of_ble_eq_true rfl)
  have hl : lv_has ls 1 [(0, .ref (ad 6))] := hl
  unfold f_X0_numberOfFitting at hf
  refine lv_aload_n X.hx X.hb dX0_numberOfFitting_0 rfl (lv_at hl 0 rfl) ?_
  refine gX0_fits X hW dX0_numberOfFitting_1 ?_
  exact rt_i X hr hlk hW hS (Option.some.inj hf) (Nat.le_refl _) (Nat.le_refl _) dX0_numberOfFitting_4
-- WordSquares$Board.possible
noncomputable def f_X0_possible_J18 (st : St) : Option Int32 := some 0
set_option maxRecDepth 100000 in
theorem f_X0_possible_J18_w {st : St} {res : Int32} (X : Cx V A cX0_possible 2 RX0 p m c s args) (hr : meth.sig.returnType = (some .int)) (hlk : meth.locks = false)  (H : Heap) (locs : List Loc) (ls : Array Slot)  (hf : f_X0_possible_J18 st  = some res) (hW : (WdC V ad A) st H) (hS : va_S A s.heap H locs) (hl : lv_has ls 2 []) : W p l e (rmF 0 0 0 0) s m args below meth c H locs 0 0 (MQ below (Qwi A (WdC V ad A) res st) args s 0 0 A) (F0 m 18 ls []) := by
  
  unfold f_X0_possible_J18 at hf
  refine lv_iconst (v := 0) X.hx X.hb dX0_possible_18 (by decide) ?_
  exact rt_i X hr hlk hW hS (Option.some.inj hf) (Nat.le_refl _) (Nat.le_refl _) dX0_possible_19
noncomputable def f_X0_possible (st : St) (a1 : Int32) : Option Int32 := if a1 < 0 then f_X0_possible_J18 st else if 4 ≤ a1 then f_X0_possible_J18 st else if inb a1 4 = true then some (st.2.1 18 a1.toNatClampNeg) else none
set_option maxRecDepth 100000 in
theorem w_X0_possible (l : Launch) (V : Ev) (A : Nat → Prop) (ad : Nat → Nat) {st : St} {a1 : Int32} {res : Int32} (hf : f_X0_possible st a1 = some res) : Cn l yX0_possible cX0_possible 2 (some .int) 0 0 0 0 V A (WdC V ad A) st [.ref (ad 6), .int a1] (Qwi A (WdC V ad A) res st) := by
  refine cn_of RX0 (by decide) rfl (fun p e s m below meth c ls X hr hlk hW hS hl => ?_) (Nat.le_of_ble_eq_true rfl)
  have hl : lv_has ls 2 [(0, .ref (ad 6)), (1, .int a1)] := hl
  unfold f_X0_possible at hf
  refine lv_iload_n X.hx X.hb dX0_possible_0 rfl (lv_at hl 1 rfl) ?_
  refine lv_if_lt (tgt := 18) X.hx X.hb dX0_possible_1 (by decide) (fun c1 => ?_) (fun c1 => ?_)
  · replace hf := ite_t c1 hf
    exact f_X0_possible_J18_w X hr hlk  _ _ _  hf hW hS (lv_sub hl [] rfl)
  · replace hf := ite_f c1 hf
    refine lv_iload_n X.hx X.hb dX0_possible_4 rfl (lv_at hl 1 rfl) ?_
    refine lv_iconst (v := 4) X.hx X.hb dX0_possible_5 (by decide) ?_
    refine lv_icmp_ge (tgt := 18) X.hx X.hb dX0_possible_6 (by decide) (fun c6 => ?_) (fun c6 => ?_)
    · replace hf := ite_t c6 hf
      exact f_X0_possible_J18_w X hr hlk  _ _ _  hf hW hS (lv_sub hl [] rfl)
    · replace hf := ite_f c6 hf
      refine lv_aload_n X.hx X.hb dX0_possible_9 rfl (lv_at hl 0 rfl) ?_
      refine gX0_sets X hW dX0_possible_10 ?_
      refine lv_iload_n X.hx X.hb dX0_possible_13 rfl (lv_at hl 1 rfl) ?_
      obtain ⟨h14, hf⟩ := ite_n hf
      refine aC_ld X hW isA_18 rfl h14 dX0_possible_14 ?_
      refine lv_goto (tgt := 19) X.hx X.hb dX0_possible_15 (by decide) ?_
      exact rt_i X hr hlk hW hS (Option.some.inj hf) (Nat.le_refl _) (Nat.le_refl _) dX0_possible_19
-- WordSquares$SquareList.size
noncomputable def f_X4_size (st : St) (k : Nat) : Option Int32 := some (st.1 (13 + k))
set_option maxRecDepth 100000 in
theorem w_X4_size (l : Launch) (V : Ev) (A : Nat → Prop) (ad : Nat → Nat) {st : St} {k : Nat} {res : Int32} (hk : k < 3) (hf : f_X4_size st k = some res) : Cn l yX4_size cX4_size 1 (some .int) 0 0 0 0 V A (WdC V ad A) st [.ref (ad (7 + k))] (Qwi A (WdC V ad A) res st) := by
  refine cn_of RX4 (by decide) rfl (fun p e s m below meth c ls X hr hlk hW hS hl => ?_) (Nat.le_of_ble_eq_true rfl)
  have hl : lv_has ls 1 [(0, .ref (ad (7 + k)))] := hl
  unfold f_X4_size at hf
  refine lv_aload_n X.hx X.hb dX4_size_0 rfl (lv_at hl 0 rfl) ?_
  refine gX4_size X hk hW dX4_size_1 ?_
  exact rt_i X hr hlk hW hS (Option.some.inj hf) (Nat.le_refl _) (Nat.le_refl _) dX4_size_4
-- WordSquares$SquareList.has
noncomputable def f_X4_has_J16 (st : St) (k : Nat) : Option Int32 := some 0
set_option maxRecDepth 100000 in
theorem f_X4_has_J16_w {k : Nat} {st : St} {res : Int32} (X : Cx V A cX4_has 2 RX4 p m c s args) (hr : meth.sig.returnType = (some .boolean)) (hlk : meth.locks = false) (hk : k < 3)  (H : Heap) (locs : List Loc) (ls : Array Slot)  (hf : f_X4_has_J16 st k  = some res) (hW : (WdC V ad A) st H) (hS : va_S A s.heap H locs) (hl : lv_has ls 2 []) : W p l e (rmF 0 0 0 0) s m args below meth c H locs 0 0 (MQ below (Qwi A (WdC V ad A) res st) args s 0 0 A) (F0 m 16 ls []) := by
  
  unfold f_X4_has_J16 at hf
  refine lv_iconst (v := 0) X.hx X.hb dX4_has_16 (by decide) ?_
  exact rt_z X hr hlk hW hS (Or.inl rfl) (Option.some.inj hf) (Nat.le_refl _) (Nat.le_refl _) dX4_has_17
noncomputable def f_X4_has (st : St) (k : Nat) (a1 : Int32) : Option Int32 := if a1 < 0 then f_X4_has_J16 st k else if (st.1 (13 + k)) ≤ a1 then f_X4_has_J16 st k else some 1
set_option maxRecDepth 100000 in
theorem w_X4_has (l : Launch) (V : Ev) (A : Nat → Prop) (ad : Nat → Nat) {st : St} {k : Nat} {a1 : Int32} {res : Int32} (hk : k < 3) (hf : f_X4_has st k a1 = some res) : Cn l yX4_has cX4_has 2 (some .boolean) 0 0 0 0 V A (WdC V ad A) st [.ref (ad (7 + k)), .int a1] (Qwi A (WdC V ad A) res st) := by
  refine cn_of RX4 (by decide) rfl (fun p e s m below meth c ls X hr hlk hW hS hl => ?_) (Nat.le_of_ble_eq_true rfl)
  have hl : lv_has ls 2 [(0, .ref (ad (7 + k))), (1, .int a1)] := hl
  unfold f_X4_has at hf
  refine lv_iload_n X.hx X.hb dX4_has_0 rfl (lv_at hl 1 rfl) ?_
  refine lv_if_lt (tgt := 16) X.hx X.hb dX4_has_1 (by decide) (fun c1 => ?_) (fun c1 => ?_)
  · replace hf := ite_t c1 hf
    exact f_X4_has_J16_w X hr hlk hk  _ _ _  hf hW hS (lv_sub hl [] rfl)
  · replace hf := ite_f c1 hf
    refine lv_iload_n X.hx X.hb dX4_has_4 rfl (lv_at hl 1 rfl) ?_
    refine lv_aload_n X.hx X.hb dX4_has_5 rfl (lv_at hl 0 rfl) ?_
    refine gX4_size X hk hW dX4_has_6 ?_
    refine lv_icmp_ge (tgt := 16) X.hx X.hb dX4_has_9 (by decide) (fun c9 => ?_) (fun c9 => ?_)
    · replace hf := ite_t c9 hf
      exact f_X4_has_J16_w X hr hlk hk  _ _ _  hf hW hS (lv_sub hl [] rfl)
    · replace hf := ite_f c9 hf
      refine lv_iconst (v := 1) X.hx X.hb dX4_has_12 (by decide) ?_
      refine lv_goto (tgt := 17) X.hx X.hb dX4_has_13 (by decide) ?_
      exact rt_z X hr hlk hW hS (Or.inr rfl) (Option.some.inj hf) (Nat.le_refl _) (Nat.le_refl _) dX4_has_17
-- WordSquares$SquareList.rowsOf
noncomputable def f_X4_rowsOf (st : St) (k : Nat) (a1 : Int32) : Option Int32 := (f_X4_has st k a1).bind fun b2 => if b2 = 0 then some 0 else if inb a1 (aln st (20 + k)) = true then some ((st.2.1 (20 + k) a1.toNatClampNeg) &&& 65535) else none
set_option maxRecDepth 100000 in
theorem w_X4_rowsOf (l : Launch) (V : Ev) (A : Nat → Prop) (ad : Nat → Nat) {st : St} {k : Nat} {a1 : Int32} {res : Int32} (hk : k < 3) (hf : f_X4_rowsOf st k a1 = some res) : Cn l yX4_rowsOf cX4_rowsOf 2 (some .int) 1 21 0 0 V A (WdC V ad A) st [.ref (ad (7 + k)), .int a1] (Qwi A (WdC V ad A) res st) := by
  refine cn_of RX4 (by decide) rfl (fun p e s m below meth c ls X hr hlk hW hS hl => ?_) (Nat.le_of_ble_eq_true rfl)
  have hl : lv_has ls 2 [(0, .ref (ad (7 + k))), (1, .int a1)] := hl
  unfold f_X4_rowsOf at hf
  refine lv_aload_n X.hx X.hb dX4_rowsOf_0 rfl (lv_at hl 0 rfl) ?_
  refine lv_iload_n X.hx X.hb dX4_rowsOf_1 rfl (lv_at hl 1 rfl) ?_
  obtain ⟨b2, h2, hf⟩ := bnd hf
  refine cl_i (run_V (As := [.int a1]) (rest := []) X (w_X4_has l V A ad hk h2) mw_X4_has ln_X4_23 (rcX4 X hk hW) hW hS rfl hl.1 rfl (Nat.le_of_ble_eq_true rfl) ⟨Nat.le_of_ble_eq_true rfl, Nat.le_of_ble_eq_true rfl⟩ ⟨Nat.le_refl _, Nat.le_refl _⟩ dX4_rowsOf_2) hS (fun H locs hW hS => ?_)
  refine lv_if_eq (tgt := 20) X.hx X.hb dX4_rowsOf_5 (by decide) (fun c5 => ?_) (fun c5 => ?_)
  · replace hf := ite_t c5 hf
    refine lv_iconst (v := 0) X.hx X.hb dX4_rowsOf_20 (by decide) ?_
    exact rt_i X hr hlk hW hS (Option.some.inj hf) (Nat.le_refl _) (Nat.le_refl _) dX4_rowsOf_21
  · replace hf := ite_f c5 hf
    refine lv_aload_n X.hx X.hb dX4_rowsOf_8 rfl (lv_at hl 0 rfl) ?_
    refine gX4_items X hk hW dX4_rowsOf_9 (fun q9 hQ => ?_)
    refine lv_iload_n X.hx X.hb dX4_rowsOf_12 rfl (lv_at hl 1 rfl) ?_
    obtain ⟨h13, hf⟩ := ite_n hf
    refine aC_ldQ X hk hQ rfl h13 dX4_rowsOf_13 ?_
    refine lv_ldc (v := 65535) X.hx X.hb X.ho (X.ts kn_X4_27) dX4_rowsOf_14 ?_
    refine lv_iand X.hx X.hb dX4_rowsOf_16 ?_
    refine lv_goto (tgt := 21) X.hx X.hb dX4_rowsOf_17 (by decide) ?_
    exact rt_i X hr hlk hW hS (Option.some.inj hf) (Nat.le_refl _) (Nat.le_refl _) dX4_rowsOf_21
-- WordSquares.packedWord
noncomputable def f_X7_packedWord (a0 : Int32) (a1 : Int32) (a2 : Int32) : Option Int32 := some ((a0 >>> ((4 * ((a2 - 1) - a1)) &&& 31)) &&& 15)
set_option maxRecDepth 100000 in
theorem w_X7_packedWord (l : Launch) (V : Ev) (A : Nat → Prop) (Wd : St → Heap → Prop) (st : St) {a0 : Int32} {a1 : Int32} {a2 : Int32} {res : Int32} (hf : f_X7_packedWord a0 a1 a2 = some res) : Cn l yX7_packedWord cX7_packedWord 3 (some .int) 0 0 0 0 V A Wd st [.int a0, .int a1, .int a2] (Qwi A Wd res st) := by
  refine cn_of RX7 (by decide) rfl (fun p e s m below meth c ls X hr hlk hW hS hl => ?_) (Nat.le_of_ble_eq_true rfl)
  have hl : lv_has ls 3 [(0, .int a0), (1, .int a1), (2, .int a2)] := hl
  unfold f_X7_packedWord at hf
  refine lv_iload_n X.hx X.hb dX7_packedWord_0 rfl (lv_at hl 0 rfl) ?_
  refine lv_iconst (v := 4) X.hx X.hb dX7_packedWord_1 (by decide) ?_
  refine lv_iload_n X.hx X.hb dX7_packedWord_2 rfl (lv_at hl 2 rfl) ?_
  refine lv_iconst (v := 1) X.hx X.hb dX7_packedWord_3 (by decide) ?_
  refine lv_isub X.hx X.hb dX7_packedWord_4 ?_
  refine lv_iload_n X.hx X.hb dX7_packedWord_5 rfl (lv_at hl 1 rfl) ?_
  refine lv_isub X.hx X.hb dX7_packedWord_6 ?_
  refine lv_imul X.hx X.hb dX7_packedWord_7 ?_
  refine lv_ishr X.hx X.hb dX7_packedWord_8 ?_
  refine lv_bipush (v := 15) X.hx X.hb dX7_packedWord_9 (by decide) ?_
  refine lv_iand X.hx X.hb dX7_packedWord_11 ?_
  exact rt_i X hr hlk hW hS (Option.some.inj hf) (Nat.le_refl _) (Nat.le_refl _) dX7_packedWord_12
-- WordSquares$Board.addRows
noncomputable def f_X0_addRows_L2 : Nat → St → Int32 → Int32 → Int32 → Option St
  | 0, _, _, _, _ => none
  | fu + 1, st, x1, x2, x3 => if x2 ≤ x3 then some st else if 4 ≤ x3 then some st else if inb x3 4 = true then (f_X7_packedWord x1 x3 x2).bind fun b23 => if inb x3 4 = true then lt (sA st 18 x3.toNatClampNeg ((st.2.1 18 x3.toNatClampNeg) ||| (1 <<< (b23 &&& 31)))) fun s28 => lt (x3 + 1) fun w29 => (f_X0_addRows_L2 fu) s28 x1 x2 w29 else none else none
theorem f_X0_addRows_L2_l {res : St} : ∀ (n9 : Nat) (st : St) (x1 : Int32) (x2 : Int32) (x3 : Int32), f_X0_addRows_L2 n9 st x1 x2 x3 = some res → phi res = phi st := by
  intro n9
  induction n9 with
  | zero =>
    intro st x1 x2 x3 hf
    exact absurd hf (by unfold f_X0_addRows_L2; exact fun h => by cases h)
  | succ n9 hq2 =>
    intro st x1 x2 x3 hf
    unfold f_X0_addRows_L2 at hf
    by_cases c4 : x2 ≤ x3
    · replace hf := ite_t c4 hf
      have q9 := congrArg phi (Option.some.inj hf)
      omega
    · replace hf := ite_f c4 hf
      by_cases c9 : 4 ≤ x3
      · replace hf := ite_t c9 hf
        have q9 := congrArg phi (Option.some.inj hf)
        omega
      · replace hf := ite_f c9 hf
        obtain ⟨h18, hf⟩ := ite_n hf
        obtain ⟨b23, h23, hf⟩ := bnd hf
        obtain ⟨h28, hf⟩ := ite_n hf
        obtain ⟨s28, e28, hf⟩ := lt_e hf
        have p28 : phi s28 = phi st := by rw [e28]; rfl
        obtain ⟨w29, e29, hf⟩ := lt_e hf
        have q9 := hq2 _ _ _ _ hf
        omega
set_option maxRecDepth 100000 in
theorem f_X0_addRows_L2_w {res : St} (X : Cx V A cX0_addRows 4 RX0 p m c s args) (hr : meth.sig.returnType = none) (hlk : meth.locks = false)  : ∀ (n9 : Nat) (st : St) (x1 : Int32) (x2 : Int32) (x3 : Int32) (H : Heap) (locs : List Loc) (ls : Array Slot), f_X0_addRows_L2 n9 st x1 x2 x3 = some res → (WdC V ad A) st H → va_S A s.heap H locs → lv_has ls 4 [(0, .ref (ad 6)), (1, .int x1), (2, .int x2), (3, .int x3)] → W p l e (rmF 1 22 0 0) s m args below meth c H locs 0 0 (MQ below (Qwv A (WdC V ad A) res) args s 0 0 A) (F0 m 2 ls []) := by
  intro n9
  induction n9 with
  | zero =>
    intro st x1 x2 x3 H locs ls hf
    exact absurd hf (by unfold f_X0_addRows_L2; exact fun h => by cases h)
  | succ n9 hr2 =>
    intro st x1 x2 x3 H locs ls hf hW hS hl
    
    unfold f_X0_addRows_L2 at hf
    refine lv_iload_n X.hx X.hb dX0_addRows_2 rfl (lv_at hl 3 rfl) ?_
    refine lv_iload_n X.hx X.hb dX0_addRows_3 rfl (lv_at hl 2 rfl) ?_
    refine lv_icmp_ge (tgt := 35) X.hx X.hb dX0_addRows_4 (by decide) (fun c4 => ?_) (fun c4 => ?_)
    · replace hf := ite_t c4 hf
      exact rt_v X hr hlk (by rw [← Option.some.inj hf]; exact hW) hS (Nat.le_refl _) (Nat.le_refl _) dX0_addRows_35
    · replace hf := ite_f c4 hf
      refine lv_iload_n X.hx X.hb dX0_addRows_7 rfl (lv_at hl 3 rfl) ?_
      refine lv_iconst (v := 4) X.hx X.hb dX0_addRows_8 (by decide) ?_
      refine lv_icmp_ge (tgt := 35) X.hx X.hb dX0_addRows_9 (by decide) (fun c9 => ?_) (fun c9 => ?_)
      · replace hf := ite_t c9 hf
        exact rt_v X hr hlk (by rw [← Option.some.inj hf]; exact hW) hS (Nat.le_refl _) (Nat.le_refl _) dX0_addRows_35
      · replace hf := ite_f c9 hf
        refine lv_aload_n X.hx X.hb dX0_addRows_12 rfl (lv_at hl 0 rfl) ?_
        refine gX0_sets X hW dX0_addRows_13 ?_
        refine lv_iload_n X.hx X.hb dX0_addRows_16 rfl (lv_at hl 3 rfl) ?_
        refine lv_dup2_11 X.hx X.hb dX0_addRows_17 rfl rfl ?_
        obtain ⟨h18, hf⟩ := ite_n hf
        refine aC_ld X hW isA_18 rfl h18 dX0_addRows_18 ?_
        refine lv_iconst (v := 1) X.hx X.hb dX0_addRows_19 (by decide) ?_
        refine lv_iload_n X.hx X.hb dX0_addRows_20 rfl (lv_at hl 1 rfl) ?_
        refine lv_iload_n X.hx X.hb dX0_addRows_21 rfl (lv_at hl 3 rfl) ?_
        refine lv_iload_n X.hx X.hb dX0_addRows_22 rfl (lv_at hl 2 rfl) ?_
        obtain ⟨b23, h23, hf⟩ := bnd hf
        refine cl_i (run_SN (As := [.int x1, .int x3, .int x2]) (rest := [.int 1, .int (st.2.1 18 x3.toNatClampNeg), .int x3, .ref (ad 18)]) X (w_X7_packedWord l V A (WdC V ad A) st h23) mw_X7_packedWord (host := RX7) (List.mem_of_getElem? (i := 7) rfl) hW hS rfl hl.1 rfl (Nat.le_of_ble_eq_true rfl) ⟨Nat.le_of_ble_eq_true rfl, Nat.le_of_ble_eq_true rfl⟩ ⟨Nat.le_refl _, Nat.le_refl _⟩ dX0_addRows_23) hS (fun H locs hW hS => ?_)
        refine lv_ishl X.hx X.hb dX0_addRows_26 ?_
        refine lv_ior X.hx X.hb dX0_addRows_27 ?_
        obtain ⟨h28, hf⟩ := ite_n hf
        obtain ⟨s28, e28, hf⟩ := lt_e hf
        refine aC_st X hW hS isA_18 rfl h28 dX0_addRows_28 (fun H locs hW hS => ?_)
        rw [← e28] at hW
        obtain ⟨w29, e29, hf⟩ := lt_e hf
        refine lv_iinc (v := w29) (lv' := [(3, .int w29), (0, .ref (ad 6)), (1, .int x1), (2, .int x2)]) X.hx X.hb dX0_addRows_29 hl (k := 3) rfl (by rw [e29]; rfl) (by decide) rfl (fun ls hl => ?_)
        refine lv_goto (tgt := 2) X.hx X.hb dX0_addRows_32 (by decide) ?_
        exact hr2 _ _ _ _ _ _ _  hf hW hS (lv_sub hl [1, 2, 3, 0] rfl)
noncomputable def f_X0_addRows (st : St) (a1 : Int32) (a2 : Int32) : Option St := f_X0_addRows_L2 FU st a1 a2 0
theorem l_X0_addRows {st : St} {a1 : Int32} {a2 : Int32} {res : St} (hf : f_X0_addRows st a1 a2 = some res) : phi res = phi st := by
  unfold f_X0_addRows at hf
  have q9 := f_X0_addRows_L2_l  FU _ _ _ _ hf
  omega
set_option maxRecDepth 100000 in
theorem w_X0_addRows (l : Launch) (V : Ev) (A : Nat → Prop) (ad : Nat → Nat) {st : St} {a1 : Int32} {a2 : Int32} {res : St} (hf : f_X0_addRows st a1 a2 = some res) : Cn l yX0_addRows cX0_addRows 4 none 1 22 0 0 V A (WdC V ad A) st [.ref (ad 6), .int a1, .int a2] (Qwv A (WdC V ad A) res) := by
  refine cn_of RX0 (by decide) rfl (fun p e s m below meth c ls X hr hlk hW hS hl => ?_) (Nat.le_of_ble_eq_true rfl)
  have hl : lv_has ls 4 [(0, .ref (ad 6)), (1, .int a1), (2, .int a2)] := hl
  unfold f_X0_addRows at hf
  refine lv_iconst (v := 0) X.hx X.hb dX0_addRows_0 (by decide) ?_
  refine lv_istore_n (lv' := [(3, .int 0), (0, .ref (ad 6)), (1, .int a1), (2, .int a2)]) X.hx X.hb dX0_addRows_1 rfl hl (by decide) rfl (fun ls hl => ?_)
  exact f_X0_addRows_L2_w X hr hlk FU _ _ _ _ _ _ _  hf hW hS (lv_sub hl [1, 2, 3, 0] rfl)
-- WordSquares$Board.look
noncomputable def f_X0_look_J74 (r8 : St → Nat → Int32 → Int32 → Int32 → Int32 → Option St) (st : St) (x1 : Nat) (x2 : Int32) (x3 : Int32) (x5 : Int32) (t0 : Int32) (t1 : Int32) : Option St := lt (t1 ||| t0) fun w75 => lt (x5 + 1) fun w77 => r8 st x1 x2 x3 w75 w77
theorem f_X0_look_J74_l {r8 : St → Nat → Int32 → Int32 → Int32 → Int32 → Option St} {res : St} (hq8 : ∀ (st : St) (x1 : Nat) (x2 : Int32) (x3 : Int32) (x4 : Int32) (x5 : Int32), r8 st x1 x2 x3 x4 x5 = some res → phi res = phi st) (st : St) (x1 : Nat) (x2 : Int32) (x3 : Int32) (x5 : Int32) (t0 : Int32) (t1 : Int32) (hf : f_X0_look_J74 r8 st x1 x2 x3 x5 t0 t1 = some res) : phi res = phi st := by
  unfold f_X0_look_J74 at hf
  obtain ⟨w75, e75, hf⟩ := lt_e hf
  obtain ⟨w77, e77, hf⟩ := lt_e hf
  have q9 := hq8 _ _ _ _ _ _ hf
  omega
set_option maxRecDepth 100000 in
theorem f_X0_look_J74_w {r8 : St → Nat → Int32 → Int32 → Int32 → Int32 → Option St} {res : St} (X : Cx V A cX0_look 7 RX0 p m c s args) (hr : meth.sig.returnType = none) (hlk : meth.locks = false) (hr8 : ∀ (st : St) (x1 : Nat) (x2 : Int32) (x3 : Int32) (x4 : Int32) (x5 : Int32) (H : Heap) (locs : List Loc) (ls : Array Slot), x1 < 3 → r8 st x1 x2 x3 x4 x5 = some res → (WdC V ad A) st H → va_S A s.heap H locs → lv_has ls 7 [(0, .ref (ad 6)), (1, .ref (ad (7 + x1))), (2, .int x2), (3, .int x3), (4, .int x4), (5, .int x5)] → W p l e (rmF 2 45 0 0) s m args below meth c H locs 0 0 (MQ below (Qwv A (WdC V ad A) res) args s 0 0 A) (F0 m 8 ls [])) (st : St) (x1 : Nat) (x2 : Int32) (x3 : Int32) (x5 : Int32) (t0 : Int32) (t1 : Int32) (H : Heap) (locs : List Loc) (ls : Array Slot) (hx1 : x1 < 3) (hf : f_X0_look_J74 r8 st x1 x2 x3 x5 t0 t1 = some res) (hW : (WdC V ad A) st H) (hS : va_S A s.heap H locs) (hl : lv_has ls 7 [(0, .ref (ad 6)), (1, .ref (ad (7 + x1))), (2, .int x2), (3, .int x3), (5, .int x5)]) : W p l e (rmF 2 45 0 0) s m args below meth c H locs 0 0 (MQ below (Qwv A (WdC V ad A) res) args s 0 0 A) (F0 m 74 ls [.int t0, .int t1]) := by
  
  unfold f_X0_look_J74 at hf
  refine lv_ior X.hx X.hb dX0_look_74 ?_
  obtain ⟨w75, e75, hf⟩ := lt_e hf
  refine lv_nm e75 ?_
  refine lv_istore (lv' := [(4, .int w75), (0, .ref (ad 6)), (1, .ref (ad (7 + x1))), (2, .int x2), (3, .int x3), (5, .int x5)]) X.hx X.hb dX0_look_75 hl (by decide) rfl (fun ls hl => ?_)
  obtain ⟨w77, e77, hf⟩ := lt_e hf
  refine lv_iinc (v := w77) (lv' := [(5, .int w77), (4, .int w75), (0, .ref (ad 6)), (1, .ref (ad (7 + x1))), (2, .int x2), (3, .int x3)]) X.hx X.hb dX0_look_77 hl (k := 5) rfl (by rw [e77]; rfl) (by decide) rfl (fun ls hl => ?_)
  refine lv_goto (tgt := 8) X.hx X.hb dX0_look_80 (by decide) ?_
  exact hr8 _ _ _ _ _ _ _ _ _ hx1 hf hW hS (lv_sub hl [2, 3, 4, 5, 1, 0] rfl)
noncomputable def f_X0_look_J52 (r8 : St → Nat → Int32 → Int32 → Int32 → Int32 → Option St) (st : St) (x1 : Nat) (x2 : Int32) (x4 : Int32) (x5 : Int32) (x6 : Int32) (t0 : Int32) (t1 : Int32) : Option St := lt (t1 ||| t0) fun w53 => if x6 = 0 then if inb x5 4 = true then f_X0_look_J74 r8 st x1 x2 w53 x5 (st.2.1 17 x5.toNatClampNeg) (x4 <<< (4 &&& 31)) else none else f_X0_look_J74 r8 st x1 x2 w53 x5 0 (x4 <<< (4 &&& 31))
theorem f_X0_look_J52_l {r8 : St → Nat → Int32 → Int32 → Int32 → Int32 → Option St} {res : St} (hq8 : ∀ (st : St) (x1 : Nat) (x2 : Int32) (x3 : Int32) (x4 : Int32) (x5 : Int32), r8 st x1 x2 x3 x4 x5 = some res → phi res = phi st) (st : St) (x1 : Nat) (x2 : Int32) (x4 : Int32) (x5 : Int32) (x6 : Int32) (t0 : Int32) (t1 : Int32) (hf : f_X0_look_J52 r8 st x1 x2 x4 x5 x6 t0 t1 = some res) : phi res = phi st := by
  unfold f_X0_look_J52 at hf
  obtain ⟨w53, e53, hf⟩ := lt_e hf
  by_cases c60 : x6 = 0
  · replace hf := ite_t c60 hf
    obtain ⟨h73, hf⟩ := ite_n hf
    have q9 := f_X0_look_J74_l hq8 _ _ _ _ _ _ _ hf
    omega
  · replace hf := ite_f c60 hf
    have q9 := f_X0_look_J74_l hq8 _ _ _ _ _ _ _ hf
    omega
set_option maxRecDepth 100000 in
theorem f_X0_look_J52_w {r8 : St → Nat → Int32 → Int32 → Int32 → Int32 → Option St} {res : St} (X : Cx V A cX0_look 7 RX0 p m c s args) (hr : meth.sig.returnType = none) (hlk : meth.locks = false) (hr8 : ∀ (st : St) (x1 : Nat) (x2 : Int32) (x3 : Int32) (x4 : Int32) (x5 : Int32) (H : Heap) (locs : List Loc) (ls : Array Slot), x1 < 3 → r8 st x1 x2 x3 x4 x5 = some res → (WdC V ad A) st H → va_S A s.heap H locs → lv_has ls 7 [(0, .ref (ad 6)), (1, .ref (ad (7 + x1))), (2, .int x2), (3, .int x3), (4, .int x4), (5, .int x5)] → W p l e (rmF 2 45 0 0) s m args below meth c H locs 0 0 (MQ below (Qwv A (WdC V ad A) res) args s 0 0 A) (F0 m 8 ls [])) (st : St) (x1 : Nat) (x2 : Int32) (x4 : Int32) (x5 : Int32) (x6 : Int32) (t0 : Int32) (t1 : Int32) (H : Heap) (locs : List Loc) (ls : Array Slot) (hx1 : x1 < 3) (hf : f_X0_look_J52 r8 st x1 x2 x4 x5 x6 t0 t1 = some res) (hW : (WdC V ad A) st H) (hS : va_S A s.heap H locs) (hl : lv_has ls 7 [(0, .ref (ad 6)), (1, .ref (ad (7 + x1))), (2, .int x2), (4, .int x4), (5, .int x5), (6, .int x6)]) : W p l e (rmF 2 45 0 0) s m args below meth c H locs 0 0 (MQ below (Qwv A (WdC V ad A) res) args s 0 0 A) (F0 m 52 ls [.int t0, .int t1]) := by
  
  unfold f_X0_look_J52 at hf
  refine lv_ior X.hx X.hb dX0_look_52 ?_
  obtain ⟨w53, e53, hf⟩ := lt_e hf
  refine lv_nm e53 ?_
  refine lv_istore_n (lv' := [(3, .int w53), (0, .ref (ad 6)), (1, .ref (ad (7 + x1))), (2, .int x2), (4, .int x4), (5, .int x5), (6, .int x6)]) X.hx X.hb dX0_look_53 rfl hl (by decide) rfl (fun ls hl => ?_)
  refine lv_iload X.hx X.hb dX0_look_54 (lv_at hl 4 rfl) ?_
  refine lv_iconst (v := 4) X.hx X.hb dX0_look_56 (by decide) ?_
  refine lv_ishl X.hx X.hb dX0_look_57 ?_
  refine lv_iload X.hx X.hb dX0_look_58 (lv_at hl 6 rfl) ?_
  refine lv_if_eq (tgt := 67) X.hx X.hb dX0_look_60 (by decide) (fun c60 => ?_) (fun c60 => ?_)
  · replace hf := ite_t c60 hf
    refine lv_aload_n X.hx X.hb dX0_look_67 rfl (lv_at hl 1 rfl) ?_
    refine gX0_placed X hW dX0_look_68 ?_
    refine lv_iload X.hx X.hb dX0_look_71 (lv_at hl 5 rfl) ?_
    obtain ⟨h73, hf⟩ := ite_n hf
    refine aC_ld X hW isA_17 rfl h73 dX0_look_73 ?_
    exact f_X0_look_J74_w X hr hlk hr8 _ _ _ _ _ _ _ _ _ _ hx1 hf hW hS (lv_sub hl [1, 2, 3, 0, 5] rfl)
  · replace hf := ite_f c60 hf
    refine lv_iconst (v := 0) X.hx X.hb dX0_look_63 (by decide) ?_
    refine lv_goto (tgt := 74) X.hx X.hb dX0_look_64 (by decide) ?_
    exact f_X0_look_J74_w X hr hlk hr8 _ _ _ _ _ _ _ _ _ _ hx1 hf hW hS (lv_sub hl [1, 2, 3, 0, 5] rfl)
noncomputable def f_X0_look_J36 (r8 : St → Nat → Int32 → Int32 → Int32 → Int32 → Option St) (st : St) (x1 : Nat) (x2 : Int32) (x3 : Int32) (x4 : Int32) (x5 : Int32) (t0 : Int32) : Option St := if t0 = 0 then f_X0_look_J52 r8 st x1 x2 x4 x5 t0 15 (x3 <<< (4 &&& 31)) else f_X0_look_J52 r8 st x1 x2 x4 x5 t0 0 (x3 <<< (4 &&& 31))
theorem f_X0_look_J36_l {r8 : St → Nat → Int32 → Int32 → Int32 → Int32 → Option St} {res : St} (hq8 : ∀ (st : St) (x1 : Nat) (x2 : Int32) (x3 : Int32) (x4 : Int32) (x5 : Int32), r8 st x1 x2 x3 x4 x5 = some res → phi res = phi st) (st : St) (x1 : Nat) (x2 : Int32) (x3 : Int32) (x4 : Int32) (x5 : Int32) (t0 : Int32) (hf : f_X0_look_J36 r8 st x1 x2 x3 x4 x5 t0 = some res) : phi res = phi st := by
  unfold f_X0_look_J36 at hf
  by_cases c43 : t0 = 0
  · replace hf := ite_t c43 hf
    have q9 := f_X0_look_J52_l hq8 _ _ _ _ _ _ _ _ hf
    omega
  · replace hf := ite_f c43 hf
    have q9 := f_X0_look_J52_l hq8 _ _ _ _ _ _ _ _ hf
    omega
set_option maxRecDepth 100000 in
theorem f_X0_look_J36_w {r8 : St → Nat → Int32 → Int32 → Int32 → Int32 → Option St} {res : St} (X : Cx V A cX0_look 7 RX0 p m c s args) (hr : meth.sig.returnType = none) (hlk : meth.locks = false) (hr8 : ∀ (st : St) (x1 : Nat) (x2 : Int32) (x3 : Int32) (x4 : Int32) (x5 : Int32) (H : Heap) (locs : List Loc) (ls : Array Slot), x1 < 3 → r8 st x1 x2 x3 x4 x5 = some res → (WdC V ad A) st H → va_S A s.heap H locs → lv_has ls 7 [(0, .ref (ad 6)), (1, .ref (ad (7 + x1))), (2, .int x2), (3, .int x3), (4, .int x4), (5, .int x5)] → W p l e (rmF 2 45 0 0) s m args below meth c H locs 0 0 (MQ below (Qwv A (WdC V ad A) res) args s 0 0 A) (F0 m 8 ls [])) (st : St) (x1 : Nat) (x2 : Int32) (x3 : Int32) (x4 : Int32) (x5 : Int32) (t0 : Int32) (H : Heap) (locs : List Loc) (ls : Array Slot) (hx1 : x1 < 3) (hf : f_X0_look_J36 r8 st x1 x2 x3 x4 x5 t0 = some res) (hW : (WdC V ad A) st H) (hS : va_S A s.heap H locs) (hl : lv_has ls 7 [(0, .ref (ad 6)), (1, .ref (ad (7 + x1))), (2, .int x2), (3, .int x3), (4, .int x4), (5, .int x5)]) : W p l e (rmF 2 45 0 0) s m args below meth c H locs 0 0 (MQ below (Qwv A (WdC V ad A) res) args s 0 0 A) (F0 m 36 ls [.int t0]) := by
  
  unfold f_X0_look_J36 at hf
  refine lv_istore (lv' := [(6, .int t0), (0, .ref (ad 6)), (1, .ref (ad (7 + x1))), (2, .int x2), (3, .int x3), (4, .int x4), (5, .int x5)]) X.hx X.hb dX0_look_36 hl (by decide) rfl (fun ls hl => ?_)
  refine lv_iload_n X.hx X.hb dX0_look_38 rfl (lv_at hl 4 rfl) ?_
  refine lv_iconst (v := 4) X.hx X.hb dX0_look_39 (by decide) ?_
  refine lv_ishl X.hx X.hb dX0_look_40 ?_
  refine lv_iload X.hx X.hb dX0_look_41 (lv_at hl 0 rfl) ?_
  refine lv_if_eq (tgt := 50) X.hx X.hb dX0_look_43 (by decide) (fun c43 => ?_) (fun c43 => ?_)
  · replace hf := ite_t c43 hf
    refine lv_bipush (v := 15) X.hx X.hb dX0_look_50 (by decide) ?_
    exact f_X0_look_J52_w X hr hlk hr8 _ _ _ _ _ _ _ _ _ _ _ hx1 hf hW hS (lv_sub hl [1, 2, 3, 5, 6, 0] rfl)
  · replace hf := ite_f c43 hf
    refine lv_iconst (v := 0) X.hx X.hb dX0_look_46 (by decide) ?_
    refine lv_goto (tgt := 52) X.hx X.hb dX0_look_47 (by decide) ?_
    exact f_X0_look_J52_w X hr hlk hr8 _ _ _ _ _ _ _ _ _ _ _ hx1 hf hW hS (lv_sub hl [1, 2, 3, 5, 6, 0] rfl)
noncomputable def f_X0_look_J142 (r99 : St → Nat → Int32 → Int32 → Int32 → Int32 → Option St) (st : St) (x1 : Nat) (x2 : Int32) (x3 : Int32) (x4 : Int32) (x5 : Int32) : Option St := lt (x5 + 1) fun w142 => r99 st x1 x2 x3 x4 w142
theorem f_X0_look_J142_l {r99 : St → Nat → Int32 → Int32 → Int32 → Int32 → Option St} {res : St} (hq99 : ∀ (st : St) (x1 : Nat) (x2 : Int32) (x3 : Int32) (x4 : Int32) (x5 : Int32), r99 st x1 x2 x3 x4 x5 = some res → phi res = phi st) (st : St) (x1 : Nat) (x2 : Int32) (x3 : Int32) (x4 : Int32) (x5 : Int32) (hf : f_X0_look_J142 r99 st x1 x2 x3 x4 x5 = some res) : phi res = phi st := by
  unfold f_X0_look_J142 at hf
  obtain ⟨w142, e142, hf⟩ := lt_e hf
  have q9 := hq99 _ _ _ _ _ _ hf
  omega
set_option maxRecDepth 100000 in
theorem f_X0_look_J142_w {r99 : St → Nat → Int32 → Int32 → Int32 → Int32 → Option St} {res : St} (X : Cx V A cX0_look 7 RX0 p m c s args) (hr : meth.sig.returnType = none) (hlk : meth.locks = false) (hr99 : ∀ (st : St) (x1 : Nat) (x2 : Int32) (x3 : Int32) (x4 : Int32) (x5 : Int32) (H : Heap) (locs : List Loc) (ls : Array Slot), x1 < 3 → r99 st x1 x2 x3 x4 x5 = some res → (WdC V ad A) st H → va_S A s.heap H locs → lv_has ls 7 [(0, .ref (ad 6)), (1, .ref (ad (7 + x1))), (2, .int x2), (3, .int x3), (4, .int x4), (5, .int x5)] → W p l e (rmF 2 45 0 0) s m args below meth c H locs 0 0 (MQ below (Qwv A (WdC V ad A) res) args s 0 0 A) (F0 m 99 ls [])) (st : St) (x1 : Nat) (x2 : Int32) (x3 : Int32) (x4 : Int32) (x5 : Int32) (H : Heap) (locs : List Loc) (ls : Array Slot) (hx1 : x1 < 3) (hf : f_X0_look_J142 r99 st x1 x2 x3 x4 x5 = some res) (hW : (WdC V ad A) st H) (hS : va_S A s.heap H locs) (hl : lv_has ls 7 [(0, .ref (ad 6)), (1, .ref (ad (7 + x1))), (2, .int x2), (3, .int x3), (4, .int x4), (5, .int x5)]) : W p l e (rmF 2 45 0 0) s m args below meth c H locs 0 0 (MQ below (Qwv A (WdC V ad A) res) args s 0 0 A) (F0 m 142 ls []) := by
  
  unfold f_X0_look_J142 at hf
  obtain ⟨w142, e142, hf⟩ := lt_e hf
  refine lv_iinc (v := w142) (lv' := [(5, .int w142), (0, .ref (ad 6)), (1, .ref (ad (7 + x1))), (2, .int x2), (3, .int x3), (4, .int x4)]) X.hx X.hb dX0_look_142 hl (k := 5) rfl (by rw [e142]; rfl) (by decide) rfl (fun ls hl => ?_)
  refine lv_goto (tgt := 99) X.hx X.hb dX0_look_145 (by decide) ?_
  exact hr99 _ _ _ _ _ _ _ _ _ hx1 hf hW hS (lv_sub hl [1, 2, 3, 4, 5, 0] rfl)
noncomputable def f_X0_look_L99 : Nat → St → Nat → Int32 → Int32 → Int32 → Int32 → Option St
  | 0, _, _, _, _, _, _ => none
  | fu + 1, st, x1, x2, x3, x4, x5 => (f_X4_size st x1).bind fun b102 => if b102 ≤ x5 then some st else (f_X4_rowsOf st x1 x5).bind fun b111 => if (b111 &&& x3) = x4 then lt (sI st 12 ((st.1 12) + 1)) fun s132 => (f_X0_addRows s132 b111 x2).bind fun b139 => f_X0_look_J142 ((f_X0_look_L99 fu)) b139 x1 x2 x3 x4 x5 else f_X0_look_J142 ((f_X0_look_L99 fu)) st x1 x2 x3 x4 x5
theorem f_X0_look_L99_l {res : St} : ∀ (n9 : Nat) (st : St) (x1 : Nat) (x2 : Int32) (x3 : Int32) (x4 : Int32) (x5 : Int32), f_X0_look_L99 n9 st x1 x2 x3 x4 x5 = some res → phi res = phi st := by
  intro n9
  induction n9 with
  | zero =>
    intro st x1 x2 x3 x4 x5 hf
    exact absurd hf (by unfold f_X0_look_L99; exact fun h => by cases h)
  | succ n9 hq99 =>
    intro st x1 x2 x3 x4 x5 hf
    unfold f_X0_look_L99 at hf
    obtain ⟨b102, h102, hf⟩ := bnd hf
    by_cases c105 : b102 ≤ x5
    · replace hf := ite_t c105 hf
      have q9 := congrArg phi (Option.some.inj hf)
      omega
    · replace hf := ite_f c105 hf
      obtain ⟨b111, h111, hf⟩ := bnd hf
      by_cases c122 : (b111 &&& x3) = x4
      · replace hf := ite_t c122 hf
        obtain ⟨s132, e132, hf⟩ := lt_e hf
        have p132 : phi s132 = phi st := by rw [e132]; rfl
        obtain ⟨b139, h139, hf⟩ := bnd hf
        have p139 := l_X0_addRows h139
        have q9 := f_X0_look_J142_l hq99 _ _ _ _ _ _ hf
        omega
      · replace hf := ite_f c122 hf
        have q9 := f_X0_look_J142_l hq99 _ _ _ _ _ _ hf
        omega
set_option maxRecDepth 100000 in
theorem f_X0_look_L99_w {res : St} (X : Cx V A cX0_look 7 RX0 p m c s args) (hr : meth.sig.returnType = none) (hlk : meth.locks = false)  : ∀ (n9 : Nat) (st : St) (x1 : Nat) (x2 : Int32) (x3 : Int32) (x4 : Int32) (x5 : Int32) (H : Heap) (locs : List Loc) (ls : Array Slot), x1 < 3 → f_X0_look_L99 n9 st x1 x2 x3 x4 x5 = some res → (WdC V ad A) st H → va_S A s.heap H locs → lv_has ls 7 [(0, .ref (ad 6)), (1, .ref (ad (7 + x1))), (2, .int x2), (3, .int x3), (4, .int x4), (5, .int x5)] → W p l e (rmF 2 45 0 0) s m args below meth c H locs 0 0 (MQ below (Qwv A (WdC V ad A) res) args s 0 0 A) (F0 m 99 ls []) := by
  intro n9
  induction n9 with
  | zero =>
    intro st x1 x2 x3 x4 x5 H locs ls hx1 hf
    exact absurd hf (by unfold f_X0_look_L99; exact fun h => by cases h)
  | succ n9 hr99 =>
    intro st x1 x2 x3 x4 x5 H locs ls hx1 hf hW hS hl
    
    unfold f_X0_look_L99 at hf
    refine lv_iload X.hx X.hb dX0_look_99 (lv_at hl 5 rfl) ?_
    refine lv_aload_n X.hx X.hb dX0_look_101 rfl (lv_at hl 1 rfl) ?_
    obtain ⟨b102, h102, hf⟩ := bnd hf
    refine cl_i (run_V (As := []) (rest := [.int x5]) X (w_X4_size l V A ad hx1 h102) mw_X4_size ln_X0_28 (rcX4 X hx1 hW) hW hS rfl hl.1 rfl (Nat.le_of_ble_eq_true rfl) ⟨Nat.le_of_ble_eq_true rfl, Nat.le_of_ble_eq_true rfl⟩ ⟨Nat.le_refl _, Nat.le_refl _⟩ dX0_look_102) hS (fun H locs hW hS => ?_)
    refine lv_icmp_ge (tgt := 148) X.hx X.hb dX0_look_105 (by decide) (fun c105 => ?_) (fun c105 => ?_)
    · replace hf := ite_t c105 hf
      exact rt_v X hr hlk (by rw [← Option.some.inj hf]; exact hW) hS (Nat.le_refl _) (Nat.le_refl _) dX0_look_148
    · replace hf := ite_f c105 hf
      refine lv_aload_n X.hx X.hb dX0_look_108 rfl (lv_at hl 1 rfl) ?_
      refine lv_iload X.hx X.hb dX0_look_109 (lv_at hl 5 rfl) ?_
      obtain ⟨b111, h111, hf⟩ := bnd hf
      refine cl_i (run_V (As := [.int x5]) (rest := []) X (w_X4_rowsOf l V A ad hx1 h111) mw_X4_rowsOf ln_X0_34 (rcX4 X hx1 hW) hW hS rfl hl.1 rfl (Nat.le_of_ble_eq_true rfl) ⟨Nat.le_of_ble_eq_true rfl, Nat.le_of_ble_eq_true rfl⟩ ⟨Nat.le_refl _, Nat.le_refl _⟩ dX0_look_111) hS (fun H locs hW hS => ?_)
      refine lv_istore (lv' := [(6, .int b111), (0, .ref (ad 6)), (1, .ref (ad (7 + x1))), (2, .int x2), (3, .int x3), (4, .int x4), (5, .int x5)]) X.hx X.hb dX0_look_114 hl (by decide) rfl (fun ls hl => ?_)
      refine lv_iload X.hx X.hb dX0_look_116 (lv_at hl 0 rfl) ?_
      refine lv_iload_n X.hx X.hb dX0_look_118 rfl (lv_at hl 4 rfl) ?_
      refine lv_iand X.hx X.hb dX0_look_119 ?_
      refine lv_iload X.hx X.hb dX0_look_120 (lv_at hl 5 rfl) ?_
      refine lv_icmp_ne (tgt := 142) X.hx X.hb dX0_look_122 (by decide) (fun c122 => ?_) (fun c122 => ?_)
      · replace hf := ite_f c122 hf
        exact f_X0_look_J142_w X hr hlk hr99 _ _ _ _ _ _ _ _ _ hx1 hf hW hS (lv_sub hl [1, 2, 3, 4, 5, 6] rfl)
      · replace hf := ite_t c122 hf
        refine lv_aload_n X.hx X.hb dX0_look_125 rfl (lv_at hl 1 rfl) ?_
        refine lv_dup X.hx X.hb dX0_look_126 rfl ?_
        refine gX0_fits X hW dX0_look_127 ?_
        refine lv_iconst (v := 1) X.hx X.hb dX0_look_130 (by decide) ?_
        refine lv_iadd X.hx X.hb dX0_look_131 ?_
        obtain ⟨s132, e132, hf⟩ := lt_e hf
        refine pX0_fits X hW hS dX0_look_132 (fun H locs hW hS => ?_)
        rw [← e132] at hW
        refine lv_aload_n X.hx X.hb dX0_look_135 rfl (lv_at hl 1 rfl) ?_
        refine lv_iload X.hx X.hb dX0_look_136 (lv_at hl 0 rfl) ?_
        refine lv_iload_n X.hx X.hb dX0_look_138 rfl (lv_at hl 3 rfl) ?_
        obtain ⟨b139, h139, hf⟩ := bnd hf
        refine cl_v (run_V (As := [.int b111, .int x2]) (rest := []) X (w_X0_addRows l V A ad h139) mw_X0_addRows ln_X0_38 (rcX0 X hW) hW hS rfl hl.1 rfl (Nat.le_of_ble_eq_true rfl) ⟨Nat.le_of_ble_eq_true rfl, Nat.le_of_ble_eq_true rfl⟩ ⟨Nat.le_refl _, Nat.le_refl _⟩ dX0_look_139) hS (fun H locs hW hS => ?_)
        exact f_X0_look_J142_w X hr hlk hr99 _ _ _ _ _ _ _ _ _ hx1 hf hW hS (lv_sub hl [1, 2, 3, 4, 5, 6] rfl)
noncomputable def f_X0_look_J83 (st : St) (x1 : Nat) (x2 : Int32) (x3 : Int32) (x4 : Int32) : Option St := lt (sI st 12 0) fun s85 => (f_J7_fill_53178 s85 18 4 0).bind fun b93 => f_X0_look_L99 FU b93 x1 x2 x3 x4 0
theorem f_X0_look_J83_l {res : St} (st : St) (x1 : Nat) (x2 : Int32) (x3 : Int32) (x4 : Int32) (hf : f_X0_look_J83 st x1 x2 x3 x4 = some res) : phi res = phi st := by
  unfold f_X0_look_J83 at hf
  obtain ⟨s85, e85, hf⟩ := lt_e hf
  have p85 : phi s85 = phi st := by rw [e85]; rfl
  obtain ⟨b93, h93, hf⟩ := bnd hf
  have p93 := l_J7_fill_53178 h93
  have q9 := f_X0_look_L99_l  FU _ _ _ _ _ _ hf
  omega
set_option maxRecDepth 100000 in
theorem f_X0_look_J83_w {res : St} (X : Cx V A cX0_look 7 RX0 p m c s args) (hr : meth.sig.returnType = none) (hlk : meth.locks = false)  (st : St) (x1 : Nat) (x2 : Int32) (x3 : Int32) (x4 : Int32) (H : Heap) (locs : List Loc) (ls : Array Slot) (hx1 : x1 < 3) (hf : f_X0_look_J83 st x1 x2 x3 x4 = some res) (hW : (WdC V ad A) st H) (hS : va_S A s.heap H locs) (hl : lv_has ls 7 [(0, .ref (ad 6)), (1, .ref (ad (7 + x1))), (2, .int x2), (3, .int x3), (4, .int x4)]) : W p l e (rmF 2 45 0 0) s m args below meth c H locs 0 0 (MQ below (Qwv A (WdC V ad A) res) args s 0 0 A) (F0 m 83 ls []) := by
  
  unfold f_X0_look_J83 at hf
  refine lv_aload_n X.hx X.hb dX0_look_83 rfl (lv_at hl 0 rfl) ?_
  refine lv_iconst (v := 0) X.hx X.hb dX0_look_84 (by decide) ?_
  obtain ⟨s85, e85, hf⟩ := lt_e hf
  refine pX0_fits X hW hS dX0_look_85 (fun H locs hW hS => ?_)
  rw [← e85] at hW
  refine lv_aload_n X.hx X.hb dX0_look_88 rfl (lv_at hl 0 rfl) ?_
  refine gX0_sets X hW dX0_look_89 ?_
  refine lv_iconst (v := 0) X.hx X.hb dX0_look_92 (by decide) ?_
  obtain ⟨b93, h93, hf⟩ := bnd hf
  refine cl_v (run_S (As := [.ref (ad 18), .int 0]) (rest := []) X (w_J7_fill_53178 l V A ad isA_18 (fun _ => rfl) h93) mw_J7_fill_53178 ln_X0_22 hW hS rfl hl.1 rfl (Nat.le_of_ble_eq_true rfl) ⟨Nat.le_of_ble_eq_true rfl, Nat.le_of_ble_eq_true rfl⟩ ⟨Nat.le_refl _, Nat.le_refl _⟩ dX0_look_93) hS (fun H locs hW hS => ?_)
  refine lv_iconst (v := 0) X.hx X.hb dX0_look_96 (by decide) ?_
  refine lv_istore (lv' := [(5, .int 0), (0, .ref (ad 6)), (1, .ref (ad (7 + x1))), (2, .int x2), (3, .int x3), (4, .int x4)]) X.hx X.hb dX0_look_97 hl (by decide) rfl (fun ls hl => ?_)
  exact f_X0_look_L99_w X hr hlk FU _ _ _ _ _ _ _ _ _ hx1 hf hW hS (lv_sub hl [1, 2, 3, 4, 5, 0] rfl)
noncomputable def f_X0_look_L8 : Nat → St → Nat → Int32 → Int32 → Int32 → Int32 → Option St
  | 0, _, _, _, _, _, _ => none
  | fu + 1, st, x1, x2, x3, x4, x5 => if x2 ≤ x5 then f_X0_look_J83 st x1 x2 x3 x4 else if 4 ≤ x5 then f_X0_look_J83 st x1 x2 x3 x4 else if inb x5 4 = true then if (st.2.1 17 x5.toNatClampNeg) = (-1) then f_X0_look_J36 ((f_X0_look_L8 fu)) st x1 x2 x3 x4 x5 1 else f_X0_look_J36 ((f_X0_look_L8 fu)) st x1 x2 x3 x4 x5 0 else none
theorem f_X0_look_L8_l {res : St} : ∀ (n9 : Nat) (st : St) (x1 : Nat) (x2 : Int32) (x3 : Int32) (x4 : Int32) (x5 : Int32), f_X0_look_L8 n9 st x1 x2 x3 x4 x5 = some res → phi res = phi st := by
  intro n9
  induction n9 with
  | zero =>
    intro st x1 x2 x3 x4 x5 hf
    exact absurd hf (by unfold f_X0_look_L8; exact fun h => by cases h)
  | succ n9 hq8 =>
    intro st x1 x2 x3 x4 x5 hf
    unfold f_X0_look_L8 at hf
    by_cases c11 : x2 ≤ x5
    · replace hf := ite_t c11 hf
      have q9 := f_X0_look_J83_l  _ _ _ _ _ hf
      omega
    · replace hf := ite_f c11 hf
      by_cases c17 : 4 ≤ x5
      · replace hf := ite_t c17 hf
        have q9 := f_X0_look_J83_l  _ _ _ _ _ hf
        omega
      · replace hf := ite_f c17 hf
        obtain ⟨h26, hf⟩ := ite_n hf
        by_cases c28 : (st.2.1 17 x5.toNatClampNeg) = (-1)
        · replace hf := ite_t c28 hf
          have q9 := f_X0_look_J36_l hq8 _ _ _ _ _ _ _ hf
          omega
        · replace hf := ite_f c28 hf
          have q9 := f_X0_look_J36_l hq8 _ _ _ _ _ _ _ hf
          omega
set_option maxRecDepth 100000 in
theorem f_X0_look_L8_w {res : St} (X : Cx V A cX0_look 7 RX0 p m c s args) (hr : meth.sig.returnType = none) (hlk : meth.locks = false)  : ∀ (n9 : Nat) (st : St) (x1 : Nat) (x2 : Int32) (x3 : Int32) (x4 : Int32) (x5 : Int32) (H : Heap) (locs : List Loc) (ls : Array Slot), x1 < 3 → f_X0_look_L8 n9 st x1 x2 x3 x4 x5 = some res → (WdC V ad A) st H → va_S A s.heap H locs → lv_has ls 7 [(0, .ref (ad 6)), (1, .ref (ad (7 + x1))), (2, .int x2), (3, .int x3), (4, .int x4), (5, .int x5)] → W p l e (rmF 2 45 0 0) s m args below meth c H locs 0 0 (MQ below (Qwv A (WdC V ad A) res) args s 0 0 A) (F0 m 8 ls []) := by
  intro n9
  induction n9 with
  | zero =>
    intro st x1 x2 x3 x4 x5 H locs ls hx1 hf
    exact absurd hf (by unfold f_X0_look_L8; exact fun h => by cases h)
  | succ n9 hr8 =>
    intro st x1 x2 x3 x4 x5 H locs ls hx1 hf hW hS hl
    
    unfold f_X0_look_L8 at hf
    refine lv_iload X.hx X.hb dX0_look_8 (lv_at hl 5 rfl) ?_
    refine lv_iload_n X.hx X.hb dX0_look_10 rfl (lv_at hl 2 rfl) ?_
    refine lv_icmp_ge (tgt := 83) X.hx X.hb dX0_look_11 (by decide) (fun c11 => ?_) (fun c11 => ?_)
    · replace hf := ite_t c11 hf
      exact f_X0_look_J83_w X hr hlk _ _ _ _ _ _ _ _ hx1 hf hW hS (lv_sub hl [0, 1, 2, 3, 4] rfl)
    · replace hf := ite_f c11 hf
      refine lv_iload X.hx X.hb dX0_look_14 (lv_at hl 5 rfl) ?_
      refine lv_iconst (v := 4) X.hx X.hb dX0_look_16 (by decide) ?_
      refine lv_icmp_ge (tgt := 83) X.hx X.hb dX0_look_17 (by decide) (fun c17 => ?_) (fun c17 => ?_)
      · replace hf := ite_t c17 hf
        exact f_X0_look_J83_w X hr hlk _ _ _ _ _ _ _ _ hx1 hf hW hS (lv_sub hl [0, 1, 2, 3, 4] rfl)
      · replace hf := ite_f c17 hf
        refine lv_aload_n X.hx X.hb dX0_look_20 rfl (lv_at hl 0 rfl) ?_
        refine gX0_placed X hW dX0_look_21 ?_
        refine lv_iload X.hx X.hb dX0_look_24 (lv_at hl 5 rfl) ?_
        obtain ⟨h26, hf⟩ := ite_n hf
        refine aC_ld X hW isA_17 rfl h26 dX0_look_26 ?_
        refine lv_iconst (v := (-1)) X.hx X.hb dX0_look_27 (by decide) ?_
        refine lv_icmp_ne (tgt := 35) X.hx X.hb dX0_look_28 (by decide) (fun c28 => ?_) (fun c28 => ?_)
        · replace hf := ite_f c28 hf
          refine lv_iconst (v := 0) X.hx X.hb dX0_look_35 (by decide) ?_
          exact f_X0_look_J36_w X hr hlk hr8 _ _ _ _ _ _ _ _ _ _ hx1 hf hW hS (lv_sub hl [0, 1, 2, 3, 4, 5] rfl)
        · replace hf := ite_t c28 hf
          refine lv_iconst (v := 1) X.hx X.hb dX0_look_31 (by decide) ?_
          refine lv_goto (tgt := 36) X.hx X.hb dX0_look_32 (by decide) ?_
          exact f_X0_look_J36_w X hr hlk hr8 _ _ _ _ _ _ _ _ _ _ hx1 hf hW hS (lv_sub hl [0, 1, 2, 3, 4, 5] rfl)
noncomputable def f_X0_look (st : St) (a1 : Nat) (a2 : Int32) : Option St := f_X0_look_L8 FU st a1 a2 0 0 0
theorem l_X0_look {st : St} {a1 : Nat} {a2 : Int32} {res : St} (hf : f_X0_look st a1 a2 = some res) : phi res = phi st := by
  unfold f_X0_look at hf
  have q9 := f_X0_look_L8_l  FU _ _ _ _ _ _ hf
  omega
set_option maxRecDepth 100000 in
theorem w_X0_look (l : Launch) (V : Ev) (A : Nat → Prop) (ad : Nat → Nat) {st : St} {a1 : Nat} {a2 : Int32} {res : St} (ha1 : a1 < 3) (hf : f_X0_look st a1 a2 = some res) : Cn l yX0_look cX0_look 7 none 2 45 0 0 V A (WdC V ad A) st [.ref (ad 6), .ref (ad (7 + a1)), .int a2] (Qwv A (WdC V ad A) res) := by
  refine cn_of RX0 (by decide) rfl (fun p e s m below meth c ls X hr hlk hW hS hl => ?_) (Nat.le_of_ble_eq_true rfl)
  have hl : lv_has ls 7 [(0, .ref (ad 6)), (1, .ref (ad (7 + a1))), (2, .int a2)] := hl
  unfold f_X0_look at hf
  refine lv_iconst (v := 0) X.hx X.hb dX0_look_0 (by decide) ?_
  refine lv_istore_n (lv' := [(3, .int 0), (0, .ref (ad 6)), (1, .ref (ad (7 + a1))), (2, .int a2)]) X.hx X.hb dX0_look_1 rfl hl (by decide) rfl (fun ls hl => ?_)
  refine lv_iconst (v := 0) X.hx X.hb dX0_look_2 (by decide) ?_
  refine lv_istore (lv' := [(4, .int 0), (3, .int 0), (0, .ref (ad 6)), (1, .ref (ad (7 + a1))), (2, .int a2)]) X.hx X.hb dX0_look_3 hl (by decide) rfl (fun ls hl => ?_)
  refine lv_iconst (v := 0) X.hx X.hb dX0_look_5 (by decide) ?_
  refine lv_istore (lv' := [(5, .int 0), (4, .int 0), (3, .int 0), (0, .ref (ad 6)), (1, .ref (ad (7 + a1))), (2, .int a2)]) X.hx X.hb dX0_look_6 hl (by decide) rfl (fun ls hl => ?_)
  exact f_X0_look_L8_w X hr hlk FU _ _ _ _ _ _ _ _ _ ha1 hf hW hS (lv_sub hl [3, 4, 5, 2, 1, 0] rfl)
-- WordSquares$DeadEnds.size
noncomputable def f_X1_size (st : St) : Option Int32 := some (st.1 11)
set_option maxRecDepth 100000 in
theorem w_X1_size (l : Launch) (V : Ev) (A : Nat → Prop) (ad : Nat → Nat) {st : St} {res : Int32} (hf : f_X1_size st = some res) : Cn l yX1_size cX1_size 1 (some .int) 0 0 0 0 V A (WdC V ad A) st [.ref (ad 5)] (Qwi A (WdC V ad A) res st) := by
  refine cn_of RX1 (by decide) rfl (fun p e s m below meth c ls X hr hlk hW hS hl => ?_) (Nat.le_of_ble_eq_true rfl)
  have hl : lv_has ls 1 [(0, .ref (ad 5))] := hl
  unfold f_X1_size at hf
  refine lv_aload_n X.hx X.hb dX1_size_0 rfl (lv_at hl 0 rfl) ?_
  refine gX1_size X hW dX1_size_1 ?_
  exact rt_i X hr hlk hW hS (Option.some.inj hf) (Nat.le_refl _) (Nat.le_refl _) dX1_size_4
-- java/util/Arrays.fill
noncomputable def f_J7_fill_d0a16_L6 : Nat → St → Int64 → Int32 → Int32 → Option St
  | 0, _, _, _, _ => none
  | fu + 1, st, x1, x3, x4 => if x4 ≤ x3 then some st else if inb x3 1296 = true then lt (sJ st x3.toNatClampNeg x1) fun s15 => lt (x3 + 1) fun w16 => (f_J7_fill_d0a16_L6 fu) s15 x1 w16 x4 else none
theorem f_J7_fill_d0a16_L6_l {res : St} : ∀ (n9 : Nat) (st : St) (x1 : Int64) (x3 : Int32) (x4 : Int32), f_J7_fill_d0a16_L6 n9 st x1 x3 x4 = some res → phi res = phi st := by
  intro n9
  induction n9 with
  | zero =>
    intro st x1 x3 x4 hf
    exact absurd hf (by unfold f_J7_fill_d0a16_L6; exact fun h => by cases h)
  | succ n9 hq6 =>
    intro st x1 x3 x4 hf
    unfold f_J7_fill_d0a16_L6 at hf
    by_cases c9 : x4 ≤ x3
    · replace hf := ite_t c9 hf
      have q9 := congrArg phi (Option.some.inj hf)
      omega
    · replace hf := ite_f c9 hf
      obtain ⟨h15, hf⟩ := ite_n hf
      obtain ⟨s15, e15, hf⟩ := lt_e hf
      have p15 : phi s15 = phi st := by rw [e15]; rfl
      obtain ⟨w16, e16, hf⟩ := lt_e hf
      have q9 := hq6 _ _ _ _ hf
      omega
set_option maxRecDepth 100000 in
theorem f_J7_fill_d0a16_L6_w {res : St} (X : Cx V A cJ7_fill_d0a16 5 RJ7 p m c s args) (hr : meth.sig.returnType = none) (hlk : meth.locks = false)  : ∀ (n9 : Nat) (st : St) (x1 : Int64) (x3 : Int32) (x4 : Int32) (H : Heap) (locs : List Loc) (ls : Array Slot), f_J7_fill_d0a16_L6 n9 st x1 x3 x4 = some res → (WdC V ad A) st H → va_S A s.heap H locs → lv_has ls 5 [(0, .ref (ad 19)), (1, .long x1), (3, .int x3), (4, .int x4)] → W p l e (rmF 0 0 0 0) s m args below meth c H locs 0 0 (MQ below (Qwv A (WdC V ad A) res) args s 0 0 A) (F0 m 6 ls []) := by
  intro n9
  induction n9 with
  | zero =>
    intro st x1 x3 x4 H locs ls hf
    exact absurd hf (by unfold f_J7_fill_d0a16_L6; exact fun h => by cases h)
  | succ n9 hr6 =>
    intro st x1 x3 x4 H locs ls hf hW hS hl
    
    unfold f_J7_fill_d0a16_L6 at hf
    refine lv_iload_n X.hx X.hb dJ7_fill_d0a16_6 rfl (lv_at hl 2 rfl) ?_
    refine lv_iload X.hx X.hb dJ7_fill_d0a16_7 (lv_at hl 3 rfl) ?_
    refine lv_icmp_ge (tgt := 22) X.hx X.hb dJ7_fill_d0a16_9 (by decide) (fun c9 => ?_) (fun c9 => ?_)
    · replace hf := ite_t c9 hf
      exact rt_v X hr hlk (by rw [← Option.some.inj hf]; exact hW) hS (Nat.le_refl _) (Nat.le_refl _) dJ7_fill_d0a16_22
    · replace hf := ite_f c9 hf
      refine lv_aload_n X.hx X.hb dJ7_fill_d0a16_12 rfl (lv_at hl 0 rfl) ?_
      refine lv_iload_n X.hx X.hb dJ7_fill_d0a16_13 rfl (lv_at hl 2 rfl) ?_
      refine lv_lload_n X.hx X.hb dJ7_fill_d0a16_14 rfl (lv_at hl 1 rfl) ?_
      obtain ⟨h15, hf⟩ := ite_n hf
      obtain ⟨s15, e15, hf⟩ := lt_e hf
      refine jC_st X hW hS h15 dJ7_fill_d0a16_15 (fun H locs hW hS => ?_)
      rw [← e15] at hW
      obtain ⟨w16, e16, hf⟩ := lt_e hf
      refine lv_iinc (v := w16) (lv' := [(3, .int w16), (0, .ref (ad 19)), (1, .long x1), (4, .int x4)]) X.hx X.hb dJ7_fill_d0a16_16 hl (k := 2) rfl (by rw [e16]; rfl) (by decide) rfl (fun ls hl => ?_)
      refine lv_goto (tgt := 6) X.hx X.hb dJ7_fill_d0a16_19 (by decide) ?_
      exact hr6 _ _ _ _ _ _ _  hf hW hS (lv_sub hl [1, 2, 0, 3] rfl)
noncomputable def f_J7_fill_d0a16 (st : St) (a1 : Int64) : Option St := lt (nI 1296) fun w4 => f_J7_fill_d0a16_L6 FU st a1 0 w4
theorem l_J7_fill_d0a16 {st : St} {a1 : Int64} {res : St} (hf : f_J7_fill_d0a16 st a1 = some res) : phi res = phi st := by
  unfold f_J7_fill_d0a16 at hf
  obtain ⟨w4, e4, hf⟩ := lt_e hf
  have q9 := f_J7_fill_d0a16_L6_l  FU _ _ _ _ hf
  omega
set_option maxRecDepth 100000 in
theorem w_J7_fill_d0a16 (l : Launch) (V : Ev) (A : Nat → Prop) (ad : Nat → Nat) {st : St} {a1 : Int64} {res : St} (hf : f_J7_fill_d0a16 st a1 = some res) : Cn l yJ7_fill_d0a16 cJ7_fill_d0a16 5 none 0 0 0 0 V A (WdC V ad A) st [.ref (ad 19), .long a1] (Qwv A (WdC V ad A) res) := by
  refine cn_of RJ7 (by decide) rfl (fun p e s m below meth c ls X hr hlk hW hS hl => ?_) (Nat.le_of_ble_eq_true rfl)
  have hl : lv_has ls 5 [(0, .ref (ad 19)), (1, .long a1)] := hl
  unfold f_J7_fill_d0a16 at hf
  refine lv_iconst (v := 0) X.hx X.hb dJ7_fill_d0a16_0 (by decide) ?_
  refine lv_istore_n (lv' := [(3, .int 0), (0, .ref (ad 19)), (1, .long a1)]) X.hx X.hb dJ7_fill_d0a16_1 rfl hl (by decide) rfl (fun ls hl => ?_)
  refine lv_aload_n X.hx X.hb dJ7_fill_d0a16_2 rfl (lv_at hl 1 rfl) ?_
  refine aC_lenJ X hW dJ7_fill_d0a16_3 ?_
  obtain ⟨w4, e4, hf⟩ := lt_e hf
  refine lv_nm e4 ?_
  refine lv_istore (lv' := [(4, .int w4), (3, .int 0), (0, .ref (ad 19)), (1, .long a1)]) X.hx X.hb dJ7_fill_d0a16_4 hl (by decide) rfl (fun ls hl => ?_)
  exact f_J7_fill_d0a16_L6_w X hr hlk FU _ _ _ _ _ _ _  hf hW hS (lv_sub hl [2, 3, 1, 0] rfl)
-- WordSquares$DeadEnds.clear
noncomputable def f_X1_clear (st : St) : Option St := (f_J7_fill_d0a16 st 0).bind fun b5 => lt (sI b5 11 0) fun s10 => some s10
theorem l_X1_clear {st : St} {res : St} (hf : f_X1_clear st = some res) : phi res = phi st := by
  unfold f_X1_clear at hf
  obtain ⟨b5, h5, hf⟩ := bnd hf
  have p5 := l_J7_fill_d0a16 h5
  obtain ⟨s10, e10, hf⟩ := lt_e hf
  have p10 : phi s10 = phi b5 := by rw [e10]; rfl
  have q9 := congrArg phi (Option.some.inj hf)
  omega
set_option maxRecDepth 100000 in
theorem w_X1_clear (l : Launch) (V : Ev) (A : Nat → Prop) (ad : Nat → Nat) {st : St} {res : St} (hf : f_X1_clear st = some res) : Cn l yX1_clear cX1_clear 1 none 1 24 0 0 V A (WdC V ad A) st [.ref (ad 5)] (Qwv A (WdC V ad A) res) := by
  refine cn_of RX1 (by decide) rfl (fun p e s m below meth c ls X hr hlk hW hS hl => ?_) (Nat.le_of_ble_eq_true rfl)
  have hl : lv_has ls 1 [(0, .ref (ad 5))] := hl
  unfold f_X1_clear at hf
  refine lv_aload_n X.hx X.hb dX1_clear_0 rfl (lv_at hl 0 rfl) ?_
  refine gX1_seen X hW dX1_clear_1 ?_
  refine lv_lconst (v := 0) X.hx X.hb dX1_clear_4 (by decide) ?_
  obtain ⟨b5, h5, hf⟩ := bnd hf
  refine cl_v (run_S (As := [.ref (ad 19), .long 0]) (rest := []) X (w_J7_fill_d0a16 l V A ad h5) mw_J7_fill_d0a16 ln_X1_17 hW hS rfl hl.1 rfl (Nat.le_of_ble_eq_true rfl) ⟨Nat.le_of_ble_eq_true rfl, Nat.le_of_ble_eq_true rfl⟩ ⟨Nat.le_refl _, Nat.le_refl _⟩ dX1_clear_5) hS (fun H locs hW hS => ?_)
  refine lv_aload_n X.hx X.hb dX1_clear_8 rfl (lv_at hl 0 rfl) ?_
  refine lv_iconst (v := 0) X.hx X.hb dX1_clear_9 (by decide) ?_
  obtain ⟨s10, e10, hf⟩ := lt_e hf
  refine pX1_size X hW hS dX1_clear_10 (fun H locs hW hS => ?_)
  rw [← e10] at hW
  exact rt_v X hr hlk (by rw [← Option.some.inj hf]; exact hW) hS (Nat.le_refl _) (Nat.le_refl _) dX1_clear_13
-- WordSquares$DeadEnds.has
noncomputable def f_X1_has_J35 (st : St) : Option Int32 := some 0
set_option maxRecDepth 100000 in
theorem f_X1_has_J35_w {st : St} {res : Int32} (X : Cx V A cX1_has 2 RX1 p m c s args) (hr : meth.sig.returnType = (some .boolean)) (hlk : meth.locks = false)  (H : Heap) (locs : List Loc) (ls : Array Slot)  (hf : f_X1_has_J35 st  = some res) (hW : (WdC V ad A) st H) (hS : va_S A s.heap H locs) (hl : lv_has ls 2 []) : W p l e (rmF 0 0 0 0) s m args below meth c H locs 0 0 (MQ below (Qwi A (WdC V ad A) res st) args s 0 0 A) (F0 m 35 ls []) := by
  
  unfold f_X1_has_J35 at hf
  refine lv_iconst (v := 0) X.hx X.hb dX1_has_35 (by decide) ?_
  exact rt_z X hr hlk hW hS (Or.inl rfl) (Option.some.inj hf) (Nat.le_refl _) (Nat.le_refl _) dX1_has_36
noncomputable def f_X1_has (st : St) (a1 : Int32) : Option Int32 := if a1 < 0 then f_X1_has_J35 st else if 82944 ≤ a1 then f_X1_has_J35 st else if inb (a1 / 64) 1296 = true then if (lg_cmp ((((st.2.2.1 (a1 / 64).toNatClampNeg).toUInt64 >>> ((a1 - a1 / 64 * 64).toInt64.toUInt64 &&& Int64.toUInt64 63)).toInt64) &&& 1) 0) = 0 then f_X1_has_J35 st else some 1 else none
set_option maxRecDepth 100000 in
theorem w_X1_has (l : Launch) (V : Ev) (A : Nat → Prop) (ad : Nat → Nat) {st : St} {a1 : Int32} {res : Int32} (hf : f_X1_has st a1 = some res) : Cn l yX1_has cX1_has 2 (some .boolean) 0 0 0 0 V A (WdC V ad A) st [.ref (ad 5), .int a1] (Qwi A (WdC V ad A) res st) := by
  refine cn_of RX1 (by decide) rfl (fun p e s m below meth c ls X hr hlk hW hS hl => ?_) (Nat.le_of_ble_eq_true rfl)
  have hl : lv_has ls 2 [(0, .ref (ad 5)), (1, .int a1)] := hl
  unfold f_X1_has at hf
  refine lv_iload_n X.hx X.hb dX1_has_0 rfl (lv_at hl 1 rfl) ?_
  refine lv_if_lt (tgt := 35) X.hx X.hb dX1_has_1 (by decide) (fun c1 => ?_) (fun c1 => ?_)
  · replace hf := ite_t c1 hf
    exact f_X1_has_J35_w X hr hlk  _ _ _  hf hW hS (lv_sub hl [] rfl)
  · replace hf := ite_f c1 hf
    refine lv_iload_n X.hx X.hb dX1_has_4 rfl (lv_at hl 1 rfl) ?_
    refine lv_ldc (v := 82944) X.hx X.hb X.ho (X.ts kn_X1_23) dX1_has_5 ?_
    refine lv_icmp_ge (tgt := 35) X.hx X.hb dX1_has_7 (by decide) (fun c7 => ?_) (fun c7 => ?_)
    · replace hf := ite_t c7 hf
      exact f_X1_has_J35_w X hr hlk  _ _ _  hf hW hS (lv_sub hl [] rfl)
    · replace hf := ite_f c7 hf
      refine lv_aload_n X.hx X.hb dX1_has_10 rfl (lv_at hl 0 rfl) ?_
      refine gX1_seen X hW dX1_has_11 ?_
      refine lv_iload_n X.hx X.hb dX1_has_14 rfl (lv_at hl 1 rfl) ?_
      refine lv_bipush (v := 64) X.hx X.hb dX1_has_15 (by decide) ?_
      refine lv_idiv X.hx X.hb dX1_has_17 (by decide) ?_
      obtain ⟨h18, hf⟩ := ite_n hf
      refine jC_ld X hW h18 dX1_has_18 ?_
      refine lv_iload_n X.hx X.hb dX1_has_19 rfl (lv_at hl 1 rfl) ?_
      refine lv_bipush (v := 64) X.hx X.hb dX1_has_20 (by decide) ?_
      refine lv_irem X.hx X.hb dX1_has_22 (by decide) ?_
      refine lv_lushr X.hx X.hb dX1_has_23 rfl ?_
      refine lv_lconst (v := 1) X.hx X.hb dX1_has_24 (by decide) ?_
      refine lv_land X.hx X.hb dX1_has_25 ?_
      refine lv_lconst (v := 0) X.hx X.hb dX1_has_26 (by decide) ?_
      refine W.lcmp X.hx X.hb dX1_has_27 ?_
      refine lv_if_eq (tgt := 35) X.hx X.hb dX1_has_28 (by decide) (fun c28 => ?_) (fun c28 => ?_)
      · replace hf := ite_t c28 hf
        exact f_X1_has_J35_w X hr hlk  _ _ _  hf hW hS (lv_sub hl [] rfl)
      · replace hf := ite_f c28 hf
        refine lv_iconst (v := 1) X.hx X.hb dX1_has_31 (by decide) ?_
        refine lv_goto (tgt := 36) X.hx X.hb dX1_has_32 (by decide) ?_
        exact rt_z X hr hlk hW hS (Or.inr rfl) (Option.some.inj hf) (Nat.le_refl _) (Nat.le_refl _) dX1_has_36
-- WordSquares$DeadEnds.add
noncomputable def f_X1_add (st : St) (a1 : Int32) : Option St := if a1 < 0 then some st else if 82944 ≤ a1 then some st else (f_X1_has st a1).bind fun b12 => if b12 = 0 then if inb (a1 / 64) 1296 = true then if inb (a1 / 64) 1296 = true then lt (sJ st (a1 / 64).toNatClampNeg ((st.2.2.1 (a1 / 64).toNatClampNeg) ||| (1 <<< ((a1 - a1 / 64 * 64).toInt64 &&& 63)))) fun s35 => lt (sI s35 11 ((s35.1 11) + 1)) fun s43 => some s43 else none else none else some st
theorem l_X1_add {st : St} {a1 : Int32} {res : St} (hf : f_X1_add st a1 = some res) : phi res = phi st := by
  unfold f_X1_add at hf
  by_cases c1 : a1 < 0
  · replace hf := ite_t c1 hf
    have q9 := congrArg phi (Option.some.inj hf)
    omega
  · replace hf := ite_f c1 hf
    by_cases c7 : 82944 ≤ a1
    · replace hf := ite_t c7 hf
      have q9 := congrArg phi (Option.some.inj hf)
      omega
    · replace hf := ite_f c7 hf
      obtain ⟨b12, h12, hf⟩ := bnd hf
      by_cases c15 : b12 = 0
      · replace hf := ite_t c15 hf
        obtain ⟨h27, hf⟩ := ite_n hf
        obtain ⟨h35, hf⟩ := ite_n hf
        obtain ⟨s35, e35, hf⟩ := lt_e hf
        have p35 : phi s35 = phi st := by rw [e35]; rfl
        obtain ⟨s43, e43, hf⟩ := lt_e hf
        have p43 : phi s43 = phi s35 := by rw [e43]; rfl
        have q9 := congrArg phi (Option.some.inj hf)
        omega
      · replace hf := ite_f c15 hf
        have q9 := congrArg phi (Option.some.inj hf)
        omega
set_option maxRecDepth 100000 in
theorem w_X1_add (l : Launch) (V : Ev) (A : Nat → Prop) (ad : Nat → Nat) {st : St} {a1 : Int32} {res : St} (hf : f_X1_add st a1 = some res) : Cn l yX1_add cX1_add 2 none 1 21 0 0 V A (WdC V ad A) st [.ref (ad 5), .int a1] (Qwv A (WdC V ad A) res) := by
  refine cn_of RX1 (by decide) rfl (fun p e s m below meth c ls X hr hlk hW hS hl => ?_) (Nat.le_of_ble_eq_true rfl)
  have hl : lv_has ls 2 [(0, .ref (ad 5)), (1, .int a1)] := hl
  unfold f_X1_add at hf
  refine lv_iload_n X.hx X.hb dX1_add_0 rfl (lv_at hl 1 rfl) ?_
  refine lv_if_lt (tgt := 46) X.hx X.hb dX1_add_1 (by decide) (fun c1 => ?_) (fun c1 => ?_)
  · replace hf := ite_t c1 hf
    exact rt_v X hr hlk (by rw [← Option.some.inj hf]; exact hW) hS (Nat.le_refl _) (Nat.le_refl _) dX1_add_46
  · replace hf := ite_f c1 hf
    refine lv_iload_n X.hx X.hb dX1_add_4 rfl (lv_at hl 1 rfl) ?_
    refine lv_ldc (v := 82944) X.hx X.hb X.ho (X.ts kn_X1_23) dX1_add_5 ?_
    refine lv_icmp_ge (tgt := 46) X.hx X.hb dX1_add_7 (by decide) (fun c7 => ?_) (fun c7 => ?_)
    · replace hf := ite_t c7 hf
      exact rt_v X hr hlk (by rw [← Option.some.inj hf]; exact hW) hS (Nat.le_refl _) (Nat.le_refl _) dX1_add_46
    · replace hf := ite_f c7 hf
      refine lv_aload_n X.hx X.hb dX1_add_10 rfl (lv_at hl 0 rfl) ?_
      refine lv_iload_n X.hx X.hb dX1_add_11 rfl (lv_at hl 1 rfl) ?_
      obtain ⟨b12, h12, hf⟩ := bnd hf
      refine cl_i (run_V (As := [.int a1]) (rest := []) X (w_X1_has l V A ad h12) mw_X1_has ln_X1_24 (rcX1 X hW) hW hS rfl hl.1 rfl (Nat.le_of_ble_eq_true rfl) ⟨Nat.le_of_ble_eq_true rfl, Nat.le_of_ble_eq_true rfl⟩ ⟨Nat.le_refl _, Nat.le_refl _⟩ dX1_add_12) hS (fun H locs hW hS => ?_)
      refine lv_if_ne (tgt := 46) X.hx X.hb dX1_add_15 (by decide) (fun c15 => ?_) (fun c15 => ?_)
      · replace hf := ite_f c15 hf
        exact rt_v X hr hlk (by rw [← Option.some.inj hf]; exact hW) hS (Nat.le_refl _) (Nat.le_refl _) dX1_add_46
      · replace hf := ite_t c15 hf
        refine lv_aload_n X.hx X.hb dX1_add_18 rfl (lv_at hl 0 rfl) ?_
        refine gX1_seen X hW dX1_add_19 ?_
        refine lv_iload_n X.hx X.hb dX1_add_22 rfl (lv_at hl 1 rfl) ?_
        refine lv_bipush (v := 64) X.hx X.hb dX1_add_23 (by decide) ?_
        refine lv_idiv X.hx X.hb dX1_add_25 (by decide) ?_
        refine lv_dup2_11 X.hx X.hb dX1_add_26 rfl rfl ?_
        obtain ⟨h27, hf⟩ := ite_n hf
        refine jC_ld X hW h27 dX1_add_27 ?_
        refine lv_lconst (v := 1) X.hx X.hb dX1_add_28 (by decide) ?_
        refine lv_iload_n X.hx X.hb dX1_add_29 rfl (lv_at hl 1 rfl) ?_
        refine lv_bipush (v := 64) X.hx X.hb dX1_add_30 (by decide) ?_
        refine lv_irem X.hx X.hb dX1_add_32 (by decide) ?_
        refine lv_lshl X.hx X.hb dX1_add_33 rfl ?_
        refine lv_lor X.hx X.hb dX1_add_34 ?_
        obtain ⟨h35, hf⟩ := ite_n hf
        obtain ⟨s35, e35, hf⟩ := lt_e hf
        refine jC_st X hW hS h35 dX1_add_35 (fun H locs hW hS => ?_)
        rw [← e35] at hW
        refine lv_aload_n X.hx X.hb dX1_add_36 rfl (lv_at hl 0 rfl) ?_
        refine lv_dup X.hx X.hb dX1_add_37 rfl ?_
        refine gX1_size X hW dX1_add_38 ?_
        refine lv_iconst (v := 1) X.hx X.hb dX1_add_41 (by decide) ?_
        refine lv_iadd X.hx X.hb dX1_add_42 ?_
        obtain ⟨s43, e43, hf⟩ := lt_e hf
        refine pX1_size X hW hS dX1_add_43 (fun H locs hW hS => ?_)
        rw [← e43] at hW
        exact rt_v X hr hlk (by rw [← Option.some.inj hf]; exact hW) hS (Nat.le_refl _) (Nat.le_refl _) dX1_add_46
-- WordSquares$Finder.ofKind
noncomputable def f_X2_ofKind (st : St) (a1 : Int32) : Option Nat := if a1 = 1 then some 1 else if a1 = 2 then some 2 else some 0
set_option maxRecDepth 100000 in
theorem w_X2_ofKind (l : Launch) (V : Ev) (A : Nat → Prop) (ad : Nat → Nat) {st : St} {a1 : Int32} {res : Nat} (hf : f_X2_ofKind st a1 = some res) : Cn l yX2_ofKind cX2_ofKind 2 (some (.object "WordSquares$SquareList")) 0 0 0 0 V A (WdC V ad A) st [.ref (ad 3), .int a1] (Qwr A (WdC V ad A) (ad (7 + res)) st) := by
  refine cn_of RX2 (by decide) rfl (fun p e s m below meth c ls X hr hlk hW hS hl => ?_) (Nat.le_of_ble_eq_true rfl)
  have hl : lv_has ls 2 [(0, .ref (ad 3)), (1, .int a1)] := hl
  unfold f_X2_ofKind at hf
  refine lv_iload_n X.hx X.hb dX2_ofKind_0 rfl (lv_at hl 1 rfl) ?_
  by_cases c1_1 : a1 = 1
  · replace hf := ite_t c1_1 hf
    refine lv_lookup (tgt := 28) X.hx X.hb dX2_ofKind_1 (by decide) (by first | (rw [c1_1]; done) | (rw [c1_1]; rfl)) (by decide) ?_
    refine lv_aload_n X.hx X.hb dX2_ofKind_28 rfl (lv_at hl 0 rfl) ?_
    refine gX2_symmetric X hW dX2_ofKind_29 ?_
    exact rt_r X hr hlk hW hS (by have q9 := Option.some.inj hf; subst q9; rfl) (Nat.le_refl _) (Nat.le_refl _) dX2_ofKind_32
  replace hf := ite_f c1_1 hf
  by_cases c1_2 : a1 = 2
  · replace hf := ite_t c1_2 hf
    refine lv_lookup (tgt := 33) X.hx X.hb dX2_ofKind_1 (by decide) (by first | (rw [c1_2]; done) | (rw [c1_2]; rfl)) (by decide) ?_
    refine lv_aload_n X.hx X.hb dX2_ofKind_33 rfl (lv_at hl 0 rfl) ?_
    refine gX2_different X hW dX2_ofKind_34 ?_
    exact rt_r X hr hlk hW hS (by have q9 := Option.some.inj hf; subst q9; rfl) (Nat.le_refl _) (Nat.le_refl _) dX2_ofKind_37
  replace hf := ite_f c1_2 hf
  refine lv_lookup (off := 37) (tgt := 38) X.hx X.hb dX2_ofKind_1 (by decide) (by show Op.lookupswitch.offset [(1, 27), (2, 32)] 37 _ = _; rw [lv_osw c1_1 (by decide), lv_osw c1_2 (by decide)]; first | done | rfl) (by decide) ?_
  refine lv_aload_n X.hx X.hb dX2_ofKind_38 rfl (lv_at hl 0 rfl) ?_
  refine gX2_all X hW dX2_ofKind_39 ?_
  exact rt_r X hr hlk hW hS (by have q9 := Option.some.inj hf; subst q9; rfl) (Nat.le_refl _) (Nat.le_refl _) dX2_ofKind_42
theorem X2_ofKind_lt {st : St} {a1 : Int32} {k : Nat} (h : f_X2_ofKind st a1 = some k) : k < 3 := by
  unfold f_X2_ofKind at h
  by_cases h1 : a1 = 1
  · rw [if_pos h1] at h; cases h; decide
  · rw [if_neg h1] at h
    by_cases h2 : a1 = 2
    · rw [if_pos h2] at h; cases h; decide
    · rw [if_neg h2] at h; cases h; decide
-- WordSquares$Finder.timesInRows
noncomputable def f_X2_timesInRows (st : St) (a1 : Int32) : Option Int32 := if inb (a1 &&& 15) 16 = true then some (st.2.1 14 (a1 &&& 15).toNatClampNeg) else none
set_option maxRecDepth 100000 in
theorem w_X2_timesInRows (l : Launch) (V : Ev) (A : Nat → Prop) (ad : Nat → Nat) {st : St} {a1 : Int32} {res : Int32} (hf : f_X2_timesInRows st a1 = some res) : Cn l yX2_timesInRows cX2_timesInRows 2 (some .int) 0 0 0 0 V A (WdC V ad A) st [.ref (ad 3), .int a1] (Qwi A (WdC V ad A) res st) := by
  refine cn_of RX2 (by decide) rfl (fun p e s m below meth c ls X hr hlk hW hS hl => ?_) (Nat.le_of_ble_eq_true rfl)
  have hl : lv_has ls 2 [(0, .ref (ad 3)), (1, .int a1)] := hl
  unfold f_X2_timesInRows at hf
  refine lv_aload_n X.hx X.hb dX2_timesInRows_0 rfl (lv_at hl 0 rfl) ?_
  refine gX2_inRows X hW dX2_timesInRows_1 ?_
  refine lv_iload_n X.hx X.hb dX2_timesInRows_4 rfl (lv_at hl 1 rfl) ?_
  refine lv_bipush (v := 15) X.hx X.hb dX2_timesInRows_5 (by decide) ?_
  refine lv_iand X.hx X.hb dX2_timesInRows_7 ?_
  obtain ⟨h8, hf⟩ := ite_n hf
  refine aC_ld X hW isA_14 rfl h8 dX2_timesInRows_8 ?_
  exact rt_i X hr hlk hW hS (Option.some.inj hf) (Nat.le_refl _) (Nat.le_refl _) dX2_timesInRows_9
-- WordSquares$Finder.timesInColumns
noncomputable def f_X2_timesInColumns (st : St) (a1 : Int32) : Option Int32 := if inb (a1 &&& 15) 16 = true then some (st.2.1 15 (a1 &&& 15).toNatClampNeg) else none
set_option maxRecDepth 100000 in
theorem w_X2_timesInColumns (l : Launch) (V : Ev) (A : Nat → Prop) (ad : Nat → Nat) {st : St} {a1 : Int32} {res : Int32} (hf : f_X2_timesInColumns st a1 = some res) : Cn l yX2_timesInColumns cX2_timesInColumns 2 (some .int) 0 0 0 0 V A (WdC V ad A) st [.ref (ad 3), .int a1] (Qwi A (WdC V ad A) res st) := by
  refine cn_of RX2 (by decide) rfl (fun p e s m below meth c ls X hr hlk hW hS hl => ?_) (Nat.le_of_ble_eq_true rfl)
  have hl : lv_has ls 2 [(0, .ref (ad 3)), (1, .int a1)] := hl
  unfold f_X2_timesInColumns at hf
  refine lv_aload_n X.hx X.hb dX2_timesInColumns_0 rfl (lv_at hl 0 rfl) ?_
  refine gX2_inColumns X hW dX2_timesInColumns_1 ?_
  refine lv_iload_n X.hx X.hb dX2_timesInColumns_4 rfl (lv_at hl 1 rfl) ?_
  refine lv_bipush (v := 15) X.hx X.hb dX2_timesInColumns_5 (by decide) ?_
  refine lv_iand X.hx X.hb dX2_timesInColumns_7 ?_
  obtain ⟨h8, hf⟩ := ite_n hf
  refine aC_ld X hW isA_15 rfl h8 dX2_timesInColumns_8 ?_
  exact rt_i X hr hlk hW hS (Option.some.inj hf) (Nat.le_refl _) (Nat.le_refl _) dX2_timesInColumns_9
-- WordSquares$Finder.timesInSymmetric
noncomputable def f_X2_timesInSymmetric (st : St) (a1 : Int32) : Option Int32 := if inb (a1 &&& 15) 16 = true then some (st.2.1 16 (a1 &&& 15).toNatClampNeg) else none
set_option maxRecDepth 100000 in
theorem w_X2_timesInSymmetric (l : Launch) (V : Ev) (A : Nat → Prop) (ad : Nat → Nat) {st : St} {a1 : Int32} {res : Int32} (hf : f_X2_timesInSymmetric st a1 = some res) : Cn l yX2_timesInSymmetric cX2_timesInSymmetric 2 (some .int) 0 0 0 0 V A (WdC V ad A) st [.ref (ad 3), .int a1] (Qwi A (WdC V ad A) res st) := by
  refine cn_of RX2 (by decide) rfl (fun p e s m below meth c ls X hr hlk hW hS hl => ?_) (Nat.le_of_ble_eq_true rfl)
  have hl : lv_has ls 2 [(0, .ref (ad 3)), (1, .int a1)] := hl
  unfold f_X2_timesInSymmetric at hf
  refine lv_aload_n X.hx X.hb dX2_timesInSymmetric_0 rfl (lv_at hl 0 rfl) ?_
  refine gX2_inSymmetric X hW dX2_timesInSymmetric_1 ?_
  refine lv_iload_n X.hx X.hb dX2_timesInSymmetric_4 rfl (lv_at hl 1 rfl) ?_
  refine lv_bipush (v := 15) X.hx X.hb dX2_timesInSymmetric_5 (by decide) ?_
  refine lv_iand X.hx X.hb dX2_timesInSymmetric_7 ?_
  obtain ⟨h8, hf⟩ := ite_n hf
  refine aC_ld X hW isA_16 rfl h8 dX2_timesInSymmetric_8 ?_
  exact rt_i X hr hlk hW hS (Option.some.inj hf) (Nat.le_refl _) (Nat.le_refl _) dX2_timesInSymmetric_9
-- WordSquares$Finder.plainVisits
noncomputable def f_X2_plainVisits (st : St) : Option Int32 := some (st.1 7)
set_option maxRecDepth 100000 in
theorem w_X2_plainVisits (l : Launch) (V : Ev) (A : Nat → Prop) (ad : Nat → Nat) {st : St} {res : Int32} (hf : f_X2_plainVisits st = some res) : Cn l yX2_plainVisits cX2_plainVisits 1 (some .int) 0 0 0 0 V A (WdC V ad A) st [.ref (ad 3)] (Qwi A (WdC V ad A) res st) := by
  refine cn_of RX2 (by decide) rfl (fun p e s m below meth c ls X hr hlk hW hS hl => ?_) (Nat.le_of_ble_eq_true rfl)
  have hl : lv_has ls 1 [(0, .ref (ad 3))] := hl
  unfold f_X2_plainVisits at hf
  refine lv_aload_n X.hx X.hb dX2_plainVisits_0 rfl (lv_at hl 0 rfl) ?_
  refine gX2_visits X hW dX2_plainVisits_1 ?_
  exact rt_i X hr hlk hW hS (Option.some.inj hf) (Nat.le_refl _) (Nat.le_refl _) dX2_plainVisits_4
-- WordSquares$Finder.plainDead
noncomputable def f_X2_plainDead (st : St) : Option Int32 := some (st.1 8)
set_option maxRecDepth 100000 in
theorem w_X2_plainDead (l : Launch) (V : Ev) (A : Nat → Prop) (ad : Nat → Nat) {st : St} {res : Int32} (hf : f_X2_plainDead st = some res) : Cn l yX2_plainDead cX2_plainDead 1 (some .int) 0 0 0 0 V A (WdC V ad A) st [.ref (ad 3)] (Qwi A (WdC V ad A) res st) := by
  refine cn_of RX2 (by decide) rfl (fun p e s m below meth c ls X hr hlk hW hS hl => ?_) (Nat.le_of_ble_eq_true rfl)
  have hl : lv_has ls 1 [(0, .ref (ad 3))] := hl
  unfold f_X2_plainDead at hf
  refine lv_aload_n X.hx X.hb dX2_plainDead_0 rfl (lv_at hl 0 rfl) ?_
  refine gX2_dead X hW dX2_plainDead_1 ?_
  exact rt_i X hr hlk hW hS (Option.some.inj hf) (Nat.le_refl _) (Nat.le_refl _) dX2_plainDead_4
-- WordSquares$Finder.memoryVisits
noncomputable def f_X2_memoryVisits (st : St) : Option Int32 := some (st.1 9)
set_option maxRecDepth 100000 in
theorem w_X2_memoryVisits (l : Launch) (V : Ev) (A : Nat → Prop) (ad : Nat → Nat) {st : St} {res : Int32} (hf : f_X2_memoryVisits st = some res) : Cn l yX2_memoryVisits cX2_memoryVisits 1 (some .int) 0 0 0 0 V A (WdC V ad A) st [.ref (ad 3)] (Qwi A (WdC V ad A) res st) := by
  refine cn_of RX2 (by decide) rfl (fun p e s m below meth c ls X hr hlk hW hS hl => ?_) (Nat.le_of_ble_eq_true rfl)
  have hl : lv_has ls 1 [(0, .ref (ad 3))] := hl
  unfold f_X2_memoryVisits at hf
  refine lv_aload_n X.hx X.hb dX2_memoryVisits_0 rfl (lv_at hl 0 rfl) ?_
  refine gX2_visitsWithMemory X hW dX2_memoryVisits_1 ?_
  exact rt_i X hr hlk hW hS (Option.some.inj hf) (Nat.le_refl _) (Nat.le_refl _) dX2_memoryVisits_4
-- WordSquares$Finder.memoryCuts
noncomputable def f_X2_memoryCuts (st : St) : Option Int32 := some (st.1 10)
set_option maxRecDepth 100000 in
theorem w_X2_memoryCuts (l : Launch) (V : Ev) (A : Nat → Prop) (ad : Nat → Nat) {st : St} {res : Int32} (hf : f_X2_memoryCuts st = some res) : Cn l yX2_memoryCuts cX2_memoryCuts 1 (some .int) 0 0 0 0 V A (WdC V ad A) st [.ref (ad 3)] (Qwi A (WdC V ad A) res st) := by
  refine cn_of RX2 (by decide) rfl (fun p e s m below meth c ls X hr hlk hW hS hl => ?_) (Nat.le_of_ble_eq_true rfl)
  have hl : lv_has ls 1 [(0, .ref (ad 3))] := hl
  unfold f_X2_memoryCuts at hf
  refine lv_aload_n X.hx X.hb dX2_memoryCuts_0 rfl (lv_at hl 0 rfl) ?_
  refine gX2_cuts X hW dX2_memoryCuts_1 ?_
  exact rt_i X hr hlk hW hS (Option.some.inj hf) (Nat.le_refl _) (Nat.le_refl _) dX2_memoryCuts_4
-- WordSquares$Finder.memorySize
noncomputable def f_X2_memorySize (st : St) : Option Int32 := (f_X1_size st).bind fun b4 => some b4
set_option maxRecDepth 100000 in
theorem w_X2_memorySize (l : Launch) (V : Ev) (A : Nat → Prop) (ad : Nat → Nat) {st : St} {res : Int32} (hf : f_X2_memorySize st = some res) : Cn l yX2_memorySize cX2_memorySize 1 (some .int) 1 20 0 0 V A (WdC V ad A) st [.ref (ad 3)] (Qwi A (WdC V ad A) res st) := by
  refine cn_of RX2 (by decide) rfl (fun p e s m below meth c ls X hr hlk hW hS hl => ?_) (Nat.le_of_ble_eq_true rfl)
  have hl : lv_has ls 1 [(0, .ref (ad 3))] := hl
  unfold f_X2_memorySize at hf
  refine lv_aload_n X.hx X.hb dX2_memorySize_0 rfl (lv_at hl 0 rfl) ?_
  refine gX2_deadEnds X hW dX2_memorySize_1 ?_
  obtain ⟨b4, h4, hf⟩ := bnd hf
  refine cl_i (run_V (As := []) (rest := []) X (w_X1_size l V A ad h4) mw_X1_size ln_X2_67 (rcX1 X hW) hW hS rfl hl.1 rfl (Nat.le_of_ble_eq_true rfl) ⟨Nat.le_of_ble_eq_true rfl, Nat.le_of_ble_eq_true rfl⟩ ⟨Nat.le_refl _, Nat.le_refl _⟩ dX2_memorySize_4) hS (fun H locs hW hS => ?_)
  exact rt_i X hr hlk hW hS (Option.some.inj hf) (Nat.le_refl _) (Nat.le_refl _) dX2_memorySize_7
-- WordSquares$SquareList.clear
noncomputable def f_X4_clear (st : St) (k : Nat) : Option St := lt (sI st (13 + k) 0) fun s2 => some s2
theorem l_X4_clear {st : St} {k : Nat} {res : St} (hf : f_X4_clear st k = some res) : phi res = phi st := by
  unfold f_X4_clear at hf
  obtain ⟨s2, e2, hf⟩ := lt_e hf
  have p2 : phi s2 = phi st := by rw [e2]; rfl
  have q9 := congrArg phi (Option.some.inj hf)
  omega
set_option maxRecDepth 100000 in
theorem w_X4_clear (l : Launch) (V : Ev) (A : Nat → Prop) (ad : Nat → Nat) {st : St} {k : Nat} {res : St} (hk : k < 3) (hf : f_X4_clear st k = some res) : Cn l yX4_clear cX4_clear 1 none 0 0 0 0 V A (WdC V ad A) st [.ref (ad (7 + k))] (Qwv A (WdC V ad A) res) := by
  refine cn_of RX4 (by decide) rfl (fun p e s m below meth c ls X hr hlk hW hS hl => ?_) (Nat.le_of_ble_eq_true rfl)
  have hl : lv_has ls 1 [(0, .ref (ad (7 + k)))] := hl
  unfold f_X4_clear at hf
  refine lv_aload_n X.hx X.hb dX4_clear_0 rfl (lv_at hl 0 rfl) ?_
  refine lv_iconst (v := 0) X.hx X.hb dX4_clear_1 (by decide) ?_
  obtain ⟨s2, e2, hf⟩ := lt_e hf
  refine pX4_size X hk hW hS dX4_clear_2 (fun H locs hW hS => ?_)
  rw [← e2] at hW
  exact rt_v X hr hlk (by rw [← Option.some.inj hf]; exact hW) hS (Nat.le_refl _) (Nat.le_refl _) dX4_clear_5
-- WordSquares$Finder.clear
noncomputable def f_X2_clear (st : St) : Option St := (f_X1_clear st).bind fun b4 => (f_X4_clear b4 0).bind fun b11 => (f_X4_clear b11 1).bind fun b18 => (f_X4_clear b18 2).bind fun b25 => (f_J7_fill_53178 b25 14 16 0).bind fun b33 => (f_J7_fill_53178 b33 15 16 0).bind fun b41 => (f_J7_fill_53178 b41 16 16 0).bind fun b49 => lt (sI b49 7 0) fun s54 => lt (sI s54 8 0) fun s59 => lt (sI s59 9 0) fun s64 => lt (sI s64 10 0) fun s69 => some s69
theorem l_X2_clear {st : St} {res : St} (hf : f_X2_clear st = some res) : phi res = phi st := by
  unfold f_X2_clear at hf
  obtain ⟨b4, h4, hf⟩ := bnd hf
  have p4 := l_X1_clear h4
  obtain ⟨b11, h11, hf⟩ := bnd hf
  have p11 := l_X4_clear h11
  obtain ⟨b18, h18, hf⟩ := bnd hf
  have p18 := l_X4_clear h18
  obtain ⟨b25, h25, hf⟩ := bnd hf
  have p25 := l_X4_clear h25
  obtain ⟨b33, h33, hf⟩ := bnd hf
  have p33 := l_J7_fill_53178 h33
  obtain ⟨b41, h41, hf⟩ := bnd hf
  have p41 := l_J7_fill_53178 h41
  obtain ⟨b49, h49, hf⟩ := bnd hf
  have p49 := l_J7_fill_53178 h49
  obtain ⟨s54, e54, hf⟩ := lt_e hf
  have p54 : phi s54 = phi b49 := by rw [e54]; rfl
  obtain ⟨s59, e59, hf⟩ := lt_e hf
  have p59 : phi s59 = phi s54 := by rw [e59]; rfl
  obtain ⟨s64, e64, hf⟩ := lt_e hf
  have p64 : phi s64 = phi s59 := by rw [e64]; rfl
  obtain ⟨s69, e69, hf⟩ := lt_e hf
  have p69 : phi s69 = phi s64 := by rw [e69]; rfl
  have q9 := congrArg phi (Option.some.inj hf)
  omega
set_option maxRecDepth 100000 in
theorem w_X2_clear (l : Launch) (V : Ev) (A : Nat → Prop) (ad : Nat → Nat) {st : St} {res : St} (hf : f_X2_clear st = some res) : Cn l yX2_clear cX2_clear 1 none 2 44 0 0 V A (WdC V ad A) st [.ref (ad 3)] (Qwv A (WdC V ad A) res) := by
  refine cn_of RX2 (by decide) rfl (fun p e s m below meth c ls X hr hlk hW hS hl => ?_) (Nat.le_of_ble_eq_true rfl)
  have hl : lv_has ls 1 [(0, .ref (ad 3))] := hl
  unfold f_X2_clear at hf
  refine lv_aload_n X.hx X.hb dX2_clear_0 rfl (lv_at hl 0 rfl) ?_
  refine gX2_deadEnds X hW dX2_clear_1 ?_
  obtain ⟨b4, h4, hf⟩ := bnd hf
  refine cl_v (run_V (As := []) (rest := []) X (w_X1_clear l V A ad h4) mw_X1_clear ln_X2_88 (rcX1 X hW) hW hS rfl hl.1 rfl (Nat.le_of_ble_eq_true rfl) ⟨Nat.le_of_ble_eq_true rfl, Nat.le_of_ble_eq_true rfl⟩ ⟨Nat.le_refl _, Nat.le_refl _⟩ dX2_clear_4) hS (fun H locs hW hS => ?_)
  refine lv_aload_n X.hx X.hb dX2_clear_7 rfl (lv_at hl 0 rfl) ?_
  refine gX2_all X hW dX2_clear_8 ?_
  obtain ⟨b11, h11, hf⟩ := bnd hf
  refine cl_v (run_V (As := []) (rest := []) X (w_X4_clear l V A ad (by decide) h11) mw_X4_clear ln_X2_89 (rcX4 X (by decide) hW) hW hS rfl hl.1 rfl (Nat.le_of_ble_eq_true rfl) ⟨Nat.le_of_ble_eq_true rfl, Nat.le_of_ble_eq_true rfl⟩ ⟨Nat.le_refl _, Nat.le_refl _⟩ dX2_clear_11) hS (fun H locs hW hS => ?_)
  refine lv_aload_n X.hx X.hb dX2_clear_14 rfl (lv_at hl 0 rfl) ?_
  refine gX2_symmetric X hW dX2_clear_15 ?_
  obtain ⟨b18, h18, hf⟩ := bnd hf
  refine cl_v (run_V (As := []) (rest := []) X (w_X4_clear l V A ad (by decide) h18) mw_X4_clear ln_X2_89 (rcX4 X (by decide) hW) hW hS rfl hl.1 rfl (Nat.le_of_ble_eq_true rfl) ⟨Nat.le_of_ble_eq_true rfl, Nat.le_of_ble_eq_true rfl⟩ ⟨Nat.le_refl _, Nat.le_refl _⟩ dX2_clear_18) hS (fun H locs hW hS => ?_)
  refine lv_aload_n X.hx X.hb dX2_clear_21 rfl (lv_at hl 0 rfl) ?_
  refine gX2_different X hW dX2_clear_22 ?_
  obtain ⟨b25, h25, hf⟩ := bnd hf
  refine cl_v (run_V (As := []) (rest := []) X (w_X4_clear l V A ad (by decide) h25) mw_X4_clear ln_X2_89 (rcX4 X (by decide) hW) hW hS rfl hl.1 rfl (Nat.le_of_ble_eq_true rfl) ⟨Nat.le_of_ble_eq_true rfl, Nat.le_of_ble_eq_true rfl⟩ ⟨Nat.le_refl _, Nat.le_refl _⟩ dX2_clear_25) hS (fun H locs hW hS => ?_)
  refine lv_aload_n X.hx X.hb dX2_clear_28 rfl (lv_at hl 0 rfl) ?_
  refine gX2_inRows X hW dX2_clear_29 ?_
  refine lv_iconst (v := 0) X.hx X.hb dX2_clear_32 (by decide) ?_
  obtain ⟨b33, h33, hf⟩ := bnd hf
  refine cl_v (run_S (As := [.ref (ad 14), .int 0]) (rest := []) X (w_J7_fill_53178 l V A ad isA_14 (fun _ => rfl) h33) mw_J7_fill_53178 ln_X2_90 hW hS rfl hl.1 rfl (Nat.le_of_ble_eq_true rfl) ⟨Nat.le_of_ble_eq_true rfl, Nat.le_of_ble_eq_true rfl⟩ ⟨Nat.le_refl _, Nat.le_refl _⟩ dX2_clear_33) hS (fun H locs hW hS => ?_)
  refine lv_aload_n X.hx X.hb dX2_clear_36 rfl (lv_at hl 0 rfl) ?_
  refine gX2_inColumns X hW dX2_clear_37 ?_
  refine lv_iconst (v := 0) X.hx X.hb dX2_clear_40 (by decide) ?_
  obtain ⟨b41, h41, hf⟩ := bnd hf
  refine cl_v (run_S (As := [.ref (ad 15), .int 0]) (rest := []) X (w_J7_fill_53178 l V A ad isA_15 (fun _ => rfl) h41) mw_J7_fill_53178 ln_X2_90 hW hS rfl hl.1 rfl (Nat.le_of_ble_eq_true rfl) ⟨Nat.le_of_ble_eq_true rfl, Nat.le_of_ble_eq_true rfl⟩ ⟨Nat.le_refl _, Nat.le_refl _⟩ dX2_clear_41) hS (fun H locs hW hS => ?_)
  refine lv_aload_n X.hx X.hb dX2_clear_44 rfl (lv_at hl 0 rfl) ?_
  refine gX2_inSymmetric X hW dX2_clear_45 ?_
  refine lv_iconst (v := 0) X.hx X.hb dX2_clear_48 (by decide) ?_
  obtain ⟨b49, h49, hf⟩ := bnd hf
  refine cl_v (run_S (As := [.ref (ad 16), .int 0]) (rest := []) X (w_J7_fill_53178 l V A ad isA_16 (fun _ => rfl) h49) mw_J7_fill_53178 ln_X2_90 hW hS rfl hl.1 rfl (Nat.le_of_ble_eq_true rfl) ⟨Nat.le_of_ble_eq_true rfl, Nat.le_of_ble_eq_true rfl⟩ ⟨Nat.le_refl _, Nat.le_refl _⟩ dX2_clear_49) hS (fun H locs hW hS => ?_)
  refine lv_aload_n X.hx X.hb dX2_clear_52 rfl (lv_at hl 0 rfl) ?_
  refine lv_iconst (v := 0) X.hx X.hb dX2_clear_53 (by decide) ?_
  obtain ⟨s54, e54, hf⟩ := lt_e hf
  refine pX2_visits X hW hS dX2_clear_54 (fun H locs hW hS => ?_)
  rw [← e54] at hW
  refine lv_aload_n X.hx X.hb dX2_clear_57 rfl (lv_at hl 0 rfl) ?_
  refine lv_iconst (v := 0) X.hx X.hb dX2_clear_58 (by decide) ?_
  obtain ⟨s59, e59, hf⟩ := lt_e hf
  refine pX2_dead X hW hS dX2_clear_59 (fun H locs hW hS => ?_)
  rw [← e59] at hW
  refine lv_aload_n X.hx X.hb dX2_clear_62 rfl (lv_at hl 0 rfl) ?_
  refine lv_iconst (v := 0) X.hx X.hb dX2_clear_63 (by decide) ?_
  obtain ⟨s64, e64, hf⟩ := lt_e hf
  refine pX2_visitsWithMemory X hW hS dX2_clear_64 (fun H locs hW hS => ?_)
  rw [← e64] at hW
  refine lv_aload_n X.hx X.hb dX2_clear_67 rfl (lv_at hl 0 rfl) ?_
  refine lv_iconst (v := 0) X.hx X.hb dX2_clear_68 (by decide) ?_
  obtain ⟨s69, e69, hf⟩ := lt_e hf
  refine pX2_cuts X hW hS dX2_clear_69 (fun H locs hW hS => ?_)
  rw [← e69] at hW
  exact rt_v X hr hlk (by rw [← Option.some.inj hf]; exact hW) hS (Nat.le_refl _) (Nat.le_refl _) dX2_clear_72
-- WordSquares$WordList.size
noncomputable def f_X6_size (st : St) : Option Int32 := some (st.1 5)
set_option maxRecDepth 100000 in
theorem w_X6_size (l : Launch) (V : Ev) (A : Nat → Prop) (ad : Nat → Nat) {st : St} {res : Int32} (hf : f_X6_size st = some res) : Cn l yX6_size cX6_size 1 (some .int) 0 0 0 0 V A (WdC V ad A) st [.ref (ad 2)] (Qwi A (WdC V ad A) res st) := by
  refine cn_of RX6 (by decide) rfl (fun p e s m below meth c ls X hr hlk hW hS hl => ?_) (Nat.le_of_ble_eq_true rfl)
  have hl : lv_has ls 1 [(0, .ref (ad 2))] := hl
  unfold f_X6_size at hf
  refine lv_aload_n X.hx X.hb dX6_size_0 rfl (lv_at hl 0 rfl) ?_
  refine gX6_size X hW dX6_size_1 ?_
  exact rt_i X hr hlk hW hS (Option.some.inj hf) (Nat.le_refl _) (Nat.le_refl _) dX6_size_4
-- WordSquares$WordList.length
noncomputable def f_X6_length (st : St) : Option Int32 := some (st.1 6)
set_option maxRecDepth 100000 in
theorem w_X6_length (l : Launch) (V : Ev) (A : Nat → Prop) (ad : Nat → Nat) {st : St} {res : Int32} (hf : f_X6_length st = some res) : Cn l yX6_length cX6_length 1 (some .int) 0 0 0 0 V A (WdC V ad A) st [.ref (ad 2)] (Qwi A (WdC V ad A) res st) := by
  refine cn_of RX6 (by decide) rfl (fun p e s m below meth c ls X hr hlk hW hS hl => ?_) (Nat.le_of_ble_eq_true rfl)
  have hl : lv_has ls 1 [(0, .ref (ad 2))] := hl
  unfold f_X6_length at hf
  refine lv_aload_n X.hx X.hb dX6_length_0 rfl (lv_at hl 0 rfl) ?_
  refine gX6_length X hW dX6_length_1 ?_
  exact rt_i X hr hlk hW hS (Option.some.inj hf) (Nat.le_refl _) (Nat.le_refl _) dX6_length_4
-- WordSquares$WordList.samePrefix
noncomputable def f_X6_samePrefix (st : St) (a1 : Int32) (a2 : Int32) (a3 : Int32) : Option Int32 := if inb (a1 &&& 15) 16 = true then if inb (a2 &&& 15) 16 = true then lt ((st.2.1 12 (a1 &&& 15).toNatClampNeg) ^^^ (st.2.1 12 (a2 &&& 15).toNatClampNeg)) fun w19 => if (w19 >>> ((5 * ((st.1 6) - a3)) &&& 31)) = 0 then some 1 else some 0 else none else none
set_option maxRecDepth 100000 in
theorem w_X6_samePrefix (l : Launch) (V : Ev) (A : Nat → Prop) (ad : Nat → Nat) {st : St} {a1 : Int32} {a2 : Int32} {a3 : Int32} {res : Int32} (hf : f_X6_samePrefix st a1 a2 a3 = some res) : Cn l yX6_samePrefix cX6_samePrefix 5 (some .boolean) 0 0 0 0 V A (WdC V ad A) st [.ref (ad 2), .int a1, .int a2, .int a3] (Qwi A (WdC V ad A) res st) := by
  refine cn_of RX6 (by decide) rfl (fun p e s m below meth c ls X hr hlk hW hS hl => ?_) (Nat.le_of_ble_eq_true rfl)
  have hl : lv_has ls 5 [(0, .ref (ad 2)), (1, .int a1), (2, .int a2), (3, .int a3)] := hl
  unfold f_X6_samePrefix at hf
  refine lv_aload_n X.hx X.hb dX6_samePrefix_0 rfl (lv_at hl 0 rfl) ?_
  refine gX6_codes X hW dX6_samePrefix_1 ?_
  refine lv_iload_n X.hx X.hb dX6_samePrefix_4 rfl (lv_at hl 1 rfl) ?_
  refine lv_bipush (v := 15) X.hx X.hb dX6_samePrefix_5 (by decide) ?_
  refine lv_iand X.hx X.hb dX6_samePrefix_7 ?_
  obtain ⟨h8, hf⟩ := ite_n hf
  refine aC_ld X hW isA_12 rfl h8 dX6_samePrefix_8 ?_
  refine lv_aload_n X.hx X.hb dX6_samePrefix_9 rfl (lv_at hl 0 rfl) ?_
  refine gX6_codes X hW dX6_samePrefix_10 ?_
  refine lv_iload_n X.hx X.hb dX6_samePrefix_13 rfl (lv_at hl 2 rfl) ?_
  refine lv_bipush (v := 15) X.hx X.hb dX6_samePrefix_14 (by decide) ?_
  refine lv_iand X.hx X.hb dX6_samePrefix_16 ?_
  obtain ⟨h17, hf⟩ := ite_n hf
  refine aC_ld X hW isA_12 rfl h17 dX6_samePrefix_17 ?_
  refine lv_ixor X.hx X.hb dX6_samePrefix_18 ?_
  obtain ⟨w19, e19, hf⟩ := lt_e hf
  refine lv_nm e19 ?_
  refine lv_istore (lv' := [(4, .int w19), (0, .ref (ad 2)), (1, .int a1), (2, .int a2), (3, .int a3)]) X.hx X.hb dX6_samePrefix_19 hl (by decide) rfl (fun ls hl => ?_)
  refine lv_iload X.hx X.hb dX6_samePrefix_21 (lv_at hl 0 rfl) ?_
  refine lv_iconst (v := 5) X.hx X.hb dX6_samePrefix_23 (by decide) ?_
  refine lv_aload_n X.hx X.hb dX6_samePrefix_24 rfl (lv_at hl 1 rfl) ?_
  refine gX6_length X hW dX6_samePrefix_25 ?_
  refine lv_iload_n X.hx X.hb dX6_samePrefix_28 rfl (lv_at hl 4 rfl) ?_
  refine lv_isub X.hx X.hb dX6_samePrefix_29 ?_
  refine lv_imul X.hx X.hb dX6_samePrefix_30 ?_
  refine lv_ishr X.hx X.hb dX6_samePrefix_31 ?_
  refine lv_if_ne (tgt := 39) X.hx X.hb dX6_samePrefix_32 (by decide) (fun c32 => ?_) (fun c32 => ?_)
  · replace hf := ite_f c32 hf
    refine lv_iconst (v := 0) X.hx X.hb dX6_samePrefix_39 (by decide) ?_
    exact rt_z X hr hlk hW hS (Or.inl rfl) (Option.some.inj hf) (Nat.le_refl _) (Nat.le_refl _) dX6_samePrefix_40
  · replace hf := ite_t c32 hf
    refine lv_iconst (v := 1) X.hx X.hb dX6_samePrefix_35 (by decide) ?_
    refine lv_goto (tgt := 40) X.hx X.hb dX6_samePrefix_36 (by decide) ?_
    exact rt_z X hr hlk hW hS (Or.inr rfl) (Option.some.inj hf) (Nat.le_refl _) (Nat.le_refl _) dX6_samePrefix_40
-- WordSquares$Prefixes.isHead
noncomputable def f_X3_isHead_J19 (st : St) : Option Int32 := some 1
set_option maxRecDepth 100000 in
theorem f_X3_isHead_J19_w {st : St} {res : Int32} (X : Cx V A cX3_isHead 3 RX3 p m c s args) (hr : meth.sig.returnType = (some .boolean)) (hlk : meth.locks = false)  (H : Heap) (locs : List Loc) (ls : Array Slot)  (hf : f_X3_isHead_J19 st  = some res) (hW : (WdC V ad A) st H) (hS : va_S A s.heap H locs) (hl : lv_has ls 3 []) : W p l e (rmF 1 24 0 0) s m args below meth c H locs 0 0 (MQ below (Qwi A (WdC V ad A) res st) args s 0 0 A) (F0 m 19 ls []) := by
  
  unfold f_X3_isHead_J19 at hf
  refine lv_iconst (v := 1) X.hx X.hb dX3_isHead_19 (by decide) ?_
  refine lv_goto (tgt := 24) X.hx X.hb dX3_isHead_20 (by decide) ?_
  exact rt_z X hr hlk hW hS (Or.inr rfl) (Option.some.inj hf) (Nat.le_refl _) (Nat.le_refl _) dX3_isHead_24
noncomputable def f_X3_isHead (st : St) (a1 : Int32) (a2 : Int32) : Option Int32 := if a1 = 0 then f_X3_isHead_J19 st else (f_X6_samePrefix st (a1 - 1) a1 a2).bind fun b13 => if b13 = 0 then f_X3_isHead_J19 st else some 0
set_option maxRecDepth 100000 in
theorem w_X3_isHead (l : Launch) (V : Ev) (A : Nat → Prop) (ad : Nat → Nat) {st : St} {a1 : Int32} {a2 : Int32} {res : Int32} (hf : f_X3_isHead st a1 a2 = some res) : Cn l yX3_isHead cX3_isHead 3 (some .boolean) 1 24 0 0 V A (WdC V ad A) st [.ref (ad 4), .int a1, .int a2] (Qwi A (WdC V ad A) res st) := by
  refine cn_of RX3 (by decide) rfl (fun p e s m below meth c ls X hr hlk hW hS hl => ?_) (Nat.le_of_ble_eq_true rfl)
  have hl : lv_has ls 3 [(0, .ref (ad 4)), (1, .int a1), (2, .int a2)] := hl
  unfold f_X3_isHead at hf
  refine lv_iload_n X.hx X.hb dX3_isHead_0 rfl (lv_at hl 1 rfl) ?_
  refine lv_if_eq (tgt := 19) X.hx X.hb dX3_isHead_1 (by decide) (fun c1 => ?_) (fun c1 => ?_)
  · replace hf := ite_t c1 hf
    exact f_X3_isHead_J19_w X hr hlk  _ _ _  hf hW hS (lv_sub hl [] rfl)
  · replace hf := ite_f c1 hf
    refine lv_aload_n X.hx X.hb dX3_isHead_4 rfl (lv_at hl 0 rfl) ?_
    refine gX3_list X hW dX3_isHead_5 ?_
    refine lv_iload_n X.hx X.hb dX3_isHead_8 rfl (lv_at hl 1 rfl) ?_
    refine lv_iconst (v := 1) X.hx X.hb dX3_isHead_9 (by decide) ?_
    refine lv_isub X.hx X.hb dX3_isHead_10 ?_
    refine lv_iload_n X.hx X.hb dX3_isHead_11 rfl (lv_at hl 1 rfl) ?_
    refine lv_iload_n X.hx X.hb dX3_isHead_12 rfl (lv_at hl 2 rfl) ?_
    obtain ⟨b13, h13, hf⟩ := bnd hf
    refine cl_i (run_V (As := [.int (a1 - 1), .int a1, .int a2]) (rest := []) X (w_X6_samePrefix l V A ad h13) mw_X6_samePrefix ln_X3_51 (rcX6 X hW) hW hS rfl hl.1 rfl (Nat.le_of_ble_eq_true rfl) ⟨Nat.le_of_ble_eq_true rfl, Nat.le_of_ble_eq_true rfl⟩ ⟨Nat.le_refl _, Nat.le_refl _⟩ dX3_isHead_13) hS (fun H locs hW hS => ?_)
    refine lv_if_ne (tgt := 23) X.hx X.hb dX3_isHead_16 (by decide) (fun c16 => ?_) (fun c16 => ?_)
    · replace hf := ite_f c16 hf
      refine lv_iconst (v := 0) X.hx X.hb dX3_isHead_23 (by decide) ?_
      exact rt_z X hr hlk hW hS (Or.inl rfl) (Option.some.inj hf) (Nat.le_refl _) (Nat.le_refl _) dX3_isHead_24
    · replace hf := ite_t c16 hf
      exact f_X3_isHead_J19_w X hr hlk  _ _ _  hf hW hS (lv_sub hl [] rfl)
-- WordSquares$WordList.letterAt
noncomputable def f_X6_letterAt (st : St) (a1 : Int32) (a2 : Int32) : Option Int32 := if inb (a1 &&& 15) 16 = true then some (((st.2.1 12 (a1 &&& 15).toNatClampNeg) >>> ((5 * (((st.1 6) - 1) - a2)) &&& 31)) &&& 31) else none
set_option maxRecDepth 100000 in
theorem w_X6_letterAt (l : Launch) (V : Ev) (A : Nat → Prop) (ad : Nat → Nat) {st : St} {a1 : Int32} {a2 : Int32} {res : Int32} (hf : f_X6_letterAt st a1 a2 = some res) : Cn l yX6_letterAt cX6_letterAt 3 (some .int) 0 0 0 0 V A (WdC V ad A) st [.ref (ad 2), .int a1, .int a2] (Qwi A (WdC V ad A) res st) := by
  refine cn_of RX6 (by decide) rfl (fun p e s m below meth c ls X hr hlk hW hS hl => ?_) (Nat.le_of_ble_eq_true rfl)
  have hl : lv_has ls 3 [(0, .ref (ad 2)), (1, .int a1), (2, .int a2)] := hl
  unfold f_X6_letterAt at hf
  refine lv_aload_n X.hx X.hb dX6_letterAt_0 rfl (lv_at hl 0 rfl) ?_
  refine gX6_codes X hW dX6_letterAt_1 ?_
  refine lv_iload_n X.hx X.hb dX6_letterAt_4 rfl (lv_at hl 1 rfl) ?_
  refine lv_bipush (v := 15) X.hx X.hb dX6_letterAt_5 (by decide) ?_
  refine lv_iand X.hx X.hb dX6_letterAt_7 ?_
  obtain ⟨h8, hf⟩ := ite_n hf
  refine aC_ld X hW isA_12 rfl h8 dX6_letterAt_8 ?_
  refine lv_iconst (v := 5) X.hx X.hb dX6_letterAt_9 (by decide) ?_
  refine lv_aload_n X.hx X.hb dX6_letterAt_10 rfl (lv_at hl 0 rfl) ?_
  refine gX6_length X hW dX6_letterAt_11 ?_
  refine lv_iconst (v := 1) X.hx X.hb dX6_letterAt_14 (by decide) ?_
  refine lv_isub X.hx X.hb dX6_letterAt_15 ?_
  refine lv_iload_n X.hx X.hb dX6_letterAt_16 rfl (lv_at hl 2 rfl) ?_
  refine lv_isub X.hx X.hb dX6_letterAt_17 ?_
  refine lv_imul X.hx X.hb dX6_letterAt_18 ?_
  refine lv_ishr X.hx X.hb dX6_letterAt_19 ?_
  refine lv_bipush (v := 31) X.hx X.hb dX6_letterAt_20 (by decide) ?_
  refine lv_iand X.hx X.hb dX6_letterAt_22 ?_
  exact rt_i X hr hlk hW hS (Option.some.inj hf) (Nat.le_refl _) (Nat.le_refl _) dX6_letterAt_23
-- WordSquares$Prefixes.placeOf
noncomputable def f_X3_placeOf (a0 : Int32) (a1 : Int32) : Option Int32 := some (((a0 &&& 15) * 32) + (a1 &&& 31))
set_option maxRecDepth 100000 in
theorem w_X3_placeOf (l : Launch) (V : Ev) (A : Nat → Prop) (Wd : St → Heap → Prop) (st : St) {a0 : Int32} {a1 : Int32} {res : Int32} (hf : f_X3_placeOf a0 a1 = some res) : Cn l yX3_placeOf cX3_placeOf 2 (some .int) 0 0 0 0 V A Wd st [.int a0, .int a1] (Qwi A Wd res st) := by
  refine cn_of RX3 (by decide) rfl (fun p e s m below meth c ls X hr hlk hW hS hl => ?_) (Nat.le_of_ble_eq_true rfl)
  have hl : lv_has ls 2 [(0, .int a0), (1, .int a1)] := hl
  unfold f_X3_placeOf at hf
  refine lv_iload_n X.hx X.hb dX3_placeOf_0 rfl (lv_at hl 0 rfl) ?_
  refine lv_bipush (v := 15) X.hx X.hb dX3_placeOf_1 (by decide) ?_
  refine lv_iand X.hx X.hb dX3_placeOf_3 ?_
  refine lv_bipush (v := 32) X.hx X.hb dX3_placeOf_4 (by decide) ?_
  refine lv_imul X.hx X.hb dX3_placeOf_6 ?_
  refine lv_iload_n X.hx X.hb dX3_placeOf_7 rfl (lv_at hl 1 rfl) ?_
  refine lv_bipush (v := 31) X.hx X.hb dX3_placeOf_8 (by decide) ?_
  refine lv_iand X.hx X.hb dX3_placeOf_10 ?_
  refine lv_iadd X.hx X.hb dX3_placeOf_11 ?_
  exact rt_i X hr hlk hW hS (Option.some.inj hf) (Nat.le_refl _) (Nat.le_refl _) dX3_placeOf_12
-- WordSquares$Prefixes.buildLonger
noncomputable def f_X3_buildLonger_J74 (r14 : St → Int32 → Int32 → Int32 → Option St) (st : St) (x1 : Int32) (x2 : Int32) (x3 : Int32) : Option St := lt (x3 + 1) fun w74 => r14 st x1 x2 w74
theorem f_X3_buildLonger_J74_l {r14 : St → Int32 → Int32 → Int32 → Option St} {res : St} (hq14 : ∀ (st : St) (x1 : Int32) (x2 : Int32) (x3 : Int32), r14 st x1 x2 x3 = some res → phi res = phi st) (st : St) (x1 : Int32) (x2 : Int32) (x3 : Int32) (hf : f_X3_buildLonger_J74 r14 st x1 x2 x3 = some res) : phi res = phi st := by
  unfold f_X3_buildLonger_J74 at hf
  obtain ⟨w74, e74, hf⟩ := lt_e hf
  have q9 := hq14 _ _ _ _ hf
  omega
set_option maxRecDepth 100000 in
theorem f_X3_buildLonger_J74_w {r14 : St → Int32 → Int32 → Int32 → Option St} {res : St} (X : Cx V A cX3_buildLonger 5 RX3 p m c s args) (hr : meth.sig.returnType = none) (hlk : meth.locks = false) (hr14 : ∀ (st : St) (x1 : Int32) (x2 : Int32) (x3 : Int32) (H : Heap) (locs : List Loc) (ls : Array Slot), r14 st x1 x2 x3 = some res → (WdC V ad A) st H → va_S A s.heap H locs → lv_has ls 5 [(0, .ref (ad 4)), (1, .int x1), (2, .int x2), (3, .int x3)] → W p l e (rmF 2 46 0 0) s m args below meth c H locs 0 0 (MQ below (Qwv A (WdC V ad A) res) args s 0 0 A) (F0 m 14 ls [])) (st : St) (x1 : Int32) (x2 : Int32) (x3 : Int32) (H : Heap) (locs : List Loc) (ls : Array Slot)  (hf : f_X3_buildLonger_J74 r14 st x1 x2 x3 = some res) (hW : (WdC V ad A) st H) (hS : va_S A s.heap H locs) (hl : lv_has ls 5 [(0, .ref (ad 4)), (1, .int x1), (2, .int x2), (3, .int x3)]) : W p l e (rmF 2 46 0 0) s m args below meth c H locs 0 0 (MQ below (Qwv A (WdC V ad A) res) args s 0 0 A) (F0 m 74 ls []) := by
  
  unfold f_X3_buildLonger_J74 at hf
  obtain ⟨w74, e74, hf⟩ := lt_e hf
  refine lv_iinc (v := w74) (lv' := [(3, .int w74), (0, .ref (ad 4)), (1, .int x1), (2, .int x2)]) X.hx X.hb dX3_buildLonger_74 hl (k := 3) rfl (by rw [e74]; rfl) (by decide) rfl (fun ls hl => ?_)
  refine lv_goto (tgt := 14) X.hx X.hb dX3_buildLonger_77 (by decide) ?_
  exact hr14 _ _ _ _ _ _ _  hf hW hS (lv_sub hl [1, 2, 3, 0] rfl)
noncomputable def f_X3_buildLonger_J36 (r14 : St → Int32 → Int32 → Int32 → Option St) (st : St) (x1 : Int32) (x2 : Int32) (x3 : Int32) : Option St := (f_X6_letterAt st x3 x1).bind fun b43 => (f_X3_placeOf x2 b43).bind fun b46 => if inb x1 4 = true then if inb b46 512 = true then if (st.2.1 (24 + x1.toNatClampNeg) b46.toNatClampNeg) = (-1) then if inb x1 4 = true then if inb b46 512 = true then lt (sA st (24 + x1.toNatClampNeg) b46.toNatClampNeg x3) fun s73 => f_X3_buildLonger_J74 r14 s73 x1 x2 x3 else none else none else f_X3_buildLonger_J74 r14 st x1 x2 x3 else none else none
theorem f_X3_buildLonger_J36_l {r14 : St → Int32 → Int32 → Int32 → Option St} {res : St} (hq14 : ∀ (st : St) (x1 : Int32) (x2 : Int32) (x3 : Int32), r14 st x1 x2 x3 = some res → phi res = phi st) (st : St) (x1 : Int32) (x2 : Int32) (x3 : Int32) (hf : f_X3_buildLonger_J36 r14 st x1 x2 x3 = some res) : phi res = phi st := by
  unfold f_X3_buildLonger_J36 at hf
  obtain ⟨b43, h43, hf⟩ := bnd hf
  obtain ⟨b46, h46, hf⟩ := bnd hf
  obtain ⟨h56, hf⟩ := ite_n hf
  obtain ⟨h59, hf⟩ := ite_n hf
  by_cases c61 : (st.2.1 (24 + x1.toNatClampNeg) b46.toNatClampNeg) = (-1)
  · replace hf := ite_t c61 hf
    obtain ⟨h69, hf⟩ := ite_n hf
    obtain ⟨h73, hf⟩ := ite_n hf
    obtain ⟨s73, e73, hf⟩ := lt_e hf
    have p73 : phi s73 = phi st := by rw [e73]; rfl
    have q9 := f_X3_buildLonger_J74_l hq14 _ _ _ _ hf
    omega
  · replace hf := ite_f c61 hf
    have q9 := f_X3_buildLonger_J74_l hq14 _ _ _ _ hf
    omega
set_option maxRecDepth 100000 in
theorem f_X3_buildLonger_J36_w {r14 : St → Int32 → Int32 → Int32 → Option St} {res : St} (X : Cx V A cX3_buildLonger 5 RX3 p m c s args) (hr : meth.sig.returnType = none) (hlk : meth.locks = false) (hr14 : ∀ (st : St) (x1 : Int32) (x2 : Int32) (x3 : Int32) (H : Heap) (locs : List Loc) (ls : Array Slot), r14 st x1 x2 x3 = some res → (WdC V ad A) st H → va_S A s.heap H locs → lv_has ls 5 [(0, .ref (ad 4)), (1, .int x1), (2, .int x2), (3, .int x3)] → W p l e (rmF 2 46 0 0) s m args below meth c H locs 0 0 (MQ below (Qwv A (WdC V ad A) res) args s 0 0 A) (F0 m 14 ls [])) (st : St) (x1 : Int32) (x2 : Int32) (x3 : Int32) (H : Heap) (locs : List Loc) (ls : Array Slot)  (hf : f_X3_buildLonger_J36 r14 st x1 x2 x3 = some res) (hW : (WdC V ad A) st H) (hS : va_S A s.heap H locs) (hl : lv_has ls 5 [(0, .ref (ad 4)), (1, .int x1), (2, .int x2), (3, .int x3)]) : W p l e (rmF 2 46 0 0) s m args below meth c H locs 0 0 (MQ below (Qwv A (WdC V ad A) res) args s 0 0 A) (F0 m 36 ls []) := by
  
  unfold f_X3_buildLonger_J36 at hf
  refine lv_iload_n X.hx X.hb dX3_buildLonger_36 rfl (lv_at hl 2 rfl) ?_
  refine lv_aload_n X.hx X.hb dX3_buildLonger_37 rfl (lv_at hl 0 rfl) ?_
  refine gX3_list X hW dX3_buildLonger_38 ?_
  refine lv_iload_n X.hx X.hb dX3_buildLonger_41 rfl (lv_at hl 3 rfl) ?_
  refine lv_iload_n X.hx X.hb dX3_buildLonger_42 rfl (lv_at hl 1 rfl) ?_
  obtain ⟨b43, h43, hf⟩ := bnd hf
  refine cl_i (run_V (As := [.int x3, .int x1]) (rest := [.int x2]) X (w_X6_letterAt l V A ad h43) mw_X6_letterAt ln_X3_61 (rcX6 X hW) hW hS rfl hl.1 rfl (Nat.le_of_ble_eq_true rfl) ⟨Nat.le_of_ble_eq_true rfl, Nat.le_of_ble_eq_true rfl⟩ ⟨Nat.le_refl _, Nat.le_refl _⟩ dX3_buildLonger_43) hS (fun H locs hW hS => ?_)
  obtain ⟨b46, h46, hf⟩ := bnd hf
  refine cl_i (run_S (As := [.int x2, .int b43]) (rest := []) X (w_X3_placeOf l V A (WdC V ad A) st h46) mw_X3_placeOf ln_X3_64 hW hS rfl hl.1 rfl (Nat.le_of_ble_eq_true rfl) ⟨Nat.le_of_ble_eq_true rfl, Nat.le_of_ble_eq_true rfl⟩ ⟨Nat.le_refl _, Nat.le_refl _⟩ dX3_buildLonger_46) hS (fun H locs hW hS => ?_)
  refine lv_istore (lv' := [(4, .int b46), (0, .ref (ad 4)), (1, .int x1), (2, .int x2), (3, .int x3)]) X.hx X.hb dX3_buildLonger_49 hl (by decide) rfl (fun ls hl => ?_)
  refine lv_aload_n X.hx X.hb dX3_buildLonger_51 rfl (lv_at hl 1 rfl) ?_
  refine gX3_longer X hW dX3_buildLonger_52 ?_
  refine lv_iload_n X.hx X.hb dX3_buildLonger_55 rfl (lv_at hl 2 rfl) ?_
  obtain ⟨h56, hf⟩ := ite_n hf
  refine oC_23 X hW h56 dX3_buildLonger_56 ?_
  refine lv_iload X.hx X.hb dX3_buildLonger_57 (lv_at hl 0 rfl) ?_
  obtain ⟨h59, hf⟩ := ite_n hf
  refine aC_ld X hW (isA_24 h56) (aln_24 h56) h59 dX3_buildLonger_59 ?_
  refine lv_iconst (v := (-1)) X.hx X.hb dX3_buildLonger_60 (by decide) ?_
  refine lv_icmp_ne (tgt := 74) X.hx X.hb dX3_buildLonger_61 (by decide) (fun c61 => ?_) (fun c61 => ?_)
  · replace hf := ite_f c61 hf
    exact f_X3_buildLonger_J74_w X hr hlk hr14 _ _ _ _ _ _ _  hf hW hS (lv_sub hl [1, 2, 3, 4] rfl)
  · replace hf := ite_t c61 hf
    refine lv_aload_n X.hx X.hb dX3_buildLonger_64 rfl (lv_at hl 1 rfl) ?_
    refine gX3_longer X hW dX3_buildLonger_65 ?_
    refine lv_iload_n X.hx X.hb dX3_buildLonger_68 rfl (lv_at hl 2 rfl) ?_
    obtain ⟨h69, hf⟩ := ite_n hf
    refine oC_23 X hW h69 dX3_buildLonger_69 ?_
    refine lv_iload X.hx X.hb dX3_buildLonger_70 (lv_at hl 0 rfl) ?_
    refine lv_iload_n X.hx X.hb dX3_buildLonger_72 rfl (lv_at hl 4 rfl) ?_
    obtain ⟨h73, hf⟩ := ite_n hf
    obtain ⟨s73, e73, hf⟩ := lt_e hf
    refine aC_st X hW hS (isA_24 h69) (aln_24 h69) h73 dX3_buildLonger_73 (fun H locs hW hS => ?_)
    rw [← e73] at hW
    exact f_X3_buildLonger_J74_w X hr hlk hr14 _ _ _ _ _ _ _  hf hW hS (lv_sub hl [1, 2, 3, 4] rfl)
noncomputable def f_X3_buildLonger_L14 : Nat → St → Int32 → Int32 → Int32 → Option St
  | 0, _, _, _, _ => none
  | fu + 1, st, x1, x2, x3 => (f_X6_size st).bind fun b19 => if b19 ≤ x3 then some st else (f_X3_isHead st x3 x1).bind fun b28 => if b28 = 0 then f_X3_buildLonger_J36 ((f_X3_buildLonger_L14 fu)) st x1 x2 x3 else f_X3_buildLonger_J36 ((f_X3_buildLonger_L14 fu)) st x1 x3 x3
theorem f_X3_buildLonger_L14_l {res : St} : ∀ (n9 : Nat) (st : St) (x1 : Int32) (x2 : Int32) (x3 : Int32), f_X3_buildLonger_L14 n9 st x1 x2 x3 = some res → phi res = phi st := by
  intro n9
  induction n9 with
  | zero =>
    intro st x1 x2 x3 hf
    exact absurd hf (by unfold f_X3_buildLonger_L14; exact fun h => by cases h)
  | succ n9 hq14 =>
    intro st x1 x2 x3 hf
    unfold f_X3_buildLonger_L14 at hf
    obtain ⟨b19, h19, hf⟩ := bnd hf
    by_cases c22 : b19 ≤ x3
    · replace hf := ite_t c22 hf
      have q9 := congrArg phi (Option.some.inj hf)
      omega
    · replace hf := ite_f c22 hf
      obtain ⟨b28, h28, hf⟩ := bnd hf
      by_cases c31 : b28 = 0
      · replace hf := ite_t c31 hf
        have q9 := f_X3_buildLonger_J36_l hq14 _ _ _ _ hf
        omega
      · replace hf := ite_f c31 hf
        have q9 := f_X3_buildLonger_J36_l hq14 _ _ _ _ hf
        omega
set_option maxRecDepth 100000 in
theorem f_X3_buildLonger_L14_w {res : St} (X : Cx V A cX3_buildLonger 5 RX3 p m c s args) (hr : meth.sig.returnType = none) (hlk : meth.locks = false)  : ∀ (n9 : Nat) (st : St) (x1 : Int32) (x2 : Int32) (x3 : Int32) (H : Heap) (locs : List Loc) (ls : Array Slot), f_X3_buildLonger_L14 n9 st x1 x2 x3 = some res → (WdC V ad A) st H → va_S A s.heap H locs → lv_has ls 5 [(0, .ref (ad 4)), (1, .int x1), (2, .int x2), (3, .int x3)] → W p l e (rmF 2 46 0 0) s m args below meth c H locs 0 0 (MQ below (Qwv A (WdC V ad A) res) args s 0 0 A) (F0 m 14 ls []) := by
  intro n9
  induction n9 with
  | zero =>
    intro st x1 x2 x3 H locs ls hf
    exact absurd hf (by unfold f_X3_buildLonger_L14; exact fun h => by cases h)
  | succ n9 hr14 =>
    intro st x1 x2 x3 H locs ls hf hW hS hl
    
    unfold f_X3_buildLonger_L14 at hf
    refine lv_iload_n X.hx X.hb dX3_buildLonger_14 rfl (lv_at hl 3 rfl) ?_
    refine lv_aload_n X.hx X.hb dX3_buildLonger_15 rfl (lv_at hl 0 rfl) ?_
    refine gX3_list X hW dX3_buildLonger_16 ?_
    obtain ⟨b19, h19, hf⟩ := bnd hf
    refine cl_i (run_V (As := []) (rest := [.int x3]) X (w_X6_size l V A ad h19) mw_X6_size ln_X3_36 (rcX6 X hW) hW hS rfl hl.1 rfl (Nat.le_of_ble_eq_true rfl) ⟨Nat.le_of_ble_eq_true rfl, Nat.le_of_ble_eq_true rfl⟩ ⟨Nat.le_refl _, Nat.le_refl _⟩ dX3_buildLonger_19) hS (fun H locs hW hS => ?_)
    refine lv_icmp_ge (tgt := 80) X.hx X.hb dX3_buildLonger_22 (by decide) (fun c22 => ?_) (fun c22 => ?_)
    · replace hf := ite_t c22 hf
      exact rt_v X hr hlk (by rw [← Option.some.inj hf]; exact hW) hS (Nat.le_refl _) (Nat.le_refl _) dX3_buildLonger_80
    · replace hf := ite_f c22 hf
      refine lv_aload_n X.hx X.hb dX3_buildLonger_25 rfl (lv_at hl 0 rfl) ?_
      refine lv_iload_n X.hx X.hb dX3_buildLonger_26 rfl (lv_at hl 3 rfl) ?_
      refine lv_iload_n X.hx X.hb dX3_buildLonger_27 rfl (lv_at hl 1 rfl) ?_
      obtain ⟨b28, h28, hf⟩ := bnd hf
      refine cl_i (run_V (As := [.int x3, .int x1]) (rest := []) X (w_X3_isHead l V A ad h28) mw_X3_isHead ln_X3_39 (rcX3 X hW) hW hS rfl hl.1 rfl (Nat.le_of_ble_eq_true rfl) ⟨Nat.le_of_ble_eq_true rfl, Nat.le_of_ble_eq_true rfl⟩ ⟨Nat.le_refl _, Nat.le_refl _⟩ dX3_buildLonger_28) hS (fun H locs hW hS => ?_)
      refine lv_if_eq (tgt := 36) X.hx X.hb dX3_buildLonger_31 (by decide) (fun c31 => ?_) (fun c31 => ?_)
      · replace hf := ite_t c31 hf
        exact f_X3_buildLonger_J36_w X hr hlk hr14 _ _ _ _ _ _ _  hf hW hS (lv_sub hl [0, 1, 2, 3] rfl)
      · replace hf := ite_f c31 hf
        refine lv_iload_n X.hx X.hb dX3_buildLonger_34 rfl (lv_at hl 3 rfl) ?_
        refine lv_istore_n (lv' := [(2, .int x3), (0, .ref (ad 4)), (1, .int x1), (3, .int x3)]) X.hx X.hb dX3_buildLonger_35 rfl hl (by decide) rfl (fun ls hl => ?_)
        exact f_X3_buildLonger_J36_w X hr hlk hr14 _ _ _ _ _ _ _  hf hW hS (lv_sub hl [1, 2, 0, 3] rfl)
noncomputable def f_X3_buildLonger (st : St) (a1 : Int32) : Option St := if inb a1 4 = true then (f_J7_fill_53178 st (24 + a1.toNatClampNeg) 512 (-1)).bind fun b7 => f_X3_buildLonger_L14 FU b7 a1 0 0 else none
theorem l_X3_buildLonger {st : St} {a1 : Int32} {res : St} (hf : f_X3_buildLonger st a1 = some res) : phi res = phi st := by
  unfold f_X3_buildLonger at hf
  obtain ⟨h5, hf⟩ := ite_n hf
  obtain ⟨b7, h7, hf⟩ := bnd hf
  have p7 := l_J7_fill_53178 h7
  have q9 := f_X3_buildLonger_L14_l  FU _ _ _ _ hf
  omega
set_option maxRecDepth 100000 in
theorem w_X3_buildLonger (l : Launch) (V : Ev) (A : Nat → Prop) (ad : Nat → Nat) {st : St} {a1 : Int32} {res : St} (hf : f_X3_buildLonger st a1 = some res) : Cn l yX3_buildLonger cX3_buildLonger 5 none 2 46 0 0 V A (WdC V ad A) st [.ref (ad 4), .int a1] (Qwv A (WdC V ad A) res) := by
  refine cn_of RX3 (by decide) rfl (fun p e s m below meth c ls X hr hlk hW hS hl => ?_) (Nat.le_of_ble_eq_true rfl)
  have hl : lv_has ls 5 [(0, .ref (ad 4)), (1, .int a1)] := hl
  unfold f_X3_buildLonger at hf
  refine lv_aload_n X.hx X.hb dX3_buildLonger_0 rfl (lv_at hl 0 rfl) ?_
  refine gX3_longer X hW dX3_buildLonger_1 ?_
  refine lv_iload_n X.hx X.hb dX3_buildLonger_4 rfl (lv_at hl 1 rfl) ?_
  obtain ⟨h5, hf⟩ := ite_n hf
  refine oC_23 X hW h5 dX3_buildLonger_5 ?_
  refine lv_iconst (v := (-1)) X.hx X.hb dX3_buildLonger_6 (by decide) ?_
  obtain ⟨b7, h7, hf⟩ := bnd hf
  refine cl_v (run_S (As := [.ref (ad (24 + a1.toNatClampNeg)), .int (-1)]) (rest := []) X (w_J7_fill_53178 l V A ad (isA_24 h5) (fun _ => (aln_24 h5)) h7) mw_J7_fill_53178 ln_X3_55 hW hS rfl hl.1 rfl (Nat.le_of_ble_eq_true rfl) ⟨Nat.le_of_ble_eq_true rfl, Nat.le_of_ble_eq_true rfl⟩ ⟨Nat.le_refl _, Nat.le_refl _⟩ dX3_buildLonger_7) hS (fun H locs hW hS => ?_)
  refine lv_iconst (v := 0) X.hx X.hb dX3_buildLonger_10 (by decide) ?_
  refine lv_istore_n (lv' := [(2, .int 0), (0, .ref (ad 4)), (1, .int a1)]) X.hx X.hb dX3_buildLonger_11 rfl hl (by decide) rfl (fun ls hl => ?_)
  refine lv_iconst (v := 0) X.hx X.hb dX3_buildLonger_12 (by decide) ?_
  refine lv_istore_n (lv' := [(3, .int 0), (2, .int 0), (0, .ref (ad 4)), (1, .int a1)]) X.hx X.hb dX3_buildLonger_13 rfl hl (by decide) rfl (fun ls hl => ?_)
  exact f_X3_buildLonger_L14_w X hr hlk FU _ _ _ _ _ _ _  hf hW hS (lv_sub hl [2, 3, 1, 0] rfl)
-- WordSquares$Prefixes.buildTakers
noncomputable def f_X3_buildTakers_J70 (r2 : St → Int32 → Int32 → Int32 → Option St) (r13 : St → Int32 → Int32 → Int32 → Int32 → Int32 → Option St) (st : St) (x1 : Int32) (x2 : Int32) (x3 : Int32) (x4 : Int32) (x5 : Int32) : Option St := lt (x5 + 1) fun w70 => r13 st x1 x2 x3 x4 w70
theorem f_X3_buildTakers_J70_l {r2 : St → Int32 → Int32 → Int32 → Option St} {r13 : St → Int32 → Int32 → Int32 → Int32 → Int32 → Option St} {res : St} (hq2 : ∀ (st : St) (x1 : Int32) (x2 : Int32) (x3 : Int32), r2 st x1 x2 x3 = some res → phi res = phi st) (hq13 : ∀ (st : St) (x1 : Int32) (x2 : Int32) (x3 : Int32) (x4 : Int32) (x5 : Int32), r13 st x1 x2 x3 x4 x5 = some res → phi res = phi st) (st : St) (x1 : Int32) (x2 : Int32) (x3 : Int32) (x4 : Int32) (x5 : Int32) (hf : f_X3_buildTakers_J70 r2 r13 st x1 x2 x3 x4 x5 = some res) : phi res = phi st := by
  unfold f_X3_buildTakers_J70 at hf
  obtain ⟨w70, e70, hf⟩ := lt_e hf
  have q9 := hq13 _ _ _ _ _ _ hf
  omega
set_option maxRecDepth 100000 in
theorem f_X3_buildTakers_J70_w {r2 : St → Int32 → Int32 → Int32 → Option St} {r13 : St → Int32 → Int32 → Int32 → Int32 → Int32 → Option St} {res : St} (X : Cx V A cX3_buildTakers 6 RX3 p m c s args) (hr : meth.sig.returnType = none) (hlk : meth.locks = false) (hr2 : ∀ (st : St) (x1 : Int32) (x2 : Int32) (x3 : Int32) (H : Heap) (locs : List Loc) (ls : Array Slot), r2 st x1 x2 x3 = some res → (WdC V ad A) st H → va_S A s.heap H locs → lv_has ls 6 [(0, .ref (ad 4)), (1, .int x1), (2, .int x2), (3, .int x3)] → W p l e (rmF 1 22 0 0) s m args below meth c H locs 0 0 (MQ below (Qwv A (WdC V ad A) res) args s 0 0 A) (F0 m 2 ls [])) (hr13 : ∀ (st : St) (x1 : Int32) (x2 : Int32) (x3 : Int32) (x4 : Int32) (x5 : Int32) (H : Heap) (locs : List Loc) (ls : Array Slot), r13 st x1 x2 x3 x4 x5 = some res → (WdC V ad A) st H → va_S A s.heap H locs → lv_has ls 6 [(0, .ref (ad 4)), (1, .int x1), (2, .int x2), (3, .int x3), (4, .int x4), (5, .int x5)] → W p l e (rmF 1 22 0 0) s m args below meth c H locs 0 0 (MQ below (Qwv A (WdC V ad A) res) args s 0 0 A) (F0 m 13 ls [])) (st : St) (x1 : Int32) (x2 : Int32) (x3 : Int32) (x4 : Int32) (x5 : Int32) (H : Heap) (locs : List Loc) (ls : Array Slot)  (hf : f_X3_buildTakers_J70 r2 r13 st x1 x2 x3 x4 x5 = some res) (hW : (WdC V ad A) st H) (hS : va_S A s.heap H locs) (hl : lv_has ls 6 [(0, .ref (ad 4)), (1, .int x1), (2, .int x2), (3, .int x3), (4, .int x4), (5, .int x5)]) : W p l e (rmF 1 22 0 0) s m args below meth c H locs 0 0 (MQ below (Qwv A (WdC V ad A) res) args s 0 0 A) (F0 m 70 ls []) := by
  
  unfold f_X3_buildTakers_J70 at hf
  obtain ⟨w70, e70, hf⟩ := lt_e hf
  refine lv_iinc (v := w70) (lv' := [(5, .int w70), (0, .ref (ad 4)), (1, .int x1), (2, .int x2), (3, .int x3), (4, .int x4)]) X.hx X.hb dX3_buildTakers_70 hl (k := 5) rfl (by rw [e70]; rfl) (by decide) rfl (fun ls hl => ?_)
  refine lv_goto (tgt := 13) X.hx X.hb dX3_buildTakers_73 (by decide) ?_
  exact hr13 _ _ _ _ _ _ _ _ _  hf hW hS (lv_sub hl [1, 2, 3, 4, 5, 0] rfl)
noncomputable def f_X3_buildTakers_J76 (r2 : St → Int32 → Int32 → Int32 → Option St) (st : St) (x1 : Int32) (x2 : Int32) (x3 : Int32) (x4 : Int32) : Option St := if inb x1 4 = true then if inb (((x2 &&& 15) * 4) + x3) 64 = true then lt (sA st (29 + x1.toNatClampNeg) (((x2 &&& 15) * 4) + x3).toNatClampNeg x4) fun s92 => lt (x3 + 1) fun w93 => r2 s92 x1 x2 w93 else none else none
theorem f_X3_buildTakers_J76_l {r2 : St → Int32 → Int32 → Int32 → Option St} {res : St} (hq2 : ∀ (st : St) (x1 : Int32) (x2 : Int32) (x3 : Int32), r2 st x1 x2 x3 = some res → phi res = phi st) (st : St) (x1 : Int32) (x2 : Int32) (x3 : Int32) (x4 : Int32) (hf : f_X3_buildTakers_J76 r2 st x1 x2 x3 x4 = some res) : phi res = phi st := by
  unfold f_X3_buildTakers_J76 at hf
  obtain ⟨h81, hf⟩ := ite_n hf
  obtain ⟨h92, hf⟩ := ite_n hf
  obtain ⟨s92, e92, hf⟩ := lt_e hf
  have p92 : phi s92 = phi st := by rw [e92]; rfl
  obtain ⟨w93, e93, hf⟩ := lt_e hf
  have q9 := hq2 _ _ _ _ hf
  omega
set_option maxRecDepth 100000 in
theorem f_X3_buildTakers_J76_w {r2 : St → Int32 → Int32 → Int32 → Option St} {res : St} (X : Cx V A cX3_buildTakers 6 RX3 p m c s args) (hr : meth.sig.returnType = none) (hlk : meth.locks = false) (hr2 : ∀ (st : St) (x1 : Int32) (x2 : Int32) (x3 : Int32) (H : Heap) (locs : List Loc) (ls : Array Slot), r2 st x1 x2 x3 = some res → (WdC V ad A) st H → va_S A s.heap H locs → lv_has ls 6 [(0, .ref (ad 4)), (1, .int x1), (2, .int x2), (3, .int x3)] → W p l e (rmF 1 22 0 0) s m args below meth c H locs 0 0 (MQ below (Qwv A (WdC V ad A) res) args s 0 0 A) (F0 m 2 ls [])) (st : St) (x1 : Int32) (x2 : Int32) (x3 : Int32) (x4 : Int32) (H : Heap) (locs : List Loc) (ls : Array Slot)  (hf : f_X3_buildTakers_J76 r2 st x1 x2 x3 x4 = some res) (hW : (WdC V ad A) st H) (hS : va_S A s.heap H locs) (hl : lv_has ls 6 [(0, .ref (ad 4)), (1, .int x1), (2, .int x2), (3, .int x3), (4, .int x4)]) : W p l e (rmF 1 22 0 0) s m args below meth c H locs 0 0 (MQ below (Qwv A (WdC V ad A) res) args s 0 0 A) (F0 m 76 ls []) := by
  
  unfold f_X3_buildTakers_J76 at hf
  refine lv_aload_n X.hx X.hb dX3_buildTakers_76 rfl (lv_at hl 0 rfl) ?_
  refine gX3_takers X hW dX3_buildTakers_77 ?_
  refine lv_iload_n X.hx X.hb dX3_buildTakers_80 rfl (lv_at hl 1 rfl) ?_
  obtain ⟨h81, hf⟩ := ite_n hf
  refine oC_28 X hW h81 dX3_buildTakers_81 ?_
  refine lv_iload_n X.hx X.hb dX3_buildTakers_82 rfl (lv_at hl 2 rfl) ?_
  refine lv_bipush (v := 15) X.hx X.hb dX3_buildTakers_83 (by decide) ?_
  refine lv_iand X.hx X.hb dX3_buildTakers_85 ?_
  refine lv_iconst (v := 4) X.hx X.hb dX3_buildTakers_86 (by decide) ?_
  refine lv_imul X.hx X.hb dX3_buildTakers_87 ?_
  refine lv_iload_n X.hx X.hb dX3_buildTakers_88 rfl (lv_at hl 3 rfl) ?_
  refine lv_iadd X.hx X.hb dX3_buildTakers_89 ?_
  refine lv_iload X.hx X.hb dX3_buildTakers_90 (lv_at hl 4 rfl) ?_
  obtain ⟨h92, hf⟩ := ite_n hf
  obtain ⟨s92, e92, hf⟩ := lt_e hf
  refine aC_st X hW hS (isA_29 h81) (aln_29 h81) h92 dX3_buildTakers_92 (fun H locs hW hS => ?_)
  rw [← e92] at hW
  obtain ⟨w93, e93, hf⟩ := lt_e hf
  refine lv_iinc (v := w93) (lv' := [(3, .int w93), (0, .ref (ad 4)), (1, .int x1), (2, .int x2), (4, .int x4)]) X.hx X.hb dX3_buildTakers_93 hl (k := 3) rfl (by rw [e93]; rfl) (by decide) rfl (fun ls hl => ?_)
  refine lv_goto (tgt := 2) X.hx X.hb dX3_buildTakers_96 (by decide) ?_
  exact hr2 _ _ _ _ _ _ _  hf hW hS (lv_sub hl [1, 2, 3, 0] rfl)
noncomputable def f_X3_buildTakers_L13 (r2 : St → Int32 → Int32 → Int32 → Option St) : Nat → St → Int32 → Int32 → Int32 → Int32 → Int32 → Option St
  | 0, _, _, _, _, _, _ => none
  | fu + 1, st, x1, x2, x3, x4, x5 => (f_X6_size st).bind fun b19 => if b19 ≤ x5 then f_X3_buildTakers_J76 r2 st x1 x2 x3 x4 else (f_X6_length st).bind fun b30 => if b30 ≤ x3 then f_X3_buildTakers_J76 r2 st x1 x2 x3 x4 else if inb x1 4 = true then (f_X6_letterAt st x5 x3).bind fun b50 => (f_X3_placeOf x2 b50).bind fun b53 => if inb b53 512 = true then if (st.2.1 (24 + x1.toNatClampNeg) b53.toNatClampNeg) = (-1) then f_X3_buildTakers_J70 r2 ((f_X3_buildTakers_L13 r2 fu)) st x1 x2 x3 x4 x5 else lt (x4 ||| (1 <<< (x5 &&& 31))) fun w68 => f_X3_buildTakers_J70 r2 ((f_X3_buildTakers_L13 r2 fu)) st x1 x2 x3 w68 x5 else none else none
theorem f_X3_buildTakers_L13_l {r2 : St → Int32 → Int32 → Int32 → Option St} {res : St} (hq2 : ∀ (st : St) (x1 : Int32) (x2 : Int32) (x3 : Int32), r2 st x1 x2 x3 = some res → phi res = phi st) : ∀ (n9 : Nat) (st : St) (x1 : Int32) (x2 : Int32) (x3 : Int32) (x4 : Int32) (x5 : Int32), f_X3_buildTakers_L13 r2 n9 st x1 x2 x3 x4 x5 = some res → phi res = phi st := by
  intro n9
  induction n9 with
  | zero =>
    intro st x1 x2 x3 x4 x5 hf
    exact absurd hf (by unfold f_X3_buildTakers_L13; exact fun h => by cases h)
  | succ n9 hq13 =>
    intro st x1 x2 x3 x4 x5 hf
    unfold f_X3_buildTakers_L13 at hf
    obtain ⟨b19, h19, hf⟩ := bnd hf
    by_cases c22 : b19 ≤ x5
    · replace hf := ite_t c22 hf
      have q9 := f_X3_buildTakers_J76_l hq2 _ _ _ _ _ hf
      omega
    · replace hf := ite_f c22 hf
      obtain ⟨b30, h30, hf⟩ := bnd hf
      by_cases c33 : b30 ≤ x3
      · replace hf := ite_t c33 hf
        have q9 := f_X3_buildTakers_J76_l hq2 _ _ _ _ _ hf
        omega
      · replace hf := ite_f c33 hf
        obtain ⟨h41, hf⟩ := ite_n hf
        obtain ⟨b50, h50, hf⟩ := bnd hf
        obtain ⟨b53, h53, hf⟩ := bnd hf
        obtain ⟨h56, hf⟩ := ite_n hf
        by_cases c58 : (st.2.1 (24 + x1.toNatClampNeg) b53.toNatClampNeg) = (-1)
        · replace hf := ite_t c58 hf
          have q9 := f_X3_buildTakers_J70_l hq2 hq13 _ _ _ _ _ _ hf
          omega
        · replace hf := ite_f c58 hf
          obtain ⟨w68, e68, hf⟩ := lt_e hf
          have q9 := f_X3_buildTakers_J70_l hq2 hq13 _ _ _ _ _ _ hf
          omega
set_option maxRecDepth 100000 in
theorem f_X3_buildTakers_L13_w {r2 : St → Int32 → Int32 → Int32 → Option St} {res : St} (X : Cx V A cX3_buildTakers 6 RX3 p m c s args) (hr : meth.sig.returnType = none) (hlk : meth.locks = false) (hr2 : ∀ (st : St) (x1 : Int32) (x2 : Int32) (x3 : Int32) (H : Heap) (locs : List Loc) (ls : Array Slot), r2 st x1 x2 x3 = some res → (WdC V ad A) st H → va_S A s.heap H locs → lv_has ls 6 [(0, .ref (ad 4)), (1, .int x1), (2, .int x2), (3, .int x3)] → W p l e (rmF 1 22 0 0) s m args below meth c H locs 0 0 (MQ below (Qwv A (WdC V ad A) res) args s 0 0 A) (F0 m 2 ls [])) : ∀ (n9 : Nat) (st : St) (x1 : Int32) (x2 : Int32) (x3 : Int32) (x4 : Int32) (x5 : Int32) (H : Heap) (locs : List Loc) (ls : Array Slot), f_X3_buildTakers_L13 r2 n9 st x1 x2 x3 x4 x5 = some res → (WdC V ad A) st H → va_S A s.heap H locs → lv_has ls 6 [(0, .ref (ad 4)), (1, .int x1), (2, .int x2), (3, .int x3), (4, .int x4), (5, .int x5)] → W p l e (rmF 1 22 0 0) s m args below meth c H locs 0 0 (MQ below (Qwv A (WdC V ad A) res) args s 0 0 A) (F0 m 13 ls []) := by
  intro n9
  induction n9 with
  | zero =>
    intro st x1 x2 x3 x4 x5 H locs ls hf
    exact absurd hf (by unfold f_X3_buildTakers_L13; exact fun h => by cases h)
  | succ n9 hr13 =>
    intro st x1 x2 x3 x4 x5 H locs ls hf hW hS hl
    
    unfold f_X3_buildTakers_L13 at hf
    refine lv_iload X.hx X.hb dX3_buildTakers_13 (lv_at hl 5 rfl) ?_
    refine lv_aload_n X.hx X.hb dX3_buildTakers_15 rfl (lv_at hl 0 rfl) ?_
    refine gX3_list X hW dX3_buildTakers_16 ?_
    obtain ⟨b19, h19, hf⟩ := bnd hf
    refine cl_i (run_V (As := []) (rest := [.int x5]) X (w_X6_size l V A ad h19) mw_X6_size ln_X3_36 (rcX6 X hW) hW hS rfl hl.1 rfl (Nat.le_of_ble_eq_true rfl) ⟨Nat.le_of_ble_eq_true rfl, Nat.le_of_ble_eq_true rfl⟩ ⟨Nat.le_refl _, Nat.le_refl _⟩ dX3_buildTakers_19) hS (fun H locs hW hS => ?_)
    refine lv_icmp_ge (tgt := 76) X.hx X.hb dX3_buildTakers_22 (by decide) (fun c22 => ?_) (fun c22 => ?_)
    · replace hf := ite_t c22 hf
      exact f_X3_buildTakers_J76_w X hr hlk hr2 _ _ _ _ _ _ _ _  hf hW hS (lv_sub hl [0, 1, 2, 3, 4] rfl)
    · replace hf := ite_f c22 hf
      refine lv_iload_n X.hx X.hb dX3_buildTakers_25 rfl (lv_at hl 3 rfl) ?_
      refine lv_aload_n X.hx X.hb dX3_buildTakers_26 rfl (lv_at hl 0 rfl) ?_
      refine gX3_list X hW dX3_buildTakers_27 ?_
      obtain ⟨b30, h30, hf⟩ := bnd hf
      refine cl_i (run_V (As := []) (rest := [.int x3]) X (w_X6_length l V A ad h30) mw_X6_length ln_X3_26 (rcX6 X hW) hW hS rfl hl.1 rfl (Nat.le_of_ble_eq_true rfl) ⟨Nat.le_of_ble_eq_true rfl, Nat.le_of_ble_eq_true rfl⟩ ⟨Nat.le_refl _, Nat.le_refl _⟩ dX3_buildTakers_30) hS (fun H locs hW hS => ?_)
      refine lv_icmp_ge (tgt := 76) X.hx X.hb dX3_buildTakers_33 (by decide) (fun c33 => ?_) (fun c33 => ?_)
      · replace hf := ite_t c33 hf
        exact f_X3_buildTakers_J76_w X hr hlk hr2 _ _ _ _ _ _ _ _  hf hW hS (lv_sub hl [0, 1, 2, 3, 4] rfl)
      · replace hf := ite_f c33 hf
        refine lv_aload_n X.hx X.hb dX3_buildTakers_36 rfl (lv_at hl 0 rfl) ?_
        refine gX3_longer X hW dX3_buildTakers_37 ?_
        refine lv_iload_n X.hx X.hb dX3_buildTakers_40 rfl (lv_at hl 1 rfl) ?_
        obtain ⟨h41, hf⟩ := ite_n hf
        refine oC_23 X hW h41 dX3_buildTakers_41 ?_
        refine lv_iload_n X.hx X.hb dX3_buildTakers_42 rfl (lv_at hl 2 rfl) ?_
        refine lv_aload_n X.hx X.hb dX3_buildTakers_43 rfl (lv_at hl 0 rfl) ?_
        refine gX3_list X hW dX3_buildTakers_44 ?_
        refine lv_iload X.hx X.hb dX3_buildTakers_47 (lv_at hl 5 rfl) ?_
        refine lv_iload_n X.hx X.hb dX3_buildTakers_49 rfl (lv_at hl 3 rfl) ?_
        obtain ⟨b50, h50, hf⟩ := bnd hf
        refine cl_i (run_V (As := [.int x5, .int x3]) (rest := [.int x2, .ref (ad (24 + x1.toNatClampNeg))]) X (w_X6_letterAt l V A ad h50) mw_X6_letterAt ln_X3_61 (rcX6 X hW) hW hS rfl hl.1 rfl (Nat.le_of_ble_eq_true rfl) ⟨Nat.le_of_ble_eq_true rfl, Nat.le_of_ble_eq_true rfl⟩ ⟨Nat.le_refl _, Nat.le_refl _⟩ dX3_buildTakers_50) hS (fun H locs hW hS => ?_)
        obtain ⟨b53, h53, hf⟩ := bnd hf
        refine cl_i (run_S (As := [.int x2, .int b50]) (rest := [.ref (ad (24 + x1.toNatClampNeg))]) X (w_X3_placeOf l V A (WdC V ad A) st h53) mw_X3_placeOf ln_X3_64 hW hS rfl hl.1 rfl (Nat.le_of_ble_eq_true rfl) ⟨Nat.le_of_ble_eq_true rfl, Nat.le_of_ble_eq_true rfl⟩ ⟨Nat.le_refl _, Nat.le_refl _⟩ dX3_buildTakers_53) hS (fun H locs hW hS => ?_)
        obtain ⟨h56, hf⟩ := ite_n hf
        refine aC_ld X hW (isA_24 h41) (aln_24 h41) h56 dX3_buildTakers_56 ?_
        refine lv_iconst (v := (-1)) X.hx X.hb dX3_buildTakers_57 (by decide) ?_
        refine lv_icmp_eq (tgt := 70) X.hx X.hb dX3_buildTakers_58 (by decide) (fun c58 => ?_) (fun c58 => ?_)
        · replace hf := ite_t c58 hf
          exact f_X3_buildTakers_J70_w X hr hlk hr2 hr13 _ _ _ _ _ _ _ _ _  hf hW hS (lv_sub hl [0, 1, 2, 3, 4, 5] rfl)
        · replace hf := ite_f c58 hf
          refine lv_iload X.hx X.hb dX3_buildTakers_61 (lv_at hl 4 rfl) ?_
          refine lv_iconst (v := 1) X.hx X.hb dX3_buildTakers_63 (by decide) ?_
          refine lv_iload X.hx X.hb dX3_buildTakers_64 (lv_at hl 5 rfl) ?_
          refine lv_ishl X.hx X.hb dX3_buildTakers_66 ?_
          refine lv_ior X.hx X.hb dX3_buildTakers_67 ?_
          obtain ⟨w68, e68, hf⟩ := lt_e hf
          refine lv_nm e68 ?_
          refine lv_istore (lv' := [(4, .int w68), (0, .ref (ad 4)), (1, .int x1), (2, .int x2), (3, .int x3), (5, .int x5)]) X.hx X.hb dX3_buildTakers_68 hl (by decide) rfl (fun ls hl => ?_)
          exact f_X3_buildTakers_J70_w X hr hlk hr2 hr13 _ _ _ _ _ _ _ _ _  hf hW hS (lv_sub hl [1, 2, 3, 4, 0, 5] rfl)
noncomputable def f_X3_buildTakers_L2 : Nat → St → Int32 → Int32 → Int32 → Option St
  | 0, _, _, _, _ => none
  | fu + 1, st, x1, x2, x3 => if 4 ≤ x3 then some st else f_X3_buildTakers_L13 ((f_X3_buildTakers_L2 fu)) FU st x1 x2 x3 0 0
theorem f_X3_buildTakers_L2_l {res : St} : ∀ (n9 : Nat) (st : St) (x1 : Int32) (x2 : Int32) (x3 : Int32), f_X3_buildTakers_L2 n9 st x1 x2 x3 = some res → phi res = phi st := by
  intro n9
  induction n9 with
  | zero =>
    intro st x1 x2 x3 hf
    exact absurd hf (by unfold f_X3_buildTakers_L2; exact fun h => by cases h)
  | succ n9 hq2 =>
    intro st x1 x2 x3 hf
    unfold f_X3_buildTakers_L2 at hf
    by_cases c4 : 4 ≤ x3
    · replace hf := ite_t c4 hf
      have q9 := congrArg phi (Option.some.inj hf)
      omega
    · replace hf := ite_f c4 hf
      have q9 := f_X3_buildTakers_L13_l hq2 FU _ _ _ _ _ _ hf
      omega
set_option maxRecDepth 100000 in
theorem f_X3_buildTakers_L2_w {res : St} (X : Cx V A cX3_buildTakers 6 RX3 p m c s args) (hr : meth.sig.returnType = none) (hlk : meth.locks = false)  : ∀ (n9 : Nat) (st : St) (x1 : Int32) (x2 : Int32) (x3 : Int32) (H : Heap) (locs : List Loc) (ls : Array Slot), f_X3_buildTakers_L2 n9 st x1 x2 x3 = some res → (WdC V ad A) st H → va_S A s.heap H locs → lv_has ls 6 [(0, .ref (ad 4)), (1, .int x1), (2, .int x2), (3, .int x3)] → W p l e (rmF 1 22 0 0) s m args below meth c H locs 0 0 (MQ below (Qwv A (WdC V ad A) res) args s 0 0 A) (F0 m 2 ls []) := by
  intro n9
  induction n9 with
  | zero =>
    intro st x1 x2 x3 H locs ls hf
    exact absurd hf (by unfold f_X3_buildTakers_L2; exact fun h => by cases h)
  | succ n9 hr2 =>
    intro st x1 x2 x3 H locs ls hf hW hS hl
    
    unfold f_X3_buildTakers_L2 at hf
    refine lv_iload_n X.hx X.hb dX3_buildTakers_2 rfl (lv_at hl 3 rfl) ?_
    refine lv_iconst (v := 4) X.hx X.hb dX3_buildTakers_3 (by decide) ?_
    refine lv_icmp_ge (tgt := 99) X.hx X.hb dX3_buildTakers_4 (by decide) (fun c4 => ?_) (fun c4 => ?_)
    · replace hf := ite_t c4 hf
      exact rt_v X hr hlk (by rw [← Option.some.inj hf]; exact hW) hS (Nat.le_refl _) (Nat.le_refl _) dX3_buildTakers_99
    · replace hf := ite_f c4 hf
      refine lv_iconst (v := 0) X.hx X.hb dX3_buildTakers_7 (by decide) ?_
      refine lv_istore (lv' := [(4, .int 0), (0, .ref (ad 4)), (1, .int x1), (2, .int x2), (3, .int x3)]) X.hx X.hb dX3_buildTakers_8 hl (by decide) rfl (fun ls hl => ?_)
      refine lv_iconst (v := 0) X.hx X.hb dX3_buildTakers_10 (by decide) ?_
      refine lv_istore (lv' := [(5, .int 0), (4, .int 0), (0, .ref (ad 4)), (1, .int x1), (2, .int x2), (3, .int x3)]) X.hx X.hb dX3_buildTakers_11 hl (by decide) rfl (fun ls hl => ?_)
      exact f_X3_buildTakers_L13_w X hr hlk hr2 FU _ _ _ _ _ _ _ _ _  hf hW hS (lv_sub hl [2, 3, 4, 5, 1, 0] rfl)
noncomputable def f_X3_buildTakers (st : St) (a1 : Int32) (a2 : Int32) : Option St := f_X3_buildTakers_L2 FU st a1 a2 0
theorem l_X3_buildTakers {st : St} {a1 : Int32} {a2 : Int32} {res : St} (hf : f_X3_buildTakers st a1 a2 = some res) : phi res = phi st := by
  unfold f_X3_buildTakers at hf
  have q9 := f_X3_buildTakers_L2_l  FU _ _ _ _ hf
  omega
set_option maxRecDepth 100000 in
theorem w_X3_buildTakers (l : Launch) (V : Ev) (A : Nat → Prop) (ad : Nat → Nat) {st : St} {a1 : Int32} {a2 : Int32} {res : St} (hf : f_X3_buildTakers st a1 a2 = some res) : Cn l yX3_buildTakers cX3_buildTakers 6 none 1 22 0 0 V A (WdC V ad A) st [.ref (ad 4), .int a1, .int a2] (Qwv A (WdC V ad A) res) := by
  refine cn_of RX3 (by decide) rfl (fun p e s m below meth c ls X hr hlk hW hS hl => ?_) (Nat.le_of_ble_eq_true rfl)
  have hl : lv_has ls 6 [(0, .ref (ad 4)), (1, .int a1), (2, .int a2)] := hl
  unfold f_X3_buildTakers at hf
  refine lv_iconst (v := 0) X.hx X.hb dX3_buildTakers_0 (by decide) ?_
  refine lv_istore_n (lv' := [(3, .int 0), (0, .ref (ad 4)), (1, .int a1), (2, .int a2)]) X.hx X.hb dX3_buildTakers_1 rfl hl (by decide) rfl (fun ls hl => ?_)
  exact f_X3_buildTakers_L2_w X hr hlk FU _ _ _ _ _ _ _  hf hW hS (lv_sub hl [1, 2, 3, 0] rfl)
-- WordSquares$WordList.has
noncomputable def f_X6_has_J16 (st : St) : Option Int32 := some 0
set_option maxRecDepth 100000 in
theorem f_X6_has_J16_w {st : St} {res : Int32} (X : Cx V A cX6_has 2 RX6 p m c s args) (hr : meth.sig.returnType = (some .boolean)) (hlk : meth.locks = false)  (H : Heap) (locs : List Loc) (ls : Array Slot)  (hf : f_X6_has_J16 st  = some res) (hW : (WdC V ad A) st H) (hS : va_S A s.heap H locs) (hl : lv_has ls 2 []) : W p l e (rmF 0 0 0 0) s m args below meth c H locs 0 0 (MQ below (Qwi A (WdC V ad A) res st) args s 0 0 A) (F0 m 16 ls []) := by
  
  unfold f_X6_has_J16 at hf
  refine lv_iconst (v := 0) X.hx X.hb dX6_has_16 (by decide) ?_
  exact rt_z X hr hlk hW hS (Or.inl rfl) (Option.some.inj hf) (Nat.le_refl _) (Nat.le_refl _) dX6_has_17
noncomputable def f_X6_has (st : St) (a1 : Int32) : Option Int32 := if a1 < 0 then f_X6_has_J16 st else if (st.1 5) ≤ a1 then f_X6_has_J16 st else some 1
set_option maxRecDepth 100000 in
theorem w_X6_has (l : Launch) (V : Ev) (A : Nat → Prop) (ad : Nat → Nat) {st : St} {a1 : Int32} {res : Int32} (hf : f_X6_has st a1 = some res) : Cn l yX6_has cX6_has 2 (some .boolean) 0 0 0 0 V A (WdC V ad A) st [.ref (ad 2), .int a1] (Qwi A (WdC V ad A) res st) := by
  refine cn_of RX6 (by decide) rfl (fun p e s m below meth c ls X hr hlk hW hS hl => ?_) (Nat.le_of_ble_eq_true rfl)
  have hl : lv_has ls 2 [(0, .ref (ad 2)), (1, .int a1)] := hl
  unfold f_X6_has at hf
  refine lv_iload_n X.hx X.hb dX6_has_0 rfl (lv_at hl 1 rfl) ?_
  refine lv_if_lt (tgt := 16) X.hx X.hb dX6_has_1 (by decide) (fun c1 => ?_) (fun c1 => ?_)
  · replace hf := ite_t c1 hf
    exact f_X6_has_J16_w X hr hlk  _ _ _  hf hW hS (lv_sub hl [] rfl)
  · replace hf := ite_f c1 hf
    refine lv_iload_n X.hx X.hb dX6_has_4 rfl (lv_at hl 1 rfl) ?_
    refine lv_aload_n X.hx X.hb dX6_has_5 rfl (lv_at hl 0 rfl) ?_
    refine gX6_size X hW dX6_has_6 ?_
    refine lv_icmp_ge (tgt := 16) X.hx X.hb dX6_has_9 (by decide) (fun c9 => ?_) (fun c9 => ?_)
    · replace hf := ite_t c9 hf
      exact f_X6_has_J16_w X hr hlk  _ _ _  hf hW hS (lv_sub hl [] rfl)
    · replace hf := ite_f c9 hf
      refine lv_iconst (v := 1) X.hx X.hb dX6_has_12 (by decide) ?_
      refine lv_goto (tgt := 17) X.hx X.hb dX6_has_13 (by decide) ?_
      exact rt_z X hr hlk hW hS (Or.inr rfl) (Option.some.inj hf) (Nat.le_refl _) (Nat.le_refl _) dX6_has_17
-- WordSquares$WordList.restOf
noncomputable def f_X6_restOf (st : St) (a1 : Int32) (a2 : Int32) : Option Int32 := if inb (a1 &&& 15) 16 = true then some ((st.2.1 12 (a1 &&& 15).toNatClampNeg) &&& ((1 <<< ((5 * ((st.1 6) - a2)) &&& 31)) - 1)) else none
set_option maxRecDepth 100000 in
theorem w_X6_restOf (l : Launch) (V : Ev) (A : Nat → Prop) (ad : Nat → Nat) {st : St} {a1 : Int32} {a2 : Int32} {res : Int32} (hf : f_X6_restOf st a1 a2 = some res) : Cn l yX6_restOf cX6_restOf 3 (some .int) 0 0 0 0 V A (WdC V ad A) st [.ref (ad 2), .int a1, .int a2] (Qwi A (WdC V ad A) res st) := by
  refine cn_of RX6 (by decide) rfl (fun p e s m below meth c ls X hr hlk hW hS hl => ?_) (Nat.le_of_ble_eq_true rfl)
  have hl : lv_has ls 3 [(0, .ref (ad 2)), (1, .int a1), (2, .int a2)] := hl
  unfold f_X6_restOf at hf
  refine lv_aload_n X.hx X.hb dX6_restOf_0 rfl (lv_at hl 0 rfl) ?_
  refine gX6_codes X hW dX6_restOf_1 ?_
  refine lv_iload_n X.hx X.hb dX6_restOf_4 rfl (lv_at hl 1 rfl) ?_
  refine lv_bipush (v := 15) X.hx X.hb dX6_restOf_5 (by decide) ?_
  refine lv_iand X.hx X.hb dX6_restOf_7 ?_
  obtain ⟨h8, hf⟩ := ite_n hf
  refine aC_ld X hW isA_12 rfl h8 dX6_restOf_8 ?_
  refine lv_iconst (v := 1) X.hx X.hb dX6_restOf_9 (by decide) ?_
  refine lv_iconst (v := 5) X.hx X.hb dX6_restOf_10 (by decide) ?_
  refine lv_aload_n X.hx X.hb dX6_restOf_11 rfl (lv_at hl 0 rfl) ?_
  refine gX6_length X hW dX6_restOf_12 ?_
  refine lv_iload_n X.hx X.hb dX6_restOf_15 rfl (lv_at hl 2 rfl) ?_
  refine lv_isub X.hx X.hb dX6_restOf_16 ?_
  refine lv_imul X.hx X.hb dX6_restOf_17 ?_
  refine lv_ishl X.hx X.hb dX6_restOf_18 ?_
  refine lv_iconst (v := 1) X.hx X.hb dX6_restOf_19 (by decide) ?_
  refine lv_isub X.hx X.hb dX6_restOf_20 ?_
  refine lv_iand X.hx X.hb dX6_restOf_21 ?_
  exact rt_i X hr hlk hW hS (Option.some.inj hf) (Nat.le_refl _) (Nat.le_refl _) dX6_restOf_22
-- WordSquares$Prefixes.sameRests
noncomputable def f_X3_sameRests_J99 (st : St) (x5 : Int32) (x6 : Int32) : Option Int32 := if x5 = x6 then some 1 else some 0
set_option maxRecDepth 100000 in
theorem f_X3_sameRests_J99_w {st : St} {res : Int32} (X : Cx V A cX3_sameRests 7 RX3 p m c s args) (hr : meth.sig.returnType = (some .boolean)) (hlk : meth.locks = false)  (x5 : Int32) (x6 : Int32) (H : Heap) (locs : List Loc) (ls : Array Slot)  (hf : f_X3_sameRests_J99 st x5 x6 = some res) (hW : (WdC V ad A) st H) (hS : va_S A s.heap H locs) (hl : lv_has ls 7 [(5, .int x5), (6, .int x6)]) : W p l e (rmF 1 24 0 0) s m args below meth c H locs 0 0 (MQ below (Qwi A (WdC V ad A) res st) args s 0 0 A) (F0 m 99 ls []) := by
  
  unfold f_X3_sameRests_J99 at hf
  refine lv_iload X.hx X.hb dX3_sameRests_99 (lv_at hl 0 rfl) ?_
  refine lv_iload X.hx X.hb dX3_sameRests_101 (lv_at hl 1 rfl) ?_
  refine lv_icmp_ne (tgt := 110) X.hx X.hb dX3_sameRests_103 (by decide) (fun c103 => ?_) (fun c103 => ?_)
  · replace hf := ite_f c103 hf
    refine lv_iconst (v := 0) X.hx X.hb dX3_sameRests_110 (by decide) ?_
    exact rt_z X hr hlk hW hS (Or.inl rfl) (Option.some.inj hf) (Nat.le_refl _) (Nat.le_refl _) dX3_sameRests_111
  · replace hf := ite_t c103 hf
    refine lv_iconst (v := 1) X.hx X.hb dX3_sameRests_106 (by decide) ?_
    refine lv_goto (tgt := 111) X.hx X.hb dX3_sameRests_107 (by decide) ?_
    exact rt_z X hr hlk hW hS (Or.inr rfl) (Option.some.inj hf) (Nat.le_refl _) (Nat.le_refl _) dX3_sameRests_111
noncomputable def f_X3_sameRests_J87 (st : St) (r3 : Int32 → Int32 → Int32 → Int32 → Option Int32) (x1 : Int32) (x2 : Int32) (x3 : Int32) (x4 : Int32) (x5 : Int32) (t0 : Int32) : Option Int32 := if x5 = 0 then f_X3_sameRests_J99 st x5 t0 else if t0 = 0 then f_X3_sameRests_J99 st x5 t0 else (f_X6_restOf st (x2 + x4) x1).bind fun b121 => (f_X6_restOf st (x3 + x4) x1).bind fun b133 => if b121 = b133 then lt (x4 + 1) fun w141 => r3 x1 x2 x3 w141 else some 0
set_option maxRecDepth 100000 in
theorem f_X3_sameRests_J87_w {st : St} {r3 : Int32 → Int32 → Int32 → Int32 → Option Int32} {res : Int32} (X : Cx V A cX3_sameRests 7 RX3 p m c s args) (hr : meth.sig.returnType = (some .boolean)) (hlk : meth.locks = false) (hr3 : ∀ (x1 : Int32) (x2 : Int32) (x3 : Int32) (x4 : Int32) (H : Heap) (locs : List Loc) (ls : Array Slot), r3 x1 x2 x3 x4 = some res → (WdC V ad A) st H → va_S A s.heap H locs → lv_has ls 7 [(0, .ref (ad 4)), (1, .int x1), (2, .int x2), (3, .int x3), (4, .int x4)] → W p l e (rmF 1 24 0 0) s m args below meth c H locs 0 0 (MQ below (Qwi A (WdC V ad A) res st) args s 0 0 A) (F0 m 3 ls [])) (x1 : Int32) (x2 : Int32) (x3 : Int32) (x4 : Int32) (x5 : Int32) (t0 : Int32) (H : Heap) (locs : List Loc) (ls : Array Slot)  (hf : f_X3_sameRests_J87 st r3 x1 x2 x3 x4 x5 t0 = some res) (hW : (WdC V ad A) st H) (hS : va_S A s.heap H locs) (hl : lv_has ls 7 [(0, .ref (ad 4)), (1, .int x1), (2, .int x2), (3, .int x3), (4, .int x4), (5, .int x5)]) : W p l e (rmF 1 24 0 0) s m args below meth c H locs 0 0 (MQ below (Qwi A (WdC V ad A) res st) args s 0 0 A) (F0 m 87 ls [.int t0]) := by
  
  unfold f_X3_sameRests_J87 at hf
  refine lv_istore (lv' := [(6, .int t0), (0, .ref (ad 4)), (1, .int x1), (2, .int x2), (3, .int x3), (4, .int x4), (5, .int x5)]) X.hx X.hb dX3_sameRests_87 hl (by decide) rfl (fun ls hl => ?_)
  refine lv_iload X.hx X.hb dX3_sameRests_89 (lv_at hl 6 rfl) ?_
  refine lv_if_eq (tgt := 99) X.hx X.hb dX3_sameRests_91 (by decide) (fun c91 => ?_) (fun c91 => ?_)
  · replace hf := ite_t c91 hf
    exact f_X3_sameRests_J99_w X hr hlk _ _ _ _ _  hf hW hS (lv_sub hl [6, 0] rfl)
  · replace hf := ite_f c91 hf
    refine lv_iload X.hx X.hb dX3_sameRests_94 (lv_at hl 0 rfl) ?_
    refine lv_if_ne (tgt := 112) X.hx X.hb dX3_sameRests_96 (by decide) (fun c96 => ?_) (fun c96 => ?_)
    · replace hf := ite_f c96 hf
      refine lv_aload_n X.hx X.hb dX3_sameRests_112 rfl (lv_at hl 1 rfl) ?_
      refine gX3_list X hW dX3_sameRests_113 ?_
      refine lv_iload_n X.hx X.hb dX3_sameRests_116 rfl (lv_at hl 3 rfl) ?_
      refine lv_iload X.hx X.hb dX3_sameRests_117 (lv_at hl 5 rfl) ?_
      refine lv_iadd X.hx X.hb dX3_sameRests_119 ?_
      refine lv_iload_n X.hx X.hb dX3_sameRests_120 rfl (lv_at hl 2 rfl) ?_
      obtain ⟨b121, h121, hf⟩ := bnd hf
      refine cl_i (run_V (As := [.int (x2 + x4), .int x1]) (rest := []) X (w_X6_restOf l V A ad h121) mw_X6_restOf ln_X3_74 (rcX6 X hW) hW hS rfl hl.1 rfl (Nat.le_of_ble_eq_true rfl) ⟨Nat.le_of_ble_eq_true rfl, Nat.le_of_ble_eq_true rfl⟩ ⟨Nat.le_refl _, Nat.le_refl _⟩ dX3_sameRests_121) hS (fun H locs hW hS => ?_)
      refine lv_aload_n X.hx X.hb dX3_sameRests_124 rfl (lv_at hl 1 rfl) ?_
      refine gX3_list X hW dX3_sameRests_125 ?_
      refine lv_iload_n X.hx X.hb dX3_sameRests_128 rfl (lv_at hl 4 rfl) ?_
      refine lv_iload X.hx X.hb dX3_sameRests_129 (lv_at hl 5 rfl) ?_
      refine lv_iadd X.hx X.hb dX3_sameRests_131 ?_
      refine lv_iload_n X.hx X.hb dX3_sameRests_132 rfl (lv_at hl 2 rfl) ?_
      obtain ⟨b133, h133, hf⟩ := bnd hf
      refine cl_i (run_V (As := [.int (x3 + x4), .int x1]) (rest := [.int b121]) X (w_X6_restOf l V A ad h133) mw_X6_restOf ln_X3_74 (rcX6 X hW) hW hS rfl hl.1 rfl (Nat.le_of_ble_eq_true rfl) ⟨Nat.le_of_ble_eq_true rfl, Nat.le_of_ble_eq_true rfl⟩ ⟨Nat.le_refl _, Nat.le_refl _⟩ dX3_sameRests_133) hS (fun H locs hW hS => ?_)
      refine lv_icmp_eq (tgt := 141) X.hx X.hb dX3_sameRests_136 (by decide) (fun c136 => ?_) (fun c136 => ?_)
      · replace hf := ite_t c136 hf
        obtain ⟨w141, e141, hf⟩ := lt_e hf
        refine lv_iinc (v := w141) (lv' := [(4, .int w141), (6, .int t0), (0, .ref (ad 4)), (1, .int x1), (2, .int x2), (3, .int x3), (5, .int x5)]) X.hx X.hb dX3_sameRests_141 hl (k := 5) rfl (by rw [e141]; rfl) (by decide) rfl (fun ls hl => ?_)
        refine lv_goto (tgt := 3) X.hx X.hb dX3_sameRests_144 (by decide) ?_
        exact hr3 _ _ _ _ _ _ _  hf hW hS (lv_sub hl [2, 3, 4, 5, 0] rfl)
      · replace hf := ite_f c136 hf
        refine lv_iconst (v := 0) X.hx X.hb dX3_sameRests_139 (by decide) ?_
        exact rt_z X hr hlk hW hS (Or.inl rfl) (Option.some.inj hf) (Nat.le_refl _) (Nat.le_refl _) dX3_sameRests_140
    · replace hf := ite_t c96 hf
      exact f_X3_sameRests_J99_w X hr hlk _ _ _ _ _  hf hW hS (lv_sub hl [6, 0] rfl)
noncomputable def f_X3_sameRests_J86 (st : St) (r3 : Int32 → Int32 → Int32 → Int32 → Option Int32) (x1 : Int32) (x2 : Int32) (x3 : Int32) (x4 : Int32) (x5 : Int32) : Option Int32 := f_X3_sameRests_J87 st r3 x1 x2 x3 x4 x5 0
set_option maxRecDepth 100000 in
theorem f_X3_sameRests_J86_w {st : St} {r3 : Int32 → Int32 → Int32 → Int32 → Option Int32} {res : Int32} (X : Cx V A cX3_sameRests 7 RX3 p m c s args) (hr : meth.sig.returnType = (some .boolean)) (hlk : meth.locks = false) (hr3 : ∀ (x1 : Int32) (x2 : Int32) (x3 : Int32) (x4 : Int32) (H : Heap) (locs : List Loc) (ls : Array Slot), r3 x1 x2 x3 x4 = some res → (WdC V ad A) st H → va_S A s.heap H locs → lv_has ls 7 [(0, .ref (ad 4)), (1, .int x1), (2, .int x2), (3, .int x3), (4, .int x4)] → W p l e (rmF 1 24 0 0) s m args below meth c H locs 0 0 (MQ below (Qwi A (WdC V ad A) res st) args s 0 0 A) (F0 m 3 ls [])) (x1 : Int32) (x2 : Int32) (x3 : Int32) (x4 : Int32) (x5 : Int32) (H : Heap) (locs : List Loc) (ls : Array Slot)  (hf : f_X3_sameRests_J86 st r3 x1 x2 x3 x4 x5 = some res) (hW : (WdC V ad A) st H) (hS : va_S A s.heap H locs) (hl : lv_has ls 7 [(0, .ref (ad 4)), (1, .int x1), (2, .int x2), (3, .int x3), (4, .int x4), (5, .int x5)]) : W p l e (rmF 1 24 0 0) s m args below meth c H locs 0 0 (MQ below (Qwi A (WdC V ad A) res st) args s 0 0 A) (F0 m 86 ls []) := by
  
  unfold f_X3_sameRests_J86 at hf
  refine lv_iconst (v := 0) X.hx X.hb dX3_sameRests_86 (by decide) ?_
  exact f_X3_sameRests_J87_w X hr hlk hr3 _ _ _ _ _ _ _ _ _  hf hW hS (lv_sub hl [0, 1, 2, 3, 4, 5] rfl)
noncomputable def f_X3_sameRests_J50 (st : St) (r3 : Int32 → Int32 → Int32 → Int32 → Option Int32) (x1 : Int32) (x2 : Int32) (x3 : Int32) (x4 : Int32) (t0 : Int32) : Option Int32 := (f_X6_has st (x3 + x4)).bind fun b60 => if b60 = 0 then f_X3_sameRests_J86 st r3 x1 x2 x3 x4 t0 else (f_X6_samePrefix st x3 (x3 + x4) x1).bind fun b76 => if b76 = 0 then f_X3_sameRests_J86 st r3 x1 x2 x3 x4 t0 else f_X3_sameRests_J87 st r3 x1 x2 x3 x4 t0 1
set_option maxRecDepth 100000 in
theorem f_X3_sameRests_J50_w {st : St} {r3 : Int32 → Int32 → Int32 → Int32 → Option Int32} {res : Int32} (X : Cx V A cX3_sameRests 7 RX3 p m c s args) (hr : meth.sig.returnType = (some .boolean)) (hlk : meth.locks = false) (hr3 : ∀ (x1 : Int32) (x2 : Int32) (x3 : Int32) (x4 : Int32) (H : Heap) (locs : List Loc) (ls : Array Slot), r3 x1 x2 x3 x4 = some res → (WdC V ad A) st H → va_S A s.heap H locs → lv_has ls 7 [(0, .ref (ad 4)), (1, .int x1), (2, .int x2), (3, .int x3), (4, .int x4)] → W p l e (rmF 1 24 0 0) s m args below meth c H locs 0 0 (MQ below (Qwi A (WdC V ad A) res st) args s 0 0 A) (F0 m 3 ls [])) (x1 : Int32) (x2 : Int32) (x3 : Int32) (x4 : Int32) (t0 : Int32) (H : Heap) (locs : List Loc) (ls : Array Slot)  (hf : f_X3_sameRests_J50 st r3 x1 x2 x3 x4 t0 = some res) (hW : (WdC V ad A) st H) (hS : va_S A s.heap H locs) (hl : lv_has ls 7 [(0, .ref (ad 4)), (1, .int x1), (2, .int x2), (3, .int x3), (4, .int x4)]) : W p l e (rmF 1 24 0 0) s m args below meth c H locs 0 0 (MQ below (Qwi A (WdC V ad A) res st) args s 0 0 A) (F0 m 50 ls [.int t0]) := by
  
  unfold f_X3_sameRests_J50 at hf
  refine lv_istore (lv' := [(5, .int t0), (0, .ref (ad 4)), (1, .int x1), (2, .int x2), (3, .int x3), (4, .int x4)]) X.hx X.hb dX3_sameRests_50 hl (by decide) rfl (fun ls hl => ?_)
  refine lv_aload_n X.hx X.hb dX3_sameRests_52 rfl (lv_at hl 1 rfl) ?_
  refine gX3_list X hW dX3_sameRests_53 ?_
  refine lv_iload_n X.hx X.hb dX3_sameRests_56 rfl (lv_at hl 4 rfl) ?_
  refine lv_iload X.hx X.hb dX3_sameRests_57 (lv_at hl 5 rfl) ?_
  refine lv_iadd X.hx X.hb dX3_sameRests_59 ?_
  obtain ⟨b60, h60, hf⟩ := bnd hf
  refine cl_i (run_V (As := [.int (x3 + x4)]) (rest := []) X (w_X6_has l V A ad h60) mw_X6_has ln_X3_70 (rcX6 X hW) hW hS rfl hl.1 rfl (Nat.le_of_ble_eq_true rfl) ⟨Nat.le_of_ble_eq_true rfl, Nat.le_of_ble_eq_true rfl⟩ ⟨Nat.le_refl _, Nat.le_refl _⟩ dX3_sameRests_60) hS (fun H locs hW hS => ?_)
  refine lv_if_eq (tgt := 86) X.hx X.hb dX3_sameRests_63 (by decide) (fun c63 => ?_) (fun c63 => ?_)
  · replace hf := ite_t c63 hf
    exact f_X3_sameRests_J86_w X hr hlk hr3 _ _ _ _ _ _ _ _  hf hW hS (lv_sub hl [1, 2, 3, 4, 5, 0] rfl)
  · replace hf := ite_f c63 hf
    refine lv_aload_n X.hx X.hb dX3_sameRests_66 rfl (lv_at hl 1 rfl) ?_
    refine gX3_list X hW dX3_sameRests_67 ?_
    refine lv_iload_n X.hx X.hb dX3_sameRests_70 rfl (lv_at hl 4 rfl) ?_
    refine lv_iload_n X.hx X.hb dX3_sameRests_71 rfl (lv_at hl 4 rfl) ?_
    refine lv_iload X.hx X.hb dX3_sameRests_72 (lv_at hl 5 rfl) ?_
    refine lv_iadd X.hx X.hb dX3_sameRests_74 ?_
    refine lv_iload_n X.hx X.hb dX3_sameRests_75 rfl (lv_at hl 2 rfl) ?_
    obtain ⟨b76, h76, hf⟩ := bnd hf
    refine cl_i (run_V (As := [.int x3, .int (x3 + x4), .int x1]) (rest := []) X (w_X6_samePrefix l V A ad h76) mw_X6_samePrefix ln_X3_51 (rcX6 X hW) hW hS rfl hl.1 rfl (Nat.le_of_ble_eq_true rfl) ⟨Nat.le_of_ble_eq_true rfl, Nat.le_of_ble_eq_true rfl⟩ ⟨Nat.le_refl _, Nat.le_refl _⟩ dX3_sameRests_76) hS (fun H locs hW hS => ?_)
    refine lv_if_eq (tgt := 86) X.hx X.hb dX3_sameRests_79 (by decide) (fun c79 => ?_) (fun c79 => ?_)
    · replace hf := ite_t c79 hf
      exact f_X3_sameRests_J86_w X hr hlk hr3 _ _ _ _ _ _ _ _  hf hW hS (lv_sub hl [1, 2, 3, 4, 5, 0] rfl)
    · replace hf := ite_f c79 hf
      refine lv_iconst (v := 1) X.hx X.hb dX3_sameRests_82 (by decide) ?_
      refine lv_goto (tgt := 87) X.hx X.hb dX3_sameRests_83 (by decide) ?_
      exact f_X3_sameRests_J87_w X hr hlk hr3 _ _ _ _ _ _ _ _ _  hf hW hS (lv_sub hl [1, 2, 3, 4, 5, 0] rfl)
noncomputable def f_X3_sameRests_J49 (st : St) (r3 : Int32 → Int32 → Int32 → Int32 → Option Int32) (x1 : Int32) (x2 : Int32) (x3 : Int32) (x4 : Int32) : Option Int32 := f_X3_sameRests_J50 st r3 x1 x2 x3 x4 0
set_option maxRecDepth 100000 in
theorem f_X3_sameRests_J49_w {st : St} {r3 : Int32 → Int32 → Int32 → Int32 → Option Int32} {res : Int32} (X : Cx V A cX3_sameRests 7 RX3 p m c s args) (hr : meth.sig.returnType = (some .boolean)) (hlk : meth.locks = false) (hr3 : ∀ (x1 : Int32) (x2 : Int32) (x3 : Int32) (x4 : Int32) (H : Heap) (locs : List Loc) (ls : Array Slot), r3 x1 x2 x3 x4 = some res → (WdC V ad A) st H → va_S A s.heap H locs → lv_has ls 7 [(0, .ref (ad 4)), (1, .int x1), (2, .int x2), (3, .int x3), (4, .int x4)] → W p l e (rmF 1 24 0 0) s m args below meth c H locs 0 0 (MQ below (Qwi A (WdC V ad A) res st) args s 0 0 A) (F0 m 3 ls [])) (x1 : Int32) (x2 : Int32) (x3 : Int32) (x4 : Int32) (H : Heap) (locs : List Loc) (ls : Array Slot)  (hf : f_X3_sameRests_J49 st r3 x1 x2 x3 x4 = some res) (hW : (WdC V ad A) st H) (hS : va_S A s.heap H locs) (hl : lv_has ls 7 [(0, .ref (ad 4)), (1, .int x1), (2, .int x2), (3, .int x3), (4, .int x4)]) : W p l e (rmF 1 24 0 0) s m args below meth c H locs 0 0 (MQ below (Qwi A (WdC V ad A) res st) args s 0 0 A) (F0 m 49 ls []) := by
  
  unfold f_X3_sameRests_J49 at hf
  refine lv_iconst (v := 0) X.hx X.hb dX3_sameRests_49 (by decide) ?_
  exact f_X3_sameRests_J50_w X hr hlk hr3 _ _ _ _ _ _ _ _  hf hW hS (lv_sub hl [0, 1, 2, 3, 4] rfl)
noncomputable def f_X3_sameRests_L3 (st : St) : Nat → Int32 → Int32 → Int32 → Int32 → Option Int32
  | 0, _, _, _, _ => none
  | fu + 1, x1, x2, x3, x4 => (f_X6_size st).bind fun b9 => if b9 < x4 then some 1 else (f_X6_has st (x2 + x4)).bind fun b23 => if b23 = 0 then f_X3_sameRests_J49 st ((f_X3_sameRests_L3 st fu)) x1 x2 x3 x4 else (f_X6_samePrefix st x2 (x2 + x4) x1).bind fun b39 => if b39 = 0 then f_X3_sameRests_J49 st ((f_X3_sameRests_L3 st fu)) x1 x2 x3 x4 else f_X3_sameRests_J50 st ((f_X3_sameRests_L3 st fu)) x1 x2 x3 x4 1
set_option maxRecDepth 100000 in
theorem f_X3_sameRests_L3_w {st : St} {res : Int32} (X : Cx V A cX3_sameRests 7 RX3 p m c s args) (hr : meth.sig.returnType = (some .boolean)) (hlk : meth.locks = false)  : ∀ (n9 : Nat) (x1 : Int32) (x2 : Int32) (x3 : Int32) (x4 : Int32) (H : Heap) (locs : List Loc) (ls : Array Slot), f_X3_sameRests_L3 st n9 x1 x2 x3 x4 = some res → (WdC V ad A) st H → va_S A s.heap H locs → lv_has ls 7 [(0, .ref (ad 4)), (1, .int x1), (2, .int x2), (3, .int x3), (4, .int x4)] → W p l e (rmF 1 24 0 0) s m args below meth c H locs 0 0 (MQ below (Qwi A (WdC V ad A) res st) args s 0 0 A) (F0 m 3 ls []) := by
  intro n9
  induction n9 with
  | zero =>
    intro x1 x2 x3 x4 H locs ls hf
    exact absurd hf (by unfold f_X3_sameRests_L3; exact fun h => by cases h)
  | succ n9 hr3 =>
    intro x1 x2 x3 x4 H locs ls hf hW hS hl
    
    unfold f_X3_sameRests_L3 at hf
    refine lv_iload X.hx X.hb dX3_sameRests_3 (lv_at hl 4 rfl) ?_
    refine lv_aload_n X.hx X.hb dX3_sameRests_5 rfl (lv_at hl 0 rfl) ?_
    refine gX3_list X hW dX3_sameRests_6 ?_
    obtain ⟨b9, h9, hf⟩ := bnd hf
    refine cl_i (run_V (As := []) (rest := [.int x4]) X (w_X6_size l V A ad h9) mw_X6_size ln_X3_36 (rcX6 X hW) hW hS rfl hl.1 rfl (Nat.le_of_ble_eq_true rfl) ⟨Nat.le_of_ble_eq_true rfl, Nat.le_of_ble_eq_true rfl⟩ ⟨Nat.le_refl _, Nat.le_refl _⟩ dX3_sameRests_9) hS (fun H locs hW hS => ?_)
    refine lv_icmp_gt (tgt := 147) X.hx X.hb dX3_sameRests_12 (by decide) (fun c12 => ?_) (fun c12 => ?_)
    · replace hf := ite_t c12 hf
      refine lv_iconst (v := 1) X.hx X.hb dX3_sameRests_147 (by decide) ?_
      exact rt_z X hr hlk hW hS (Or.inr rfl) (Option.some.inj hf) (Nat.le_refl _) (Nat.le_refl _) dX3_sameRests_148
    · replace hf := ite_f c12 hf
      refine lv_aload_n X.hx X.hb dX3_sameRests_15 rfl (lv_at hl 0 rfl) ?_
      refine gX3_list X hW dX3_sameRests_16 ?_
      refine lv_iload_n X.hx X.hb dX3_sameRests_19 rfl (lv_at hl 2 rfl) ?_
      refine lv_iload X.hx X.hb dX3_sameRests_20 (lv_at hl 4 rfl) ?_
      refine lv_iadd X.hx X.hb dX3_sameRests_22 ?_
      obtain ⟨b23, h23, hf⟩ := bnd hf
      refine cl_i (run_V (As := [.int (x2 + x4)]) (rest := []) X (w_X6_has l V A ad h23) mw_X6_has ln_X3_70 (rcX6 X hW) hW hS rfl hl.1 rfl (Nat.le_of_ble_eq_true rfl) ⟨Nat.le_of_ble_eq_true rfl, Nat.le_of_ble_eq_true rfl⟩ ⟨Nat.le_refl _, Nat.le_refl _⟩ dX3_sameRests_23) hS (fun H locs hW hS => ?_)
      refine lv_if_eq (tgt := 49) X.hx X.hb dX3_sameRests_26 (by decide) (fun c26 => ?_) (fun c26 => ?_)
      · replace hf := ite_t c26 hf
        exact f_X3_sameRests_J49_w X hr hlk hr3 _ _ _ _ _ _ _  hf hW hS (lv_sub hl [0, 1, 2, 3, 4] rfl)
      · replace hf := ite_f c26 hf
        refine lv_aload_n X.hx X.hb dX3_sameRests_29 rfl (lv_at hl 0 rfl) ?_
        refine gX3_list X hW dX3_sameRests_30 ?_
        refine lv_iload_n X.hx X.hb dX3_sameRests_33 rfl (lv_at hl 2 rfl) ?_
        refine lv_iload_n X.hx X.hb dX3_sameRests_34 rfl (lv_at hl 2 rfl) ?_
        refine lv_iload X.hx X.hb dX3_sameRests_35 (lv_at hl 4 rfl) ?_
        refine lv_iadd X.hx X.hb dX3_sameRests_37 ?_
        refine lv_iload_n X.hx X.hb dX3_sameRests_38 rfl (lv_at hl 1 rfl) ?_
        obtain ⟨b39, h39, hf⟩ := bnd hf
        refine cl_i (run_V (As := [.int x2, .int (x2 + x4), .int x1]) (rest := []) X (w_X6_samePrefix l V A ad h39) mw_X6_samePrefix ln_X3_51 (rcX6 X hW) hW hS rfl hl.1 rfl (Nat.le_of_ble_eq_true rfl) ⟨Nat.le_of_ble_eq_true rfl, Nat.le_of_ble_eq_true rfl⟩ ⟨Nat.le_refl _, Nat.le_refl _⟩ dX3_sameRests_39) hS (fun H locs hW hS => ?_)
        refine lv_if_eq (tgt := 49) X.hx X.hb dX3_sameRests_42 (by decide) (fun c42 => ?_) (fun c42 => ?_)
        · replace hf := ite_t c42 hf
          exact f_X3_sameRests_J49_w X hr hlk hr3 _ _ _ _ _ _ _  hf hW hS (lv_sub hl [0, 1, 2, 3, 4] rfl)
        · replace hf := ite_f c42 hf
          refine lv_iconst (v := 1) X.hx X.hb dX3_sameRests_45 (by decide) ?_
          refine lv_goto (tgt := 50) X.hx X.hb dX3_sameRests_46 (by decide) ?_
          exact f_X3_sameRests_J50_w X hr hlk hr3 _ _ _ _ _ _ _ _  hf hW hS (lv_sub hl [0, 1, 2, 3, 4] rfl)
noncomputable def f_X3_sameRests (st : St) (a1 : Int32) (a2 : Int32) (a3 : Int32) : Option Int32 := f_X3_sameRests_L3 st FU a1 a2 a3 0
set_option maxRecDepth 100000 in
theorem w_X3_sameRests (l : Launch) (V : Ev) (A : Nat → Prop) (ad : Nat → Nat) {st : St} {a1 : Int32} {a2 : Int32} {a3 : Int32} {res : Int32} (hf : f_X3_sameRests st a1 a2 a3 = some res) : Cn l yX3_sameRests cX3_sameRests 7 (some .boolean) 1 24 0 0 V A (WdC V ad A) st [.ref (ad 4), .int a1, .int a2, .int a3] (Qwi A (WdC V ad A) res st) := by
  refine cn_of RX3 (by decide) rfl (fun p e s m below meth c ls X hr hlk hW hS hl => ?_) (Nat.le_of_ble_eq_true rfl)
  have hl : lv_has ls 7 [(0, .ref (ad 4)), (1, .int a1), (2, .int a2), (3, .int a3)] := hl
  unfold f_X3_sameRests at hf
  refine lv_iconst (v := 0) X.hx X.hb dX3_sameRests_0 (by decide) ?_
  refine lv_istore (lv' := [(4, .int 0), (0, .ref (ad 4)), (1, .int a1), (2, .int a2), (3, .int a3)]) X.hx X.hb dX3_sameRests_1 hl (by decide) rfl (fun ls hl => ?_)
  exact f_X3_sameRests_L3_w X hr hlk FU _ _ _ _ _ _ _  hf hW hS (lv_sub hl [1, 2, 3, 4, 0] rfl)
-- WordSquares$Prefixes.firstAlike
noncomputable def f_X3_firstAlike_J28 (st : St) (r2 : Int32 → Int32 → Int32 → Option Int32) (x1 : Int32) (x2 : Int32) (x3 : Int32) : Option Int32 := lt (x3 + 1) fun w28 => r2 x1 x2 w28
set_option maxRecDepth 100000 in
theorem f_X3_firstAlike_J28_w {st : St} {r2 : Int32 → Int32 → Int32 → Option Int32} {res : Int32} (X : Cx V A cX3_firstAlike 4 RX3 p m c s args) (hr : meth.sig.returnType = (some .int)) (hlk : meth.locks = false) (hr2 : ∀ (x1 : Int32) (x2 : Int32) (x3 : Int32) (H : Heap) (locs : List Loc) (ls : Array Slot), r2 x1 x2 x3 = some res → (WdC V ad A) st H → va_S A s.heap H locs → lv_has ls 4 [(0, .ref (ad 4)), (1, .int x1), (2, .int x2), (3, .int x3)] → W p l e (rmF 2 50 0 0) s m args below meth c H locs 0 0 (MQ below (Qwi A (WdC V ad A) res st) args s 0 0 A) (F0 m 2 ls [])) (x1 : Int32) (x2 : Int32) (x3 : Int32) (H : Heap) (locs : List Loc) (ls : Array Slot)  (hf : f_X3_firstAlike_J28 st r2 x1 x2 x3 = some res) (hW : (WdC V ad A) st H) (hS : va_S A s.heap H locs) (hl : lv_has ls 4 [(0, .ref (ad 4)), (1, .int x1), (2, .int x2), (3, .int x3)]) : W p l e (rmF 2 50 0 0) s m args below meth c H locs 0 0 (MQ below (Qwi A (WdC V ad A) res st) args s 0 0 A) (F0 m 28 ls []) := by
  
  unfold f_X3_firstAlike_J28 at hf
  obtain ⟨w28, e28, hf⟩ := lt_e hf
  refine lv_iinc (v := w28) (lv' := [(3, .int w28), (0, .ref (ad 4)), (1, .int x1), (2, .int x2)]) X.hx X.hb dX3_firstAlike_28 hl (k := 3) rfl (by rw [e28]; rfl) (by decide) rfl (fun ls hl => ?_)
  refine lv_goto (tgt := 2) X.hx X.hb dX3_firstAlike_31 (by decide) ?_
  exact hr2 _ _ _ _ _ _  hf hW hS (lv_sub hl [1, 2, 3, 0] rfl)
noncomputable def f_X3_firstAlike_L2 (st : St) : Nat → Int32 → Int32 → Int32 → Option Int32
  | 0, _, _, _ => none
  | fu + 1, x1, x2, x3 => if x2 ≤ x3 then some x2 else (f_X3_isHead st x3 x1).bind fun b10 => if b10 = 0 then f_X3_firstAlike_J28 st ((f_X3_firstAlike_L2 st fu)) x1 x2 x3 else (f_X3_sameRests st x1 x3 x2).bind fun b20 => if b20 = 0 then f_X3_firstAlike_J28 st ((f_X3_firstAlike_L2 st fu)) x1 x2 x3 else some x3
set_option maxRecDepth 100000 in
theorem f_X3_firstAlike_L2_w {st : St} {res : Int32} (X : Cx V A cX3_firstAlike 4 RX3 p m c s args) (hr : meth.sig.returnType = (some .int)) (hlk : meth.locks = false)  : ∀ (n9 : Nat) (x1 : Int32) (x2 : Int32) (x3 : Int32) (H : Heap) (locs : List Loc) (ls : Array Slot), f_X3_firstAlike_L2 st n9 x1 x2 x3 = some res → (WdC V ad A) st H → va_S A s.heap H locs → lv_has ls 4 [(0, .ref (ad 4)), (1, .int x1), (2, .int x2), (3, .int x3)] → W p l e (rmF 2 50 0 0) s m args below meth c H locs 0 0 (MQ below (Qwi A (WdC V ad A) res st) args s 0 0 A) (F0 m 2 ls []) := by
  intro n9
  induction n9 with
  | zero =>
    intro x1 x2 x3 H locs ls hf
    exact absurd hf (by unfold f_X3_firstAlike_L2; exact fun h => by cases h)
  | succ n9 hr2 =>
    intro x1 x2 x3 H locs ls hf hW hS hl
    
    unfold f_X3_firstAlike_L2 at hf
    refine lv_iload_n X.hx X.hb dX3_firstAlike_2 rfl (lv_at hl 3 rfl) ?_
    refine lv_iload_n X.hx X.hb dX3_firstAlike_3 rfl (lv_at hl 2 rfl) ?_
    refine lv_icmp_ge (tgt := 34) X.hx X.hb dX3_firstAlike_4 (by decide) (fun c4 => ?_) (fun c4 => ?_)
    · replace hf := ite_t c4 hf
      refine lv_iload_n X.hx X.hb dX3_firstAlike_34 rfl (lv_at hl 2 rfl) ?_
      exact rt_i X hr hlk hW hS (Option.some.inj hf) (Nat.le_refl _) (Nat.le_refl _) dX3_firstAlike_35
    · replace hf := ite_f c4 hf
      refine lv_aload_n X.hx X.hb dX3_firstAlike_7 rfl (lv_at hl 0 rfl) ?_
      refine lv_iload_n X.hx X.hb dX3_firstAlike_8 rfl (lv_at hl 3 rfl) ?_
      refine lv_iload_n X.hx X.hb dX3_firstAlike_9 rfl (lv_at hl 1 rfl) ?_
      obtain ⟨b10, h10, hf⟩ := bnd hf
      refine cl_i (run_V (As := [.int x3, .int x1]) (rest := []) X (w_X3_isHead l V A ad h10) mw_X3_isHead ln_X3_39 (rcX3 X hW) hW hS rfl hl.1 rfl (Nat.le_of_ble_eq_true rfl) ⟨Nat.le_of_ble_eq_true rfl, Nat.le_of_ble_eq_true rfl⟩ ⟨Nat.le_refl _, Nat.le_refl _⟩ dX3_firstAlike_10) hS (fun H locs hW hS => ?_)
      refine lv_if_eq (tgt := 28) X.hx X.hb dX3_firstAlike_13 (by decide) (fun c13 => ?_) (fun c13 => ?_)
      · replace hf := ite_t c13 hf
        exact f_X3_firstAlike_J28_w X hr hlk hr2 _ _ _ _ _ _  hf hW hS (lv_sub hl [0, 1, 2, 3] rfl)
      · replace hf := ite_f c13 hf
        refine lv_aload_n X.hx X.hb dX3_firstAlike_16 rfl (lv_at hl 0 rfl) ?_
        refine lv_iload_n X.hx X.hb dX3_firstAlike_17 rfl (lv_at hl 1 rfl) ?_
        refine lv_iload_n X.hx X.hb dX3_firstAlike_18 rfl (lv_at hl 3 rfl) ?_
        refine lv_iload_n X.hx X.hb dX3_firstAlike_19 rfl (lv_at hl 2 rfl) ?_
        obtain ⟨b20, h20, hf⟩ := bnd hf
        refine cl_i (run_V (As := [.int x1, .int x3, .int x2]) (rest := []) X (w_X3_sameRests l V A ad h20) mw_X3_sameRests ln_X3_67 (rcX3 X hW) hW hS rfl hl.1 rfl (Nat.le_of_ble_eq_true rfl) ⟨Nat.le_of_ble_eq_true rfl, Nat.le_of_ble_eq_true rfl⟩ ⟨Nat.le_refl _, Nat.le_refl _⟩ dX3_firstAlike_20) hS (fun H locs hW hS => ?_)
        refine lv_if_eq (tgt := 28) X.hx X.hb dX3_firstAlike_23 (by decide) (fun c23 => ?_) (fun c23 => ?_)
        · replace hf := ite_t c23 hf
          exact f_X3_firstAlike_J28_w X hr hlk hr2 _ _ _ _ _ _  hf hW hS (lv_sub hl [0, 1, 2, 3] rfl)
        · replace hf := ite_f c23 hf
          refine lv_iload_n X.hx X.hb dX3_firstAlike_26 rfl (lv_at hl 3 rfl) ?_
          exact rt_i X hr hlk hW hS (Option.some.inj hf) (Nat.le_refl _) (Nat.le_refl _) dX3_firstAlike_27
noncomputable def f_X3_firstAlike (st : St) (a1 : Int32) (a2 : Int32) : Option Int32 := f_X3_firstAlike_L2 st FU a1 a2 0
set_option maxRecDepth 100000 in
theorem w_X3_firstAlike (l : Launch) (V : Ev) (A : Nat → Prop) (ad : Nat → Nat) {st : St} {a1 : Int32} {a2 : Int32} {res : Int32} (hf : f_X3_firstAlike st a1 a2 = some res) : Cn l yX3_firstAlike cX3_firstAlike 4 (some .int) 2 50 0 0 V A (WdC V ad A) st [.ref (ad 4), .int a1, .int a2] (Qwi A (WdC V ad A) res st) := by
  refine cn_of RX3 (by decide) rfl (fun p e s m below meth c ls X hr hlk hW hS hl => ?_) (Nat.le_of_ble_eq_true rfl)
  have hl : lv_has ls 4 [(0, .ref (ad 4)), (1, .int a1), (2, .int a2)] := hl
  unfold f_X3_firstAlike at hf
  refine lv_iconst (v := 0) X.hx X.hb dX3_firstAlike_0 (by decide) ?_
  refine lv_istore_n (lv' := [(3, .int 0), (0, .ref (ad 4)), (1, .int a1), (2, .int a2)]) X.hx X.hb dX3_firstAlike_1 rfl hl (by decide) rfl (fun ls hl => ?_)
  exact f_X3_firstAlike_L2_w X hr hlk FU _ _ _ _ _ _  hf hW hS (lv_sub hl [1, 2, 3, 0] rfl)
-- WordSquares$Prefixes.build
noncomputable def f_X3_build_J68 (r2 : St → Int32 → Option St) (r25 : St → Int32 → Int32 → Option St) (st : St) (x1 : Int32) (x2 : Int32) : Option St := lt (x2 + 1) fun w68 => r25 st x1 w68
theorem f_X3_build_J68_l {r2 : St → Int32 → Option St} {r25 : St → Int32 → Int32 → Option St} {res : St} (hq2 : ∀ (st : St) (x1 : Int32), r2 st x1 = some res → phi res = phi st) (hq25 : ∀ (st : St) (x1 : Int32) (x2 : Int32), r25 st x1 x2 = some res → phi res = phi st) (st : St) (x1 : Int32) (x2 : Int32) (hf : f_X3_build_J68 r2 r25 st x1 x2 = some res) : phi res = phi st := by
  unfold f_X3_build_J68 at hf
  obtain ⟨w68, e68, hf⟩ := lt_e hf
  have q9 := hq25 _ _ _ hf
  omega
set_option maxRecDepth 100000 in
theorem f_X3_build_J68_w {r2 : St → Int32 → Option St} {r25 : St → Int32 → Int32 → Option St} {res : St} (X : Cx V A cX3_build 3 RX3 p m c s args) (hr : meth.sig.returnType = none) (hlk : meth.locks = false) (hr2 : ∀ (st : St) (x1 : Int32) (H : Heap) (locs : List Loc) (ls : Array Slot), r2 st x1 = some res → (WdC V ad A) st H → va_S A s.heap H locs → lv_has ls 3 [(0, .ref (ad 4)), (1, .int x1)] → W p l e (rmF 3 73 0 0) s m args below meth c H locs 0 0 (MQ below (Qwv A (WdC V ad A) res) args s 0 0 A) (F0 m 2 ls [])) (hr25 : ∀ (st : St) (x1 : Int32) (x2 : Int32) (H : Heap) (locs : List Loc) (ls : Array Slot), r25 st x1 x2 = some res → (WdC V ad A) st H → va_S A s.heap H locs → lv_has ls 3 [(0, .ref (ad 4)), (1, .int x1), (2, .int x2)] → W p l e (rmF 3 73 0 0) s m args below meth c H locs 0 0 (MQ below (Qwv A (WdC V ad A) res) args s 0 0 A) (F0 m 25 ls [])) (st : St) (x1 : Int32) (x2 : Int32) (H : Heap) (locs : List Loc) (ls : Array Slot)  (hf : f_X3_build_J68 r2 r25 st x1 x2 = some res) (hW : (WdC V ad A) st H) (hS : va_S A s.heap H locs) (hl : lv_has ls 3 [(0, .ref (ad 4)), (1, .int x1), (2, .int x2)]) : W p l e (rmF 3 73 0 0) s m args below meth c H locs 0 0 (MQ below (Qwv A (WdC V ad A) res) args s 0 0 A) (F0 m 68 ls []) := by
  
  unfold f_X3_build_J68 at hf
  obtain ⟨w68, e68, hf⟩ := lt_e hf
  refine lv_iinc (v := w68) (lv' := [(2, .int w68), (0, .ref (ad 4)), (1, .int x1)]) X.hx X.hb dX3_build_68 hl (k := 2) rfl (by rw [e68]; rfl) (by decide) rfl (fun ls hl => ?_)
  refine lv_goto (tgt := 25) X.hx X.hb dX3_build_71 (by decide) ?_
  exact hr25 _ _ _ _ _ _  hf hW hS (lv_sub hl [1, 2, 0] rfl)
noncomputable def f_X3_build_L25 (r2 : St → Int32 → Option St) : Nat → St → Int32 → Int32 → Option St
  | 0, _, _, _ => none
  | fu + 1, st, x1, x2 => (f_X6_size st).bind fun b30 => if b30 ≤ x2 then lt (x1 + 1) fun w74 => r2 st w74 else (f_X3_isHead st x2 x1).bind fun b39 => if b39 = 0 then f_X3_build_J68 r2 ((f_X3_build_L25 r2 fu)) st x1 x2 else (f_X3_buildTakers st x1 x2).bind fun b48 => if inb x1 4 = true then (f_X3_firstAlike b48 x1 x2).bind fun b64 => if inb (x2 &&& 15) 16 = true then lt (sA b48 (34 + x1.toNatClampNeg) (x2 &&& 15).toNatClampNeg b64) fun s67 => f_X3_build_J68 r2 ((f_X3_build_L25 r2 fu)) s67 x1 x2 else none else none
theorem f_X3_build_L25_l {r2 : St → Int32 → Option St} {res : St} (hq2 : ∀ (st : St) (x1 : Int32), r2 st x1 = some res → phi res = phi st) : ∀ (n9 : Nat) (st : St) (x1 : Int32) (x2 : Int32), f_X3_build_L25 r2 n9 st x1 x2 = some res → phi res = phi st := by
  intro n9
  induction n9 with
  | zero =>
    intro st x1 x2 hf
    exact absurd hf (by unfold f_X3_build_L25; exact fun h => by cases h)
  | succ n9 hq25 =>
    intro st x1 x2 hf
    unfold f_X3_build_L25 at hf
    obtain ⟨b30, h30, hf⟩ := bnd hf
    by_cases c33 : b30 ≤ x2
    · replace hf := ite_t c33 hf
      obtain ⟨w74, e74, hf⟩ := lt_e hf
      have q9 := hq2 _ _ hf
      omega
    · replace hf := ite_f c33 hf
      obtain ⟨b39, h39, hf⟩ := bnd hf
      by_cases c42 : b39 = 0
      · replace hf := ite_t c42 hf
        have q9 := f_X3_build_J68_l hq2 hq25 _ _ _ hf
        omega
      · replace hf := ite_f c42 hf
        obtain ⟨b48, h48, hf⟩ := bnd hf
        have p48 := l_X3_buildTakers h48
        obtain ⟨h56, hf⟩ := ite_n hf
        obtain ⟨b64, h64, hf⟩ := bnd hf
        obtain ⟨h67, hf⟩ := ite_n hf
        obtain ⟨s67, e67, hf⟩ := lt_e hf
        have p67 : phi s67 = phi b48 := by rw [e67]; rfl
        have q9 := f_X3_build_J68_l hq2 hq25 _ _ _ hf
        omega
set_option maxRecDepth 100000 in
theorem f_X3_build_L25_w {r2 : St → Int32 → Option St} {res : St} (X : Cx V A cX3_build 3 RX3 p m c s args) (hr : meth.sig.returnType = none) (hlk : meth.locks = false) (hr2 : ∀ (st : St) (x1 : Int32) (H : Heap) (locs : List Loc) (ls : Array Slot), r2 st x1 = some res → (WdC V ad A) st H → va_S A s.heap H locs → lv_has ls 3 [(0, .ref (ad 4)), (1, .int x1)] → W p l e (rmF 3 73 0 0) s m args below meth c H locs 0 0 (MQ below (Qwv A (WdC V ad A) res) args s 0 0 A) (F0 m 2 ls [])) : ∀ (n9 : Nat) (st : St) (x1 : Int32) (x2 : Int32) (H : Heap) (locs : List Loc) (ls : Array Slot), f_X3_build_L25 r2 n9 st x1 x2 = some res → (WdC V ad A) st H → va_S A s.heap H locs → lv_has ls 3 [(0, .ref (ad 4)), (1, .int x1), (2, .int x2)] → W p l e (rmF 3 73 0 0) s m args below meth c H locs 0 0 (MQ below (Qwv A (WdC V ad A) res) args s 0 0 A) (F0 m 25 ls []) := by
  intro n9
  induction n9 with
  | zero =>
    intro st x1 x2 H locs ls hf
    exact absurd hf (by unfold f_X3_build_L25; exact fun h => by cases h)
  | succ n9 hr25 =>
    intro st x1 x2 H locs ls hf hW hS hl
    
    unfold f_X3_build_L25 at hf
    refine lv_iload_n X.hx X.hb dX3_build_25 rfl (lv_at hl 2 rfl) ?_
    refine lv_aload_n X.hx X.hb dX3_build_26 rfl (lv_at hl 0 rfl) ?_
    refine gX3_list X hW dX3_build_27 ?_
    obtain ⟨b30, h30, hf⟩ := bnd hf
    refine cl_i (run_V (As := []) (rest := [.int x2]) X (w_X6_size l V A ad h30) mw_X6_size ln_X3_36 (rcX6 X hW) hW hS rfl hl.1 rfl (Nat.le_of_ble_eq_true rfl) ⟨Nat.le_of_ble_eq_true rfl, Nat.le_of_ble_eq_true rfl⟩ ⟨Nat.le_refl _, Nat.le_refl _⟩ dX3_build_30) hS (fun H locs hW hS => ?_)
    refine lv_icmp_ge (tgt := 74) X.hx X.hb dX3_build_33 (by decide) (fun c33 => ?_) (fun c33 => ?_)
    · replace hf := ite_t c33 hf
      obtain ⟨w74, e74, hf⟩ := lt_e hf
      refine lv_iinc (v := w74) (lv' := [(1, .int w74), (0, .ref (ad 4)), (2, .int x2)]) X.hx X.hb dX3_build_74 hl (k := 1) rfl (by rw [e74]; rfl) (by decide) rfl (fun ls hl => ?_)
      refine lv_goto (tgt := 2) X.hx X.hb dX3_build_77 (by decide) ?_
      exact hr2 _ _ _ _ _  hf hW hS (lv_sub hl [1, 0] rfl)
    · replace hf := ite_f c33 hf
      refine lv_aload_n X.hx X.hb dX3_build_36 rfl (lv_at hl 0 rfl) ?_
      refine lv_iload_n X.hx X.hb dX3_build_37 rfl (lv_at hl 2 rfl) ?_
      refine lv_iload_n X.hx X.hb dX3_build_38 rfl (lv_at hl 1 rfl) ?_
      obtain ⟨b39, h39, hf⟩ := bnd hf
      refine cl_i (run_V (As := [.int x2, .int x1]) (rest := []) X (w_X3_isHead l V A ad h39) mw_X3_isHead ln_X3_39 (rcX3 X hW) hW hS rfl hl.1 rfl (Nat.le_of_ble_eq_true rfl) ⟨Nat.le_of_ble_eq_true rfl, Nat.le_of_ble_eq_true rfl⟩ ⟨Nat.le_refl _, Nat.le_refl _⟩ dX3_build_39) hS (fun H locs hW hS => ?_)
      refine lv_if_eq (tgt := 68) X.hx X.hb dX3_build_42 (by decide) (fun c42 => ?_) (fun c42 => ?_)
      · replace hf := ite_t c42 hf
        exact f_X3_build_J68_w X hr hlk hr2 hr25 _ _ _ _ _ _  hf hW hS (lv_sub hl [0, 1, 2] rfl)
      · replace hf := ite_f c42 hf
        refine lv_aload_n X.hx X.hb dX3_build_45 rfl (lv_at hl 0 rfl) ?_
        refine lv_iload_n X.hx X.hb dX3_build_46 rfl (lv_at hl 1 rfl) ?_
        refine lv_iload_n X.hx X.hb dX3_build_47 rfl (lv_at hl 2 rfl) ?_
        obtain ⟨b48, h48, hf⟩ := bnd hf
        refine cl_v (run_V (As := [.int x1, .int x2]) (rest := []) X (w_X3_buildTakers l V A ad h48) mw_X3_buildTakers ln_X3_43 (rcX3 X hW) hW hS rfl hl.1 rfl (Nat.le_of_ble_eq_true rfl) ⟨Nat.le_of_ble_eq_true rfl, Nat.le_of_ble_eq_true rfl⟩ ⟨Nat.le_refl _, Nat.le_refl _⟩ dX3_build_48) hS (fun H locs hW hS => ?_)
        refine lv_aload_n X.hx X.hb dX3_build_51 rfl (lv_at hl 0 rfl) ?_
        refine gX3_likes X hW dX3_build_52 ?_
        refine lv_iload_n X.hx X.hb dX3_build_55 rfl (lv_at hl 1 rfl) ?_
        obtain ⟨h56, hf⟩ := ite_n hf
        refine oC_33 X hW h56 dX3_build_56 ?_
        refine lv_iload_n X.hx X.hb dX3_build_57 rfl (lv_at hl 2 rfl) ?_
        refine lv_bipush (v := 15) X.hx X.hb dX3_build_58 (by decide) ?_
        refine lv_iand X.hx X.hb dX3_build_60 ?_
        refine lv_aload_n X.hx X.hb dX3_build_61 rfl (lv_at hl 0 rfl) ?_
        refine lv_iload_n X.hx X.hb dX3_build_62 rfl (lv_at hl 1 rfl) ?_
        refine lv_iload_n X.hx X.hb dX3_build_63 rfl (lv_at hl 2 rfl) ?_
        obtain ⟨b64, h64, hf⟩ := bnd hf
        refine cl_i (run_V (As := [.int x1, .int x2]) (rest := [.int (x2 &&& 15), .ref (ad (34 + x1.toNatClampNeg))]) X (w_X3_firstAlike l V A ad h64) mw_X3_firstAlike ln_X3_47 (rcX3 X hW) hW hS rfl hl.1 rfl (Nat.le_of_ble_eq_true rfl) ⟨Nat.le_of_ble_eq_true rfl, Nat.le_of_ble_eq_true rfl⟩ ⟨Nat.le_refl _, Nat.le_refl _⟩ dX3_build_64) hS (fun H locs hW hS => ?_)
        obtain ⟨h67, hf⟩ := ite_n hf
        obtain ⟨s67, e67, hf⟩ := lt_e hf
        refine aC_st X hW hS (isA_34 h56) (aln_34 h56) h67 dX3_build_67 (fun H locs hW hS => ?_)
        rw [← e67] at hW
        exact f_X3_build_J68_w X hr hlk hr2 hr25 _ _ _ _ _ _  hf hW hS (lv_sub hl [0, 1, 2] rfl)
noncomputable def f_X3_build_L2 : Nat → St → Int32 → Option St
  | 0, _, _ => none
  | fu + 1, st, x1 => (f_X6_length st).bind fun b7 => if b7 ≤ x1 then some st else if 4 ≤ x1 then some st else (f_X3_buildLonger st x1).bind fun b20 => f_X3_build_L25 ((f_X3_build_L2 fu)) FU b20 x1 0
theorem f_X3_build_L2_l {res : St} : ∀ (n9 : Nat) (st : St) (x1 : Int32), f_X3_build_L2 n9 st x1 = some res → phi res = phi st := by
  intro n9
  induction n9 with
  | zero =>
    intro st x1 hf
    exact absurd hf (by unfold f_X3_build_L2; exact fun h => by cases h)
  | succ n9 hq2 =>
    intro st x1 hf
    unfold f_X3_build_L2 at hf
    obtain ⟨b7, h7, hf⟩ := bnd hf
    by_cases c10 : b7 ≤ x1
    · replace hf := ite_t c10 hf
      have q9 := congrArg phi (Option.some.inj hf)
      omega
    · replace hf := ite_f c10 hf
      by_cases c15 : 4 ≤ x1
      · replace hf := ite_t c15 hf
        have q9 := congrArg phi (Option.some.inj hf)
        omega
      · replace hf := ite_f c15 hf
        obtain ⟨b20, h20, hf⟩ := bnd hf
        have p20 := l_X3_buildLonger h20
        have q9 := f_X3_build_L25_l hq2 FU _ _ _ hf
        omega
set_option maxRecDepth 100000 in
theorem f_X3_build_L2_w {res : St} (X : Cx V A cX3_build 3 RX3 p m c s args) (hr : meth.sig.returnType = none) (hlk : meth.locks = false)  : ∀ (n9 : Nat) (st : St) (x1 : Int32) (H : Heap) (locs : List Loc) (ls : Array Slot), f_X3_build_L2 n9 st x1 = some res → (WdC V ad A) st H → va_S A s.heap H locs → lv_has ls 3 [(0, .ref (ad 4)), (1, .int x1)] → W p l e (rmF 3 73 0 0) s m args below meth c H locs 0 0 (MQ below (Qwv A (WdC V ad A) res) args s 0 0 A) (F0 m 2 ls []) := by
  intro n9
  induction n9 with
  | zero =>
    intro st x1 H locs ls hf
    exact absurd hf (by unfold f_X3_build_L2; exact fun h => by cases h)
  | succ n9 hr2 =>
    intro st x1 H locs ls hf hW hS hl
    
    unfold f_X3_build_L2 at hf
    refine lv_iload_n X.hx X.hb dX3_build_2 rfl (lv_at hl 1 rfl) ?_
    refine lv_aload_n X.hx X.hb dX3_build_3 rfl (lv_at hl 0 rfl) ?_
    refine gX3_list X hW dX3_build_4 ?_
    obtain ⟨b7, h7, hf⟩ := bnd hf
    refine cl_i (run_V (As := []) (rest := [.int x1]) X (w_X6_length l V A ad h7) mw_X6_length ln_X3_26 (rcX6 X hW) hW hS rfl hl.1 rfl (Nat.le_of_ble_eq_true rfl) ⟨Nat.le_of_ble_eq_true rfl, Nat.le_of_ble_eq_true rfl⟩ ⟨Nat.le_refl _, Nat.le_refl _⟩ dX3_build_7) hS (fun H locs hW hS => ?_)
    refine lv_icmp_ge (tgt := 80) X.hx X.hb dX3_build_10 (by decide) (fun c10 => ?_) (fun c10 => ?_)
    · replace hf := ite_t c10 hf
      exact rt_v X hr hlk (by rw [← Option.some.inj hf]; exact hW) hS (Nat.le_refl _) (Nat.le_refl _) dX3_build_80
    · replace hf := ite_f c10 hf
      refine lv_iload_n X.hx X.hb dX3_build_13 rfl (lv_at hl 1 rfl) ?_
      refine lv_iconst (v := 4) X.hx X.hb dX3_build_14 (by decide) ?_
      refine lv_icmp_ge (tgt := 80) X.hx X.hb dX3_build_15 (by decide) (fun c15 => ?_) (fun c15 => ?_)
      · replace hf := ite_t c15 hf
        exact rt_v X hr hlk (by rw [← Option.some.inj hf]; exact hW) hS (Nat.le_refl _) (Nat.le_refl _) dX3_build_80
      · replace hf := ite_f c15 hf
        refine lv_aload_n X.hx X.hb dX3_build_18 rfl (lv_at hl 0 rfl) ?_
        refine lv_iload_n X.hx X.hb dX3_build_19 rfl (lv_at hl 1 rfl) ?_
        obtain ⟨b20, h20, hf⟩ := bnd hf
        refine cl_v (run_V (As := [.int x1]) (rest := []) X (w_X3_buildLonger l V A ad h20) mw_X3_buildLonger ln_X3_32 (rcX3 X hW) hW hS rfl hl.1 rfl (Nat.le_of_ble_eq_true rfl) ⟨Nat.le_of_ble_eq_true rfl, Nat.le_of_ble_eq_true rfl⟩ ⟨Nat.le_refl _, Nat.le_refl _⟩ dX3_build_20) hS (fun H locs hW hS => ?_)
        refine lv_iconst (v := 0) X.hx X.hb dX3_build_23 (by decide) ?_
        refine lv_istore_n (lv' := [(2, .int 0), (0, .ref (ad 4)), (1, .int x1)]) X.hx X.hb dX3_build_24 rfl hl (by decide) rfl (fun ls hl => ?_)
        exact f_X3_build_L25_w X hr hlk hr2 FU _ _ _ _ _ _  hf hW hS (lv_sub hl [1, 2, 0] rfl)
noncomputable def f_X3_build (st : St) : Option St := f_X3_build_L2 FU st 0
theorem l_X3_build {st : St} {res : St} (hf : f_X3_build st = some res) : phi res = phi st := by
  unfold f_X3_build at hf
  have q9 := f_X3_build_L2_l  FU _ _ hf
  omega
set_option maxRecDepth 100000 in
theorem w_X3_build (l : Launch) (V : Ev) (A : Nat → Prop) (ad : Nat → Nat) {st : St} {res : St} (hf : f_X3_build st = some res) : Cn l yX3_build cX3_build 3 none 3 73 0 0 V A (WdC V ad A) st [.ref (ad 4)] (Qwv A (WdC V ad A) res) := by
  refine cn_of RX3 (by decide) rfl (fun p e s m below meth c ls X hr hlk hW hS hl => ?_) (Nat.le_of_ble_eq_true rfl)
  have hl : lv_has ls 3 [(0, .ref (ad 4))] := hl
  unfold f_X3_build at hf
  refine lv_iconst (v := 0) X.hx X.hb dX3_build_0 (by decide) ?_
  refine lv_istore_n (lv' := [(1, .int 0), (0, .ref (ad 4))]) X.hx X.hb dX3_build_1 rfl hl (by decide) rfl (fun ls hl => ?_)
  exact f_X3_build_L2_w X hr hlk FU _ _ _ _ _  hf hW hS (lv_sub hl [1, 0] rfl)
-- WordSquares$Finder.countSymmetric
noncomputable def f_X2_countSymmetric_L2 : Nat → St → Int32 → Int32 → Option St
  | 0, _, _, _ => none
  | fu + 1, st, x1, x2 => if 16 ≤ x2 then some st else if inb x2 16 = true then if inb x2 16 = true then lt (sA st 16 x2.toNatClampNeg ((st.2.1 16 x2.toNatClampNeg) + ((x1 >>> (x2 &&& 31)) &&& 1))) fun s21 => lt (x2 + 1) fun w22 => (f_X2_countSymmetric_L2 fu) s21 x1 w22 else none else none
theorem f_X2_countSymmetric_L2_l {res : St} : ∀ (n9 : Nat) (st : St) (x1 : Int32) (x2 : Int32), f_X2_countSymmetric_L2 n9 st x1 x2 = some res → phi res = phi st := by
  intro n9
  induction n9 with
  | zero =>
    intro st x1 x2 hf
    exact absurd hf (by unfold f_X2_countSymmetric_L2; exact fun h => by cases h)
  | succ n9 hq2 =>
    intro st x1 x2 hf
    unfold f_X2_countSymmetric_L2 at hf
    by_cases c5 : 16 ≤ x2
    · replace hf := ite_t c5 hf
      have q9 := congrArg phi (Option.some.inj hf)
      omega
    · replace hf := ite_f c5 hf
      obtain ⟨h14, hf⟩ := ite_n hf
      obtain ⟨h21, hf⟩ := ite_n hf
      obtain ⟨s21, e21, hf⟩ := lt_e hf
      have p21 : phi s21 = phi st := by rw [e21]; rfl
      obtain ⟨w22, e22, hf⟩ := lt_e hf
      have q9 := hq2 _ _ _ hf
      omega
set_option maxRecDepth 100000 in
theorem f_X2_countSymmetric_L2_w {res : St} (X : Cx V A cX2_countSymmetric 3 RX2 p m c s args) (hr : meth.sig.returnType = none) (hlk : meth.locks = false)  : ∀ (n9 : Nat) (st : St) (x1 : Int32) (x2 : Int32) (H : Heap) (locs : List Loc) (ls : Array Slot), f_X2_countSymmetric_L2 n9 st x1 x2 = some res → (WdC V ad A) st H → va_S A s.heap H locs → lv_has ls 3 [(0, .ref (ad 3)), (1, .int x1), (2, .int x2)] → W p l e (rmF 0 0 0 0) s m args below meth c H locs 0 0 (MQ below (Qwv A (WdC V ad A) res) args s 0 0 A) (F0 m 2 ls []) := by
  intro n9
  induction n9 with
  | zero =>
    intro st x1 x2 H locs ls hf
    exact absurd hf (by unfold f_X2_countSymmetric_L2; exact fun h => by cases h)
  | succ n9 hr2 =>
    intro st x1 x2 H locs ls hf hW hS hl
    
    unfold f_X2_countSymmetric_L2 at hf
    refine lv_iload_n X.hx X.hb dX2_countSymmetric_2 rfl (lv_at hl 2 rfl) ?_
    refine lv_bipush (v := 16) X.hx X.hb dX2_countSymmetric_3 (by decide) ?_
    refine lv_icmp_ge (tgt := 28) X.hx X.hb dX2_countSymmetric_5 (by decide) (fun c5 => ?_) (fun c5 => ?_)
    · replace hf := ite_t c5 hf
      exact rt_v X hr hlk (by rw [← Option.some.inj hf]; exact hW) hS (Nat.le_refl _) (Nat.le_refl _) dX2_countSymmetric_28
    · replace hf := ite_f c5 hf
      refine lv_aload_n X.hx X.hb dX2_countSymmetric_8 rfl (lv_at hl 0 rfl) ?_
      refine gX2_inSymmetric X hW dX2_countSymmetric_9 ?_
      refine lv_iload_n X.hx X.hb dX2_countSymmetric_12 rfl (lv_at hl 2 rfl) ?_
      refine lv_dup2_11 X.hx X.hb dX2_countSymmetric_13 rfl rfl ?_
      obtain ⟨h14, hf⟩ := ite_n hf
      refine aC_ld X hW isA_16 rfl h14 dX2_countSymmetric_14 ?_
      refine lv_iload_n X.hx X.hb dX2_countSymmetric_15 rfl (lv_at hl 1 rfl) ?_
      refine lv_iload_n X.hx X.hb dX2_countSymmetric_16 rfl (lv_at hl 2 rfl) ?_
      refine lv_ishr X.hx X.hb dX2_countSymmetric_17 ?_
      refine lv_iconst (v := 1) X.hx X.hb dX2_countSymmetric_18 (by decide) ?_
      refine lv_iand X.hx X.hb dX2_countSymmetric_19 ?_
      refine lv_iadd X.hx X.hb dX2_countSymmetric_20 ?_
      obtain ⟨h21, hf⟩ := ite_n hf
      obtain ⟨s21, e21, hf⟩ := lt_e hf
      refine aC_st X hW hS isA_16 rfl h21 dX2_countSymmetric_21 (fun H locs hW hS => ?_)
      rw [← e21] at hW
      obtain ⟨w22, e22, hf⟩ := lt_e hf
      refine lv_iinc (v := w22) (lv' := [(2, .int w22), (0, .ref (ad 3)), (1, .int x1)]) X.hx X.hb dX2_countSymmetric_22 hl (k := 2) rfl (by rw [e22]; rfl) (by decide) rfl (fun ls hl => ?_)
      refine lv_goto (tgt := 2) X.hx X.hb dX2_countSymmetric_25 (by decide) ?_
      exact hr2 _ _ _ _ _ _  hf hW hS (lv_sub hl [1, 2, 0] rfl)
noncomputable def f_X2_countSymmetric (st : St) (a1 : Int32) : Option St := f_X2_countSymmetric_L2 FU st a1 0
theorem l_X2_countSymmetric {st : St} {a1 : Int32} {res : St} (hf : f_X2_countSymmetric st a1 = some res) : phi res = phi st := by
  unfold f_X2_countSymmetric at hf
  have q9 := f_X2_countSymmetric_L2_l  FU _ _ _ hf
  omega
set_option maxRecDepth 100000 in
theorem w_X2_countSymmetric (l : Launch) (V : Ev) (A : Nat → Prop) (ad : Nat → Nat) {st : St} {a1 : Int32} {res : St} (hf : f_X2_countSymmetric st a1 = some res) : Cn l yX2_countSymmetric cX2_countSymmetric 3 none 0 0 0 0 V A (WdC V ad A) st [.ref (ad 3), .int a1] (Qwv A (WdC V ad A) res) := by
  refine cn_of RX2 (by decide) rfl (fun p e s m below meth c ls X hr hlk hW hS hl => ?_) (Nat.le_of_ble_eq_true rfl)
  have hl : lv_has ls 3 [(0, .ref (ad 3)), (1, .int a1)] := hl
  unfold f_X2_countSymmetric at hf
  refine lv_iconst (v := 0) X.hx X.hb dX2_countSymmetric_0 (by decide) ?_
  refine lv_istore_n (lv' := [(2, .int 0), (0, .ref (ad 3)), (1, .int a1)]) X.hx X.hb dX2_countSymmetric_1 rfl hl (by decide) rfl (fun ls hl => ?_)
  exact f_X2_countSymmetric_L2_w X hr hlk FU _ _ _ _ _ _  hf hW hS (lv_sub hl [1, 2, 0] rfl)
-- java/lang/Integer.bitCount
noncomputable def f_J6_bitCount_0f7a4 (a0 : Int32) : Option Int32 := lt (a0 - (((a0.toUInt32 >>> (Int32.toUInt32 1 &&& Int32.toUInt32 31)).toInt32) &&& 1431655765)) fun w9 => lt ((w9 &&& 858993459) + (((w9.toUInt32 >>> (Int32.toUInt32 2 &&& Int32.toUInt32 31)).toInt32) &&& 858993459)) fun w23 => lt ((w23 + ((w23.toUInt32 >>> (Int32.toUInt32 4 &&& Int32.toUInt32 31)).toInt32)) &&& 252645135) fun w33 => lt (w33 + ((w33.toUInt32 >>> (Int32.toUInt32 8 &&& Int32.toUInt32 31)).toInt32)) fun w40 => lt (w40 + ((w40.toUInt32 >>> (Int32.toUInt32 16 &&& Int32.toUInt32 31)).toInt32)) fun w47 => some (w47 &&& 63)
set_option maxRecDepth 100000 in
theorem w_J6_bitCount_0f7a4 (l : Launch) (V : Ev) (A : Nat → Prop) (Wd : St → Heap → Prop) (st : St) {a0 : Int32} {res : Int32} (hf : f_J6_bitCount_0f7a4 a0 = some res) : Cn l yJ6_bitCount_0f7a4 cJ6_bitCount_0f7a4 1 (some .int) 0 0 0 0 V A Wd st [.int a0] (Qwi A Wd res st) := by
  refine cn_of RJ6 (by decide) rfl (fun p e s m below meth c ls X hr hlk hW hS hl => ?_) (Nat.le_of_ble_eq_true rfl)
  have hl : lv_has ls 1 [(0, .int a0)] := hl
  unfold f_J6_bitCount_0f7a4 at hf
  refine lv_iload_n X.hx X.hb dJ6_bitCount_0f7a4_0 rfl (lv_at hl 0 rfl) ?_
  refine lv_iload_n X.hx X.hb dJ6_bitCount_0f7a4_1 rfl (lv_at hl 0 rfl) ?_
  refine lv_iconst (v := 1) X.hx X.hb dJ6_bitCount_0f7a4_2 (by decide) ?_
  refine lv_iushr X.hx X.hb dJ6_bitCount_0f7a4_3 rfl ?_
  refine lv_ldcw (v := 1431655765) X.hx X.hb X.ho (X.ts kn_J6_265) dJ6_bitCount_0f7a4_4 ?_
  refine lv_iand X.hx X.hb dJ6_bitCount_0f7a4_7 ?_
  refine lv_isub X.hx X.hb dJ6_bitCount_0f7a4_8 ?_
  obtain ⟨w9, e9, hf⟩ := lt_e hf
  refine lv_nm e9 ?_
  refine lv_istore_n (lv' := [(0, .int w9)]) X.hx X.hb dJ6_bitCount_0f7a4_9 rfl hl (by decide) rfl (fun ls hl => ?_)
  refine lv_iload_n X.hx X.hb dJ6_bitCount_0f7a4_10 rfl (lv_at hl 0 rfl) ?_
  refine lv_ldcw (v := 858993459) X.hx X.hb X.ho (X.ts kn_J6_266) dJ6_bitCount_0f7a4_11 ?_
  refine lv_iand X.hx X.hb dJ6_bitCount_0f7a4_14 ?_
  refine lv_iload_n X.hx X.hb dJ6_bitCount_0f7a4_15 rfl (lv_at hl 0 rfl) ?_
  refine lv_iconst (v := 2) X.hx X.hb dJ6_bitCount_0f7a4_16 (by decide) ?_
  refine lv_iushr X.hx X.hb dJ6_bitCount_0f7a4_17 rfl ?_
  refine lv_ldcw (v := 858993459) X.hx X.hb X.ho (X.ts kn_J6_266) dJ6_bitCount_0f7a4_18 ?_
  refine lv_iand X.hx X.hb dJ6_bitCount_0f7a4_21 ?_
  refine lv_iadd X.hx X.hb dJ6_bitCount_0f7a4_22 ?_
  obtain ⟨w23, e23, hf⟩ := lt_e hf
  refine lv_nm e23 ?_
  refine lv_istore_n (lv' := [(0, .int w23)]) X.hx X.hb dJ6_bitCount_0f7a4_23 rfl hl (by decide) rfl (fun ls hl => ?_)
  refine lv_iload_n X.hx X.hb dJ6_bitCount_0f7a4_24 rfl (lv_at hl 0 rfl) ?_
  refine lv_iload_n X.hx X.hb dJ6_bitCount_0f7a4_25 rfl (lv_at hl 0 rfl) ?_
  refine lv_iconst (v := 4) X.hx X.hb dJ6_bitCount_0f7a4_26 (by decide) ?_
  refine lv_iushr X.hx X.hb dJ6_bitCount_0f7a4_27 rfl ?_
  refine lv_iadd X.hx X.hb dJ6_bitCount_0f7a4_28 ?_
  refine lv_ldcw (v := 252645135) X.hx X.hb X.ho (X.ts kn_J6_267) dJ6_bitCount_0f7a4_29 ?_
  refine lv_iand X.hx X.hb dJ6_bitCount_0f7a4_32 ?_
  obtain ⟨w33, e33, hf⟩ := lt_e hf
  refine lv_nm e33 ?_
  refine lv_istore_n (lv' := [(0, .int w33)]) X.hx X.hb dJ6_bitCount_0f7a4_33 rfl hl (by decide) rfl (fun ls hl => ?_)
  refine lv_iload_n X.hx X.hb dJ6_bitCount_0f7a4_34 rfl (lv_at hl 0 rfl) ?_
  refine lv_iload_n X.hx X.hb dJ6_bitCount_0f7a4_35 rfl (lv_at hl 0 rfl) ?_
  refine lv_bipush (v := 8) X.hx X.hb dJ6_bitCount_0f7a4_36 (by decide) ?_
  refine lv_iushr X.hx X.hb dJ6_bitCount_0f7a4_38 rfl ?_
  refine lv_iadd X.hx X.hb dJ6_bitCount_0f7a4_39 ?_
  obtain ⟨w40, e40, hf⟩ := lt_e hf
  refine lv_nm e40 ?_
  refine lv_istore_n (lv' := [(0, .int w40)]) X.hx X.hb dJ6_bitCount_0f7a4_40 rfl hl (by decide) rfl (fun ls hl => ?_)
  refine lv_iload_n X.hx X.hb dJ6_bitCount_0f7a4_41 rfl (lv_at hl 0 rfl) ?_
  refine lv_iload_n X.hx X.hb dJ6_bitCount_0f7a4_42 rfl (lv_at hl 0 rfl) ?_
  refine lv_bipush (v := 16) X.hx X.hb dJ6_bitCount_0f7a4_43 (by decide) ?_
  refine lv_iushr X.hx X.hb dJ6_bitCount_0f7a4_45 rfl ?_
  refine lv_iadd X.hx X.hb dJ6_bitCount_0f7a4_46 ?_
  obtain ⟨w47, e47, hf⟩ := lt_e hf
  refine lv_nm e47 ?_
  refine lv_istore_n (lv' := [(0, .int w47)]) X.hx X.hb dJ6_bitCount_0f7a4_47 rfl hl (by decide) rfl (fun ls hl => ?_)
  refine lv_iload_n X.hx X.hb dJ6_bitCount_0f7a4_48 rfl (lv_at hl 0 rfl) ?_
  refine lv_bipush (v := 63) X.hx X.hb dJ6_bitCount_0f7a4_49 (by decide) ?_
  refine lv_iand X.hx X.hb dJ6_bitCount_0f7a4_51 ?_
  exact rt_i X hr hlk hW hS (Option.some.inj hf) (Nat.le_refl _) (Nat.le_refl _) dJ6_bitCount_0f7a4_52
-- WordSquares$Prefixes.nextRows
noncomputable def f_X3_nextRows_J73 (st : St) (x3 : Int32) : Option Int32 := some x3
set_option maxRecDepth 100000 in
theorem f_X3_nextRows_J73_w {st : St} {res : Int32} (X : Cx V A cX3_nextRows 6 RX3 p m c s args) (hr : meth.sig.returnType = (some .int)) (hlk : meth.locks = false)  (x3 : Int32) (H : Heap) (locs : List Loc) (ls : Array Slot)  (hf : f_X3_nextRows_J73 st x3 = some res) (hW : (WdC V ad A) st H) (hS : va_S A s.heap H locs) (hl : lv_has ls 6 [(3, .int x3)]) : W p l e (rmF 1 22 0 0) s m args below meth c H locs 0 0 (MQ below (Qwi A (WdC V ad A) res st) args s 0 0 A) (F0 m 73 ls []) := by
  
  unfold f_X3_nextRows_J73 at hf
  refine lv_iload_n X.hx X.hb dX3_nextRows_73 rfl (lv_at hl 0 rfl) ?_
  exact rt_i X hr hlk hW hS (Option.some.inj hf) (Nat.le_refl _) (Nat.le_refl _) dX3_nextRows_74
noncomputable def f_X3_nextRows_L15 (st : St) : Nat → Int32 → Int32 → Int32 → Int32 → Option Int32
  | 0, _, _, _, _ => none
  | fu + 1, x1, x2, x3, x4 => (f_X6_length st).bind fun b21 => if b21 ≤ x4 then f_X3_nextRows_J73 st x3 else if 4 ≤ x4 then f_X3_nextRows_J73 st x3 else (f_X6_length st).bind fun b40 => (f_X7_packedWord x2 x4 b40).bind fun b43 => if inb (x1 &&& 3) 4 = true then if inb ((b43 * 4) + x4) 64 = true then lt (x3 &&& (st.2.1 (29 + (x1 &&& 3).toNatClampNeg) ((b43 * 4) + x4).toNatClampNeg)) fun w66 => lt (x4 + 1) fun w67 => (f_X3_nextRows_L15 st fu) x1 x2 w66 w67 else none else none
set_option maxRecDepth 100000 in
theorem f_X3_nextRows_L15_w {st : St} {res : Int32} (X : Cx V A cX3_nextRows 6 RX3 p m c s args) (hr : meth.sig.returnType = (some .int)) (hlk : meth.locks = false)  : ∀ (n9 : Nat) (x1 : Int32) (x2 : Int32) (x3 : Int32) (x4 : Int32) (H : Heap) (locs : List Loc) (ls : Array Slot), f_X3_nextRows_L15 st n9 x1 x2 x3 x4 = some res → (WdC V ad A) st H → va_S A s.heap H locs → lv_has ls 6 [(0, .ref (ad 4)), (1, .int x1), (2, .int x2), (3, .int x3), (4, .int x4)] → W p l e (rmF 1 22 0 0) s m args below meth c H locs 0 0 (MQ below (Qwi A (WdC V ad A) res st) args s 0 0 A) (F0 m 15 ls []) := by
  intro n9
  induction n9 with
  | zero =>
    intro x1 x2 x3 x4 H locs ls hf
    exact absurd hf (by unfold f_X3_nextRows_L15; exact fun h => by cases h)
  | succ n9 hr15 =>
    intro x1 x2 x3 x4 H locs ls hf hW hS hl
    
    unfold f_X3_nextRows_L15 at hf
    refine lv_iload X.hx X.hb dX3_nextRows_15 (lv_at hl 4 rfl) ?_
    refine lv_aload_n X.hx X.hb dX3_nextRows_17 rfl (lv_at hl 0 rfl) ?_
    refine gX3_list X hW dX3_nextRows_18 ?_
    obtain ⟨b21, h21, hf⟩ := bnd hf
    refine cl_i (run_V (As := []) (rest := [.int x4]) X (w_X6_length l V A ad h21) mw_X6_length ln_X3_26 (rcX6 X hW) hW hS rfl hl.1 rfl (Nat.le_of_ble_eq_true rfl) ⟨Nat.le_of_ble_eq_true rfl, Nat.le_of_ble_eq_true rfl⟩ ⟨Nat.le_refl _, Nat.le_refl _⟩ dX3_nextRows_21) hS (fun H locs hW hS => ?_)
    refine lv_icmp_ge (tgt := 73) X.hx X.hb dX3_nextRows_24 (by decide) (fun c24 => ?_) (fun c24 => ?_)
    · replace hf := ite_t c24 hf
      exact f_X3_nextRows_J73_w X hr hlk _ _ _ _  hf hW hS (lv_sub hl [3] rfl)
    · replace hf := ite_f c24 hf
      refine lv_iload X.hx X.hb dX3_nextRows_27 (lv_at hl 4 rfl) ?_
      refine lv_iconst (v := 4) X.hx X.hb dX3_nextRows_29 (by decide) ?_
      refine lv_icmp_ge (tgt := 73) X.hx X.hb dX3_nextRows_30 (by decide) (fun c30 => ?_) (fun c30 => ?_)
      · replace hf := ite_t c30 hf
        exact f_X3_nextRows_J73_w X hr hlk _ _ _ _  hf hW hS (lv_sub hl [3] rfl)
      · replace hf := ite_f c30 hf
        refine lv_iload_n X.hx X.hb dX3_nextRows_33 rfl (lv_at hl 2 rfl) ?_
        refine lv_iload X.hx X.hb dX3_nextRows_34 (lv_at hl 4 rfl) ?_
        refine lv_aload_n X.hx X.hb dX3_nextRows_36 rfl (lv_at hl 0 rfl) ?_
        refine gX3_list X hW dX3_nextRows_37 ?_
        obtain ⟨b40, h40, hf⟩ := bnd hf
        refine cl_i (run_V (As := []) (rest := [.int x4, .int x2]) X (w_X6_length l V A ad h40) mw_X6_length ln_X3_26 (rcX6 X hW) hW hS rfl hl.1 rfl (Nat.le_of_ble_eq_true rfl) ⟨Nat.le_of_ble_eq_true rfl, Nat.le_of_ble_eq_true rfl⟩ ⟨Nat.le_refl _, Nat.le_refl _⟩ dX3_nextRows_40) hS (fun H locs hW hS => ?_)
        obtain ⟨b43, h43, hf⟩ := bnd hf
        refine cl_i (run_SN (As := [.int x2, .int x4, .int b40]) (rest := []) X (w_X7_packedWord l V A (WdC V ad A) st h43) mw_X7_packedWord (host := RX7) (List.mem_of_getElem? (i := 6) rfl) hW hS rfl hl.1 rfl (Nat.le_of_ble_eq_true rfl) ⟨Nat.le_of_ble_eq_true rfl, Nat.le_of_ble_eq_true rfl⟩ ⟨Nat.le_refl _, Nat.le_refl _⟩ dX3_nextRows_43) hS (fun H locs hW hS => ?_)
        refine lv_istore (lv' := [(5, .int b43), (0, .ref (ad 4)), (1, .int x1), (2, .int x2), (3, .int x3), (4, .int x4)]) X.hx X.hb dX3_nextRows_46 hl (by decide) rfl (fun ls hl => ?_)
        refine lv_iload_n X.hx X.hb dX3_nextRows_48 rfl (lv_at hl 4 rfl) ?_
        refine lv_aload_n X.hx X.hb dX3_nextRows_49 rfl (lv_at hl 1 rfl) ?_
        refine gX3_takers X hW dX3_nextRows_50 ?_
        refine lv_iload_n X.hx X.hb dX3_nextRows_53 rfl (lv_at hl 2 rfl) ?_
        refine lv_iconst (v := 3) X.hx X.hb dX3_nextRows_54 (by decide) ?_
        refine lv_iand X.hx X.hb dX3_nextRows_55 ?_
        obtain ⟨h56, hf⟩ := ite_n hf
        refine oC_28 X hW h56 dX3_nextRows_56 ?_
        refine lv_iload X.hx X.hb dX3_nextRows_57 (lv_at hl 0 rfl) ?_
        refine lv_iconst (v := 4) X.hx X.hb dX3_nextRows_59 (by decide) ?_
        refine lv_imul X.hx X.hb dX3_nextRows_60 ?_
        refine lv_iload X.hx X.hb dX3_nextRows_61 (lv_at hl 5 rfl) ?_
        refine lv_iadd X.hx X.hb dX3_nextRows_63 ?_
        obtain ⟨h64, hf⟩ := ite_n hf
        refine aC_ld X hW (isA_29 h56) (aln_29 h56) h64 dX3_nextRows_64 ?_
        refine lv_iand X.hx X.hb dX3_nextRows_65 ?_
        obtain ⟨w66, e66, hf⟩ := lt_e hf
        refine lv_nm e66 ?_
        refine lv_istore_n (lv' := [(3, .int w66), (5, .int b43), (0, .ref (ad 4)), (1, .int x1), (2, .int x2), (4, .int x4)]) X.hx X.hb dX3_nextRows_66 rfl hl (by decide) rfl (fun ls hl => ?_)
        obtain ⟨w67, e67, hf⟩ := lt_e hf
        refine lv_iinc (v := w67) (lv' := [(4, .int w67), (3, .int w66), (5, .int b43), (0, .ref (ad 4)), (1, .int x1), (2, .int x2)]) X.hx X.hb dX3_nextRows_67 hl (k := 5) rfl (by rw [e67]; rfl) (by decide) rfl (fun ls hl => ?_)
        refine lv_goto (tgt := 15) X.hx X.hb dX3_nextRows_70 (by decide) ?_
        exact hr15 _ _ _ _ _ _ _  hf hW hS (lv_sub hl [3, 4, 5, 1, 0] rfl)
noncomputable def f_X3_nextRows (st : St) (a1 : Int32) (a2 : Int32) : Option Int32 := (f_X6_size st).bind fun b5 => lt ((1 <<< (b5 &&& 31)) - 1) fun w11 => f_X3_nextRows_L15 st FU a1 a2 w11 0
set_option maxRecDepth 100000 in
theorem w_X3_nextRows (l : Launch) (V : Ev) (A : Nat → Prop) (ad : Nat → Nat) {st : St} {a1 : Int32} {a2 : Int32} {res : Int32} (hf : f_X3_nextRows st a1 a2 = some res) : Cn l yX3_nextRows cX3_nextRows 6 (some .int) 1 22 0 0 V A (WdC V ad A) st [.ref (ad 4), .int a1, .int a2] (Qwi A (WdC V ad A) res st) := by
  refine cn_of RX3 (by decide) rfl (fun p e s m below meth c ls X hr hlk hW hS hl => ?_) (Nat.le_of_ble_eq_true rfl)
  have hl : lv_has ls 6 [(0, .ref (ad 4)), (1, .int a1), (2, .int a2)] := hl
  unfold f_X3_nextRows at hf
  refine lv_iconst (v := 1) X.hx X.hb dX3_nextRows_0 (by decide) ?_
  refine lv_aload_n X.hx X.hb dX3_nextRows_1 rfl (lv_at hl 0 rfl) ?_
  refine gX3_list X hW dX3_nextRows_2 ?_
  obtain ⟨b5, h5, hf⟩ := bnd hf
  refine cl_i (run_V (As := []) (rest := [.int 1]) X (w_X6_size l V A ad h5) mw_X6_size ln_X3_36 (rcX6 X hW) hW hS rfl hl.1 rfl (Nat.le_of_ble_eq_true rfl) ⟨Nat.le_of_ble_eq_true rfl, Nat.le_of_ble_eq_true rfl⟩ ⟨Nat.le_refl _, Nat.le_refl _⟩ dX3_nextRows_5) hS (fun H locs hW hS => ?_)
  refine lv_ishl X.hx X.hb dX3_nextRows_8 ?_
  refine lv_iconst (v := 1) X.hx X.hb dX3_nextRows_9 (by decide) ?_
  refine lv_isub X.hx X.hb dX3_nextRows_10 ?_
  obtain ⟨w11, e11, hf⟩ := lt_e hf
  refine lv_nm e11 ?_
  refine lv_istore_n (lv' := [(3, .int w11), (0, .ref (ad 4)), (1, .int a1), (2, .int a2)]) X.hx X.hb dX3_nextRows_11 rfl hl (by decide) rfl (fun ls hl => ?_)
  refine lv_iconst (v := 0) X.hx X.hb dX3_nextRows_12 (by decide) ?_
  refine lv_istore (lv' := [(4, .int 0), (3, .int w11), (0, .ref (ad 4)), (1, .int a1), (2, .int a2)]) X.hx X.hb dX3_nextRows_13 hl (by decide) rfl (fun ls hl => ?_)
  exact f_X3_nextRows_L15_w X hr hlk FU _ _ _ _ _ _ _  hf hW hS (lv_sub hl [2, 3, 4, 1, 0] rfl)
-- WordSquares$Prefixes.headsWith
noncomputable def f_X3_headsWith_L6 (st : St) : Nat → Int32 → Int32 → Int32 → Int32 → Int32 → Option Int32
  | 0, _, _, _, _, _ => none
  | fu + 1, x1, x2, x3, x4, x5 => (f_X6_length st).bind fun b12 => if b12 ≤ x5 then some x4 else (f_X6_length st).bind fun b25 => (f_X7_packedWord x2 x5 b25).bind fun b28 => if inb (x1 &&& 3) 4 = true then (f_X6_letterAt st x3 x5).bind fun b50 => (f_X3_placeOf b28 b50).bind fun b53 => if inb b53 512 = true then lt (st.2.1 (24 + (x1 &&& 3).toNatClampNeg) b53.toNatClampNeg) fun w57 => lt ((x4 <<< (4 &&& 31)) ||| (w57 &&& 15)) fun w69 => lt (x5 + 1) fun w71 => (f_X3_headsWith_L6 st fu) x1 x2 x3 w69 w71 else none else none
set_option maxRecDepth 100000 in
theorem f_X3_headsWith_L6_w {st : St} {res : Int32} (X : Cx V A cX3_headsWith 8 RX3 p m c s args) (hr : meth.sig.returnType = (some .int)) (hlk : meth.locks = false)  : ∀ (n9 : Nat) (x1 : Int32) (x2 : Int32) (x3 : Int32) (x4 : Int32) (x5 : Int32) (H : Heap) (locs : List Loc) (ls : Array Slot), f_X3_headsWith_L6 st n9 x1 x2 x3 x4 x5 = some res → (WdC V ad A) st H → va_S A s.heap H locs → lv_has ls 8 [(0, .ref (ad 4)), (1, .int x1), (2, .int x2), (3, .int x3), (4, .int x4), (5, .int x5)] → W p l e (rmF 1 22 0 0) s m args below meth c H locs 0 0 (MQ below (Qwi A (WdC V ad A) res st) args s 0 0 A) (F0 m 6 ls []) := by
  intro n9
  induction n9 with
  | zero =>
    intro x1 x2 x3 x4 x5 H locs ls hf
    exact absurd hf (by unfold f_X3_headsWith_L6; exact fun h => by cases h)
  | succ n9 hr6 =>
    intro x1 x2 x3 x4 x5 H locs ls hf hW hS hl
    
    unfold f_X3_headsWith_L6 at hf
    refine lv_iload X.hx X.hb dX3_headsWith_6 (lv_at hl 5 rfl) ?_
    refine lv_aload_n X.hx X.hb dX3_headsWith_8 rfl (lv_at hl 0 rfl) ?_
    refine gX3_list X hW dX3_headsWith_9 ?_
    obtain ⟨b12, h12, hf⟩ := bnd hf
    refine cl_i (run_V (As := []) (rest := [.int x5]) X (w_X6_length l V A ad h12) mw_X6_length ln_X3_26 (rcX6 X hW) hW hS rfl hl.1 rfl (Nat.le_of_ble_eq_true rfl) ⟨Nat.le_of_ble_eq_true rfl, Nat.le_of_ble_eq_true rfl⟩ ⟨Nat.le_refl _, Nat.le_refl _⟩ dX3_headsWith_12) hS (fun H locs hW hS => ?_)
    refine lv_icmp_ge (tgt := 77) X.hx X.hb dX3_headsWith_15 (by decide) (fun c15 => ?_) (fun c15 => ?_)
    · replace hf := ite_t c15 hf
      refine lv_iload X.hx X.hb dX3_headsWith_77 (lv_at hl 4 rfl) ?_
      exact rt_i X hr hlk hW hS (Option.some.inj hf) (Nat.le_refl _) (Nat.le_refl _) dX3_headsWith_79
    · replace hf := ite_f c15 hf
      refine lv_iload_n X.hx X.hb dX3_headsWith_18 rfl (lv_at hl 2 rfl) ?_
      refine lv_iload X.hx X.hb dX3_headsWith_19 (lv_at hl 5 rfl) ?_
      refine lv_aload_n X.hx X.hb dX3_headsWith_21 rfl (lv_at hl 0 rfl) ?_
      refine gX3_list X hW dX3_headsWith_22 ?_
      obtain ⟨b25, h25, hf⟩ := bnd hf
      refine cl_i (run_V (As := []) (rest := [.int x5, .int x2]) X (w_X6_length l V A ad h25) mw_X6_length ln_X3_26 (rcX6 X hW) hW hS rfl hl.1 rfl (Nat.le_of_ble_eq_true rfl) ⟨Nat.le_of_ble_eq_true rfl, Nat.le_of_ble_eq_true rfl⟩ ⟨Nat.le_refl _, Nat.le_refl _⟩ dX3_headsWith_25) hS (fun H locs hW hS => ?_)
      obtain ⟨b28, h28, hf⟩ := bnd hf
      refine cl_i (run_SN (As := [.int x2, .int x5, .int b25]) (rest := []) X (w_X7_packedWord l V A (WdC V ad A) st h28) mw_X7_packedWord (host := RX7) (List.mem_of_getElem? (i := 6) rfl) hW hS rfl hl.1 rfl (Nat.le_of_ble_eq_true rfl) ⟨Nat.le_of_ble_eq_true rfl, Nat.le_of_ble_eq_true rfl⟩ ⟨Nat.le_refl _, Nat.le_refl _⟩ dX3_headsWith_28) hS (fun H locs hW hS => ?_)
      refine lv_istore (lv' := [(6, .int b28), (0, .ref (ad 4)), (1, .int x1), (2, .int x2), (3, .int x3), (4, .int x4), (5, .int x5)]) X.hx X.hb dX3_headsWith_31 hl (by decide) rfl (fun ls hl => ?_)
      refine lv_aload_n X.hx X.hb dX3_headsWith_33 rfl (lv_at hl 1 rfl) ?_
      refine gX3_longer X hW dX3_headsWith_34 ?_
      refine lv_iload_n X.hx X.hb dX3_headsWith_37 rfl (lv_at hl 2 rfl) ?_
      refine lv_iconst (v := 3) X.hx X.hb dX3_headsWith_38 (by decide) ?_
      refine lv_iand X.hx X.hb dX3_headsWith_39 ?_
      obtain ⟨h40, hf⟩ := ite_n hf
      refine oC_23 X hW h40 dX3_headsWith_40 ?_
      refine lv_iload X.hx X.hb dX3_headsWith_41 (lv_at hl 0 rfl) ?_
      refine lv_aload_n X.hx X.hb dX3_headsWith_43 rfl (lv_at hl 1 rfl) ?_
      refine gX3_list X hW dX3_headsWith_44 ?_
      refine lv_iload_n X.hx X.hb dX3_headsWith_47 rfl (lv_at hl 4 rfl) ?_
      refine lv_iload X.hx X.hb dX3_headsWith_48 (lv_at hl 6 rfl) ?_
      obtain ⟨b50, h50, hf⟩ := bnd hf
      refine cl_i (run_V (As := [.int x3, .int x5]) (rest := [.int b28, .ref (ad (24 + (x1 &&& 3).toNatClampNeg))]) X (w_X6_letterAt l V A ad h50) mw_X6_letterAt ln_X3_61 (rcX6 X hW) hW hS rfl hl.1 rfl (Nat.le_of_ble_eq_true rfl) ⟨Nat.le_of_ble_eq_true rfl, Nat.le_of_ble_eq_true rfl⟩ ⟨Nat.le_refl _, Nat.le_refl _⟩ dX3_headsWith_50) hS (fun H locs hW hS => ?_)
      obtain ⟨b53, h53, hf⟩ := bnd hf
      refine cl_i (run_S (As := [.int b28, .int b50]) (rest := [.ref (ad (24 + (x1 &&& 3).toNatClampNeg))]) X (w_X3_placeOf l V A (WdC V ad A) st h53) mw_X3_placeOf ln_X3_64 hW hS rfl hl.1 rfl (Nat.le_of_ble_eq_true rfl) ⟨Nat.le_of_ble_eq_true rfl, Nat.le_of_ble_eq_true rfl⟩ ⟨Nat.le_refl _, Nat.le_refl _⟩ dX3_headsWith_53) hS (fun H locs hW hS => ?_)
      obtain ⟨h56, hf⟩ := ite_n hf
      refine aC_ld X hW (isA_24 h40) (aln_24 h40) h56 dX3_headsWith_56 ?_
      obtain ⟨w57, e57, hf⟩ := lt_e hf
      refine lv_nm e57 ?_
      refine lv_istore (lv' := [(7, .int w57), (6, .int b28), (0, .ref (ad 4)), (1, .int x1), (2, .int x2), (3, .int x3), (4, .int x4), (5, .int x5)]) X.hx X.hb dX3_headsWith_57 hl (by decide) rfl (fun ls hl => ?_)
      refine lv_iload X.hx X.hb dX3_headsWith_59 (lv_at hl 6 rfl) ?_
      refine lv_iconst (v := 4) X.hx X.hb dX3_headsWith_61 (by decide) ?_
      refine lv_ishl X.hx X.hb dX3_headsWith_62 ?_
      refine lv_iload X.hx X.hb dX3_headsWith_63 (lv_at hl 0 rfl) ?_
      refine lv_bipush (v := 15) X.hx X.hb dX3_headsWith_65 (by decide) ?_
      refine lv_iand X.hx X.hb dX3_headsWith_67 ?_
      refine lv_ior X.hx X.hb dX3_headsWith_68 ?_
      obtain ⟨w69, e69, hf⟩ := lt_e hf
      refine lv_nm e69 ?_
      refine lv_istore (lv' := [(4, .int w69), (7, .int w57), (6, .int b28), (0, .ref (ad 4)), (1, .int x1), (2, .int x2), (3, .int x3), (5, .int x5)]) X.hx X.hb dX3_headsWith_69 hl (by decide) rfl (fun ls hl => ?_)
      obtain ⟨w71, e71, hf⟩ := lt_e hf
      refine lv_iinc (v := w71) (lv' := [(5, .int w71), (4, .int w69), (7, .int w57), (6, .int b28), (0, .ref (ad 4)), (1, .int x1), (2, .int x2), (3, .int x3)]) X.hx X.hb dX3_headsWith_71 hl (k := 7) rfl (by rw [e71]; rfl) (by decide) rfl (fun ls hl => ?_)
      refine lv_goto (tgt := 6) X.hx X.hb dX3_headsWith_74 (by decide) ?_
      exact hr6 _ _ _ _ _ _ _ _  hf hW hS (lv_sub hl [4, 5, 6, 7, 1, 0] rfl)
noncomputable def f_X3_headsWith (st : St) (a1 : Int32) (a2 : Int32) (a3 : Int32) : Option Int32 := f_X3_headsWith_L6 st FU a1 a2 a3 0 0
set_option maxRecDepth 100000 in
theorem w_X3_headsWith (l : Launch) (V : Ev) (A : Nat → Prop) (ad : Nat → Nat) {st : St} {a1 : Int32} {a2 : Int32} {a3 : Int32} {res : Int32} (hf : f_X3_headsWith st a1 a2 a3 = some res) : Cn l yX3_headsWith cX3_headsWith 8 (some .int) 1 22 0 0 V A (WdC V ad A) st [.ref (ad 4), .int a1, .int a2, .int a3] (Qwi A (WdC V ad A) res st) := by
  refine cn_of RX3 (by decide) rfl (fun p e s m below meth c ls X hr hlk hW hS hl => ?_) (Nat.le_of_ble_eq_true rfl)
  have hl : lv_has ls 8 [(0, .ref (ad 4)), (1, .int a1), (2, .int a2), (3, .int a3)] := hl
  unfold f_X3_headsWith at hf
  refine lv_iconst (v := 0) X.hx X.hb dX3_headsWith_0 (by decide) ?_
  refine lv_istore (lv' := [(4, .int 0), (0, .ref (ad 4)), (1, .int a1), (2, .int a2), (3, .int a3)]) X.hx X.hb dX3_headsWith_1 hl (by decide) rfl (fun ls hl => ?_)
  refine lv_iconst (v := 0) X.hx X.hb dX3_headsWith_3 (by decide) ?_
  refine lv_istore (lv' := [(5, .int 0), (4, .int 0), (0, .ref (ad 4)), (1, .int a1), (2, .int a2), (3, .int a3)]) X.hx X.hb dX3_headsWith_4 hl (by decide) rfl (fun ls hl => ?_)
  exact f_X3_headsWith_L6_w X hr hlk FU _ _ _ _ _ _ _ _  hf hW hS (lv_sub hl [2, 3, 4, 5, 1, 0] rfl)
-- WordSquares$Prefixes.likeness
noncomputable def f_X3_likeness_J50 (st : St) (r5 : Int32 → Int32 → Int32 → Int32 → Option Int32) (x1 : Int32) (x2 : Int32) (x3 : Int32) (x4 : Int32) (x5 : Int32) : Option Int32 := lt ((x3 * 12) + x5) fun w57 => lt (x4 + 1) fun w58 => r5 x1 x2 w57 w58
set_option maxRecDepth 100000 in
theorem f_X3_likeness_J50_w {st : St} {r5 : Int32 → Int32 → Int32 → Int32 → Option Int32} {res : Int32} (X : Cx V A cX3_likeness 6 RX3 p m c s args) (hr : meth.sig.returnType = (some .int)) (hlk : meth.locks = false) (hr5 : ∀ (x1 : Int32) (x2 : Int32) (x3 : Int32) (x4 : Int32) (H : Heap) (locs : List Loc) (ls : Array Slot), r5 x1 x2 x3 x4 = some res → (WdC V ad A) st H → va_S A s.heap H locs → lv_has ls 6 [(0, .ref (ad 4)), (1, .int x1), (2, .int x2), (3, .int x3), (4, .int x4)] → W p l e (rmF 1 22 0 0) s m args below meth c H locs 0 0 (MQ below (Qwi A (WdC V ad A) res st) args s 0 0 A) (F0 m 5 ls [])) (x1 : Int32) (x2 : Int32) (x3 : Int32) (x4 : Int32) (x5 : Int32) (H : Heap) (locs : List Loc) (ls : Array Slot)  (hf : f_X3_likeness_J50 st r5 x1 x2 x3 x4 x5 = some res) (hW : (WdC V ad A) st H) (hS : va_S A s.heap H locs) (hl : lv_has ls 6 [(0, .ref (ad 4)), (1, .int x1), (2, .int x2), (3, .int x3), (4, .int x4), (5, .int x5)]) : W p l e (rmF 1 22 0 0) s m args below meth c H locs 0 0 (MQ below (Qwi A (WdC V ad A) res st) args s 0 0 A) (F0 m 50 ls []) := by
  
  unfold f_X3_likeness_J50 at hf
  refine lv_iload_n X.hx X.hb dX3_likeness_50 rfl (lv_at hl 3 rfl) ?_
  refine lv_bipush (v := 12) X.hx X.hb dX3_likeness_51 (by decide) ?_
  refine lv_imul X.hx X.hb dX3_likeness_53 ?_
  refine lv_iload X.hx X.hb dX3_likeness_54 (lv_at hl 5 rfl) ?_
  refine lv_iadd X.hx X.hb dX3_likeness_56 ?_
  obtain ⟨w57, e57, hf⟩ := lt_e hf
  refine lv_nm e57 ?_
  refine lv_istore_n (lv' := [(3, .int w57), (0, .ref (ad 4)), (1, .int x1), (2, .int x2), (4, .int x4), (5, .int x5)]) X.hx X.hb dX3_likeness_57 rfl hl (by decide) rfl (fun ls hl => ?_)
  obtain ⟨w58, e58, hf⟩ := lt_e hf
  refine lv_iinc (v := w58) (lv' := [(4, .int w58), (3, .int w57), (0, .ref (ad 4)), (1, .int x1), (2, .int x2), (5, .int x5)]) X.hx X.hb dX3_likeness_58 hl (k := 4) rfl (by rw [e58]; rfl) (by decide) rfl (fun ls hl => ?_)
  refine lv_goto (tgt := 5) X.hx X.hb dX3_likeness_61 (by decide) ?_
  exact hr5 _ _ _ _ _ _ _  hf hW hS (lv_sub hl [2, 3, 4, 1, 0] rfl)
noncomputable def f_X3_likeness_L5 (st : St) : Nat → Int32 → Int32 → Int32 → Int32 → Option Int32
  | 0, _, _, _, _ => none
  | fu + 1, x1, x2, x3, x4 => if 4 ≤ x4 then some x3 else (f_X6_length st).bind fun b20 => if b20 ≤ x4 then f_X3_likeness_J50 st ((f_X3_likeness_L5 st fu)) x1 x2 x3 x4 0 else if inb (x1 &&& 3) 4 = true then (f_X6_length st).bind fun b41 => (f_X7_packedWord x2 x4 b41).bind fun b44 => if inb b44 16 = true then lt (st.2.1 (34 + (x1 &&& 3).toNatClampNeg) b44.toNatClampNeg) fun w48 => f_X3_likeness_J50 st ((f_X3_likeness_L5 st fu)) x1 x2 x3 x4 w48 else none else none
set_option maxRecDepth 100000 in
theorem f_X3_likeness_L5_w {st : St} {res : Int32} (X : Cx V A cX3_likeness 6 RX3 p m c s args) (hr : meth.sig.returnType = (some .int)) (hlk : meth.locks = false)  : ∀ (n9 : Nat) (x1 : Int32) (x2 : Int32) (x3 : Int32) (x4 : Int32) (H : Heap) (locs : List Loc) (ls : Array Slot), f_X3_likeness_L5 st n9 x1 x2 x3 x4 = some res → (WdC V ad A) st H → va_S A s.heap H locs → lv_has ls 6 [(0, .ref (ad 4)), (1, .int x1), (2, .int x2), (3, .int x3), (4, .int x4)] → W p l e (rmF 1 22 0 0) s m args below meth c H locs 0 0 (MQ below (Qwi A (WdC V ad A) res st) args s 0 0 A) (F0 m 5 ls []) := by
  intro n9
  induction n9 with
  | zero =>
    intro x1 x2 x3 x4 H locs ls hf
    exact absurd hf (by unfold f_X3_likeness_L5; exact fun h => by cases h)
  | succ n9 hr5 =>
    intro x1 x2 x3 x4 H locs ls hf hW hS hl
    
    unfold f_X3_likeness_L5 at hf
    refine lv_iload X.hx X.hb dX3_likeness_5 (lv_at hl 4 rfl) ?_
    refine lv_iconst (v := 4) X.hx X.hb dX3_likeness_7 (by decide) ?_
    refine lv_icmp_ge (tgt := 64) X.hx X.hb dX3_likeness_8 (by decide) (fun c8 => ?_) (fun c8 => ?_)
    · replace hf := ite_t c8 hf
      refine lv_iload_n X.hx X.hb dX3_likeness_64 rfl (lv_at hl 3 rfl) ?_
      exact rt_i X hr hlk hW hS (Option.some.inj hf) (Nat.le_refl _) (Nat.le_refl _) dX3_likeness_65
    · replace hf := ite_f c8 hf
      refine lv_iconst (v := 0) X.hx X.hb dX3_likeness_11 (by decide) ?_
      refine lv_istore (lv' := [(5, .int 0), (0, .ref (ad 4)), (1, .int x1), (2, .int x2), (3, .int x3), (4, .int x4)]) X.hx X.hb dX3_likeness_12 hl (by decide) rfl (fun ls hl => ?_)
      refine lv_iload X.hx X.hb dX3_likeness_14 (lv_at hl 5 rfl) ?_
      refine lv_aload_n X.hx X.hb dX3_likeness_16 rfl (lv_at hl 1 rfl) ?_
      refine gX3_list X hW dX3_likeness_17 ?_
      obtain ⟨b20, h20, hf⟩ := bnd hf
      refine cl_i (run_V (As := []) (rest := [.int x4]) X (w_X6_length l V A ad h20) mw_X6_length ln_X3_26 (rcX6 X hW) hW hS rfl hl.1 rfl (Nat.le_of_ble_eq_true rfl) ⟨Nat.le_of_ble_eq_true rfl, Nat.le_of_ble_eq_true rfl⟩ ⟨Nat.le_refl _, Nat.le_refl _⟩ dX3_likeness_20) hS (fun H locs hW hS => ?_)
      refine lv_icmp_ge (tgt := 50) X.hx X.hb dX3_likeness_23 (by decide) (fun c23 => ?_) (fun c23 => ?_)
      · replace hf := ite_t c23 hf
        exact f_X3_likeness_J50_w X hr hlk hr5 _ _ _ _ _ _ _ _  hf hW hS (lv_sub hl [1, 2, 3, 4, 5, 0] rfl)
      · replace hf := ite_f c23 hf
        refine lv_aload_n X.hx X.hb dX3_likeness_26 rfl (lv_at hl 1 rfl) ?_
        refine gX3_likes X hW dX3_likeness_27 ?_
        refine lv_iload_n X.hx X.hb dX3_likeness_30 rfl (lv_at hl 2 rfl) ?_
        refine lv_iconst (v := 3) X.hx X.hb dX3_likeness_31 (by decide) ?_
        refine lv_iand X.hx X.hb dX3_likeness_32 ?_
        obtain ⟨h33, hf⟩ := ite_n hf
        refine oC_33 X hW h33 dX3_likeness_33 ?_
        refine lv_iload_n X.hx X.hb dX3_likeness_34 rfl (lv_at hl 3 rfl) ?_
        refine lv_iload X.hx X.hb dX3_likeness_35 (lv_at hl 5 rfl) ?_
        refine lv_aload_n X.hx X.hb dX3_likeness_37 rfl (lv_at hl 1 rfl) ?_
        refine gX3_list X hW dX3_likeness_38 ?_
        obtain ⟨b41, h41, hf⟩ := bnd hf
        refine cl_i (run_V (As := []) (rest := [.int x4, .int x2, .ref (ad (34 + (x1 &&& 3).toNatClampNeg))]) X (w_X6_length l V A ad h41) mw_X6_length ln_X3_26 (rcX6 X hW) hW hS rfl hl.1 rfl (Nat.le_of_ble_eq_true rfl) ⟨Nat.le_of_ble_eq_true rfl, Nat.le_of_ble_eq_true rfl⟩ ⟨Nat.le_refl _, Nat.le_refl _⟩ dX3_likeness_41) hS (fun H locs hW hS => ?_)
        obtain ⟨b44, h44, hf⟩ := bnd hf
        refine cl_i (run_SN (As := [.int x2, .int x4, .int b41]) (rest := [.ref (ad (34 + (x1 &&& 3).toNatClampNeg))]) X (w_X7_packedWord l V A (WdC V ad A) st h44) mw_X7_packedWord (host := RX7) (List.mem_of_getElem? (i := 6) rfl) hW hS rfl hl.1 rfl (Nat.le_of_ble_eq_true rfl) ⟨Nat.le_of_ble_eq_true rfl, Nat.le_of_ble_eq_true rfl⟩ ⟨Nat.le_refl _, Nat.le_refl _⟩ dX3_likeness_44) hS (fun H locs hW hS => ?_)
        obtain ⟨h47, hf⟩ := ite_n hf
        refine aC_ld X hW (isA_34 h33) (aln_34 h33) h47 dX3_likeness_47 ?_
        obtain ⟨w48, e48, hf⟩ := lt_e hf
        refine lv_nm e48 ?_
        refine lv_istore (lv' := [(5, .int w48), (0, .ref (ad 4)), (1, .int x1), (2, .int x2), (3, .int x3), (4, .int x4)]) X.hx X.hb dX3_likeness_48 hl (by decide) rfl (fun ls hl => ?_)
        exact f_X3_likeness_J50_w X hr hlk hr5 _ _ _ _ _ _ _ _  hf hW hS (lv_sub hl [1, 2, 3, 4, 5, 0] rfl)
noncomputable def f_X3_likeness (st : St) (a1 : Int32) (a2 : Int32) : Option Int32 := f_X3_likeness_L5 st FU a1 a2 a1 0
set_option maxRecDepth 100000 in
theorem w_X3_likeness (l : Launch) (V : Ev) (A : Nat → Prop) (ad : Nat → Nat) {st : St} {a1 : Int32} {a2 : Int32} {res : Int32} (hf : f_X3_likeness st a1 a2 = some res) : Cn l yX3_likeness cX3_likeness 6 (some .int) 1 22 0 0 V A (WdC V ad A) st [.ref (ad 4), .int a1, .int a2] (Qwi A (WdC V ad A) res st) := by
  refine cn_of RX3 (by decide) rfl (fun p e s m below meth c ls X hr hlk hW hS hl => ?_) (Nat.le_of_ble_eq_true rfl)
  have hl : lv_has ls 6 [(0, .ref (ad 4)), (1, .int a1), (2, .int a2)] := hl
  unfold f_X3_likeness at hf
  refine lv_iload_n X.hx X.hb dX3_likeness_0 rfl (lv_at hl 1 rfl) ?_
  refine lv_istore_n (lv' := [(3, .int a1), (0, .ref (ad 4)), (1, .int a1), (2, .int a2)]) X.hx X.hb dX3_likeness_1 rfl hl (by decide) rfl (fun ls hl => ?_)
  refine lv_iconst (v := 0) X.hx X.hb dX3_likeness_2 (by decide) ?_
  refine lv_istore (lv' := [(4, .int 0), (3, .int a1), (0, .ref (ad 4)), (1, .int a1), (2, .int a2)]) X.hx X.hb dX3_likeness_3 hl (by decide) rfl (fun ls hl => ?_)
  exact f_X3_likeness_L5_w X hr hlk FU _ _ _ _ _ _ _  hf hW hS (lv_sub hl [2, 3, 4, 1, 0] rfl)
-- WordSquares$Finder.exploreWithMemory
noncomputable def f_X2_exploreWithMemory_J119 (self : St → Int32 → Int32 → Option (Int32 × St)) (r73 : St → Int32 → Int32 → Int32 → Int32 → Int32 → Int32 → Option (Int32 × St)) (st : St) (x1 : Int32) (x2 : Int32) (x3 : Int32) (x4 : Int32) (x5 : Int32) (x6 : Int32) : Option (Int32 × St) := lt (x6 + 1) fun w119 => r73 st x1 x2 x3 x4 x5 w119
theorem f_X2_exploreWithMemory_J119_l {self : St → Int32 → Int32 → Option (Int32 × St)} {r73 : St → Int32 → Int32 → Int32 → Int32 → Int32 → Int32 → Option (Int32 × St)} {res : (Int32 × St)} (hsq : ∀ (st : St) (a1 : Int32) (a2 : Int32) (res : (Int32 × St)), self st a1 a2 = some res → phi res.2 = phi st) (hq73 : ∀ (st : St) (x1 : Int32) (x2 : Int32) (x3 : Int32) (x4 : Int32) (x5 : Int32) (x6 : Int32), r73 st x1 x2 x3 x4 x5 x6 = some res → phi res.2 = phi st) (st : St) (x1 : Int32) (x2 : Int32) (x3 : Int32) (x4 : Int32) (x5 : Int32) (x6 : Int32) (hf : f_X2_exploreWithMemory_J119 self r73 st x1 x2 x3 x4 x5 x6 = some res) : phi res.2 = phi st := by
  unfold f_X2_exploreWithMemory_J119 at hf
  obtain ⟨w119, e119, hf⟩ := lt_e hf
  have q9 := hq73 _ _ _ _ _ _ _ hf
  omega
set_option maxRecDepth 100000 in
theorem f_X2_exploreWithMemory_J119_w {d : Nat} {self : St → Int32 → Int32 → Option (Int32 × St)} {r73 : St → Int32 → Int32 → Int32 → Int32 → Int32 → Int32 → Option (Int32 × St)} {res : (Int32 × St)} (X : Cx V A cX2_exploreWithMemory 7 RX2 p m c s args) (hr : meth.sig.returnType = (some .boolean)) (hlk : meth.locks = false) (hself : ∀ (st : St) (a1 : Int32) (a2 : Int32) (res : (Int32 × St)), self st a1 a2 = some res → Cn l yX2_exploreWithMemory cX2_exploreWithMemory 7 (some .boolean) (2 + d) (49 + d * 26) 0 0 V A (WdC V ad A) st [.ref (ad 3), .int a1, .int a2] (Qwi A (WdC V ad A) res.1 res.2)) (hr73 : ∀ (st : St) (x1 : Int32) (x2 : Int32) (x3 : Int32) (x4 : Int32) (x5 : Int32) (x6 : Int32) (H : Heap) (locs : List Loc) (ls : Array Slot), r73 st x1 x2 x3 x4 x5 x6 = some res → (WdC V ad A) st H → va_S A s.heap H locs → lv_has ls 7 [(0, .ref (ad 3)), (1, .int x1), (2, .int x2), (3, .int x3), (4, .int x4), (5, .int x5), (6, .int x6)] → W p l e (rmF (2 + (d + 1)) (49 + (d + 1) * 26) 0 0) s m args below meth c H locs 0 0 (MQ below (Qwi A (WdC V ad A) res.1 res.2) args s 0 0 A) (F0 m 73 ls [])) (st : St) (x1 : Int32) (x2 : Int32) (x3 : Int32) (x4 : Int32) (x5 : Int32) (x6 : Int32) (H : Heap) (locs : List Loc) (ls : Array Slot)  (hf : f_X2_exploreWithMemory_J119 self r73 st x1 x2 x3 x4 x5 x6 = some res) (hW : (WdC V ad A) st H) (hS : va_S A s.heap H locs) (hl : lv_has ls 7 [(0, .ref (ad 3)), (1, .int x1), (2, .int x2), (3, .int x3), (4, .int x4), (5, .int x5), (6, .int x6)]) : W p l e (rmF (2 + (d + 1)) (49 + (d + 1) * 26) 0 0) s m args below meth c H locs 0 0 (MQ below (Qwi A (WdC V ad A) res.1 res.2) args s 0 0 A) (F0 m 119 ls []) := by
  
  unfold f_X2_exploreWithMemory_J119 at hf
  obtain ⟨w119, e119, hf⟩ := lt_e hf
  refine lv_iinc (v := w119) (lv' := [(6, .int w119), (0, .ref (ad 3)), (1, .int x1), (2, .int x2), (3, .int x3), (4, .int x4), (5, .int x5)]) X.hx X.hb dX2_exploreWithMemory_119 hl (k := 6) rfl (by rw [e119]; rfl) (by decide) rfl (fun ls hl => ?_)
  refine lv_goto (tgt := 73) X.hx X.hb dX2_exploreWithMemory_122 (by decide) ?_
  exact hr73 _ _ _ _ _ _ _ _ _ _  hf hW hS (lv_sub hl [1, 2, 3, 4, 5, 6, 0] rfl)
noncomputable def f_X2_exploreWithMemory_J138 (self : St → Int32 → Int32 → Option (Int32 × St)) (st : St) (x5 : Int32) : Option (Int32 × St) := if x5 = 0 ∨ x5 = 1 then some (x5, st) else none
theorem f_X2_exploreWithMemory_J138_l {self : St → Int32 → Int32 → Option (Int32 × St)} {res : (Int32 × St)} (hsq : ∀ (st : St) (a1 : Int32) (a2 : Int32) (res : (Int32 × St)), self st a1 a2 = some res → phi res.2 = phi st) (st : St) (x5 : Int32) (hf : f_X2_exploreWithMemory_J138 self st x5 = some res) : phi res.2 = phi st := by
  unfold f_X2_exploreWithMemory_J138 at hf
  obtain ⟨h140, hf⟩ := ite_n hf
  have q9 := congrArg (fun z => phi z.2) (Option.some.inj hf)
  dsimp only at q9
  omega
set_option maxRecDepth 100000 in
theorem f_X2_exploreWithMemory_J138_w {d : Nat} {self : St → Int32 → Int32 → Option (Int32 × St)} {res : (Int32 × St)} (X : Cx V A cX2_exploreWithMemory 7 RX2 p m c s args) (hr : meth.sig.returnType = (some .boolean)) (hlk : meth.locks = false) (hself : ∀ (st : St) (a1 : Int32) (a2 : Int32) (res : (Int32 × St)), self st a1 a2 = some res → Cn l yX2_exploreWithMemory cX2_exploreWithMemory 7 (some .boolean) (2 + d) (49 + d * 26) 0 0 V A (WdC V ad A) st [.ref (ad 3), .int a1, .int a2] (Qwi A (WdC V ad A) res.1 res.2))  (st : St) (x5 : Int32) (H : Heap) (locs : List Loc) (ls : Array Slot)  (hf : f_X2_exploreWithMemory_J138 self st x5 = some res) (hW : (WdC V ad A) st H) (hS : va_S A s.heap H locs) (hl : lv_has ls 7 [(5, .int x5)]) : W p l e (rmF (2 + (d + 1)) (49 + (d + 1) * 26) 0 0) s m args below meth c H locs 0 0 (MQ below (Qwi A (WdC V ad A) res.1 res.2) args s 0 0 A) (F0 m 138 ls []) := by
  
  unfold f_X2_exploreWithMemory_J138 at hf
  refine lv_iload X.hx X.hb dX2_exploreWithMemory_138 (lv_at hl 0 rfl) ?_
  obtain ⟨h140, hf⟩ := ite_n hf
  exact rt_z X hr hlk (by rw [← Option.some.inj hf]; exact hW) hS h140 (by rw [← Option.some.inj hf]) (Nat.le_refl _) (Nat.le_refl _) dX2_exploreWithMemory_140
noncomputable def f_X2_exploreWithMemory_L73 (self : St → Int32 → Int32 → Option (Int32 × St)) : Nat → St → Int32 → Int32 → Int32 → Int32 → Int32 → Int32 → Option (Int32 × St)
  | 0, _, _, _, _, _, _, _ => none
  | fu + 1, st, x1, x2, x3, x4, x5, x6 => (f_X6_size st).bind fun b79 => if b79 ≤ x6 then if x5 = 0 then (f_X1_add st x3).bind fun b135 => f_X2_exploreWithMemory_J138 self b135 x5 else f_X2_exploreWithMemory_J138 self st x5 else if ((x4 >>> (x6 &&& 31)) &&& 1) = 0 then f_X2_exploreWithMemory_J119 self ((f_X2_exploreWithMemory_L73 self fu)) st x1 x2 x3 x4 x5 x6 else (f_X3_headsWith st x1 x2 x6).bind fun b107 => (self st (x1 + 1) b107).bind fun b110 => if b110.1 = 0 then f_X2_exploreWithMemory_J119 self ((f_X2_exploreWithMemory_L73 self fu)) b110.2 x1 x2 x3 x4 x5 x6 else f_X2_exploreWithMemory_J119 self ((f_X2_exploreWithMemory_L73 self fu)) b110.2 x1 x2 x3 x4 1 x6
theorem f_X2_exploreWithMemory_L73_l {self : St → Int32 → Int32 → Option (Int32 × St)} {res : (Int32 × St)} (hsq : ∀ (st : St) (a1 : Int32) (a2 : Int32) (res : (Int32 × St)), self st a1 a2 = some res → phi res.2 = phi st) : ∀ (n9 : Nat) (st : St) (x1 : Int32) (x2 : Int32) (x3 : Int32) (x4 : Int32) (x5 : Int32) (x6 : Int32), f_X2_exploreWithMemory_L73 self n9 st x1 x2 x3 x4 x5 x6 = some res → phi res.2 = phi st := by
  intro n9
  induction n9 with
  | zero =>
    intro st x1 x2 x3 x4 x5 x6 hf
    exact absurd hf (by unfold f_X2_exploreWithMemory_L73; exact fun h => by cases h)
  | succ n9 hq73 =>
    intro st x1 x2 x3 x4 x5 x6 hf
    unfold f_X2_exploreWithMemory_L73 at hf
    obtain ⟨b79, h79, hf⟩ := bnd hf
    by_cases c82 : b79 ≤ x6
    · replace hf := ite_t c82 hf
      by_cases c127 : x5 = 0
      · replace hf := ite_t c127 hf
        obtain ⟨b135, h135, hf⟩ := bnd hf
        have p135 := l_X1_add h135
        have q9 := f_X2_exploreWithMemory_J138_l hsq _ _ hf
        omega
      · replace hf := ite_f c127 hf
        have q9 := f_X2_exploreWithMemory_J138_l hsq _ _ hf
        omega
    · replace hf := ite_f c82 hf
      by_cases c92 : ((x4 >>> (x6 &&& 31)) &&& 1) = 0
      · replace hf := ite_t c92 hf
        have q9 := f_X2_exploreWithMemory_J119_l hsq hq73 _ _ _ _ _ _ _ hf
        omega
      · replace hf := ite_f c92 hf
        obtain ⟨b107, h107, hf⟩ := bnd hf
        obtain ⟨b110, h110, hf⟩ := bnd hf
        have p110 := hsq _ _ _ _ h110
        by_cases c113 : b110.1 = 0
        · replace hf := ite_t c113 hf
          have q9 := f_X2_exploreWithMemory_J119_l hsq hq73 _ _ _ _ _ _ _ hf
          omega
        · replace hf := ite_f c113 hf
          have q9 := f_X2_exploreWithMemory_J119_l hsq hq73 _ _ _ _ _ _ _ hf
          omega
set_option maxRecDepth 100000 in
theorem f_X2_exploreWithMemory_L73_w {d : Nat} {self : St → Int32 → Int32 → Option (Int32 × St)} {res : (Int32 × St)} (X : Cx V A cX2_exploreWithMemory 7 RX2 p m c s args) (hr : meth.sig.returnType = (some .boolean)) (hlk : meth.locks = false) (hself : ∀ (st : St) (a1 : Int32) (a2 : Int32) (res : (Int32 × St)), self st a1 a2 = some res → Cn l yX2_exploreWithMemory cX2_exploreWithMemory 7 (some .boolean) (2 + d) (49 + d * 26) 0 0 V A (WdC V ad A) st [.ref (ad 3), .int a1, .int a2] (Qwi A (WdC V ad A) res.1 res.2))  : ∀ (n9 : Nat) (st : St) (x1 : Int32) (x2 : Int32) (x3 : Int32) (x4 : Int32) (x5 : Int32) (x6 : Int32) (H : Heap) (locs : List Loc) (ls : Array Slot), f_X2_exploreWithMemory_L73 self n9 st x1 x2 x3 x4 x5 x6 = some res → (WdC V ad A) st H → va_S A s.heap H locs → lv_has ls 7 [(0, .ref (ad 3)), (1, .int x1), (2, .int x2), (3, .int x3), (4, .int x4), (5, .int x5), (6, .int x6)] → W p l e (rmF (2 + (d + 1)) (49 + (d + 1) * 26) 0 0) s m args below meth c H locs 0 0 (MQ below (Qwi A (WdC V ad A) res.1 res.2) args s 0 0 A) (F0 m 73 ls []) := by
  intro n9
  induction n9 with
  | zero =>
    intro st x1 x2 x3 x4 x5 x6 H locs ls hf
    exact absurd hf (by unfold f_X2_exploreWithMemory_L73; exact fun h => by cases h)
  | succ n9 hr73 =>
    intro st x1 x2 x3 x4 x5 x6 H locs ls hf hW hS hl
    
    unfold f_X2_exploreWithMemory_L73 at hf
    refine lv_iload X.hx X.hb dX2_exploreWithMemory_73 (lv_at hl 6 rfl) ?_
    refine lv_aload_n X.hx X.hb dX2_exploreWithMemory_75 rfl (lv_at hl 0 rfl) ?_
    refine gX2_list X hW dX2_exploreWithMemory_76 ?_
    obtain ⟨b79, h79, hf⟩ := bnd hf
    refine cl_i (run_V (As := []) (rest := [.int x6]) X (w_X6_size l V A ad h79) mw_X6_size ln_X2_74 (rcX6 X hW) hW hS rfl hl.1 rfl (Nat.le_of_ble_eq_true rfl) ⟨by simp only [rmF]; omega, by simp only [rmF]; omega⟩ ⟨Nat.le_refl _, Nat.le_refl _⟩ dX2_exploreWithMemory_79) hS (fun H locs hW hS => ?_)
    refine lv_icmp_ge (tgt := 125) X.hx X.hb dX2_exploreWithMemory_82 (by decide) (fun c82 => ?_) (fun c82 => ?_)
    · replace hf := ite_t c82 hf
      refine lv_iload X.hx X.hb dX2_exploreWithMemory_125 (lv_at hl 5 rfl) ?_
      refine lv_if_ne (tgt := 138) X.hx X.hb dX2_exploreWithMemory_127 (by decide) (fun c127 => ?_) (fun c127 => ?_)
      · replace hf := ite_f c127 hf
        exact f_X2_exploreWithMemory_J138_w X hr hlk hself _ _ _ _ _  hf hW hS (lv_sub hl [5] rfl)
      · replace hf := ite_t c127 hf
        refine lv_aload_n X.hx X.hb dX2_exploreWithMemory_130 rfl (lv_at hl 0 rfl) ?_
        refine gX2_deadEnds X hW dX2_exploreWithMemory_131 ?_
        refine lv_iload_n X.hx X.hb dX2_exploreWithMemory_134 rfl (lv_at hl 3 rfl) ?_
        obtain ⟨b135, h135, hf⟩ := bnd hf
        refine cl_v (run_V (As := [.int x3]) (rest := []) X (w_X1_add l V A ad h135) mw_X1_add ln_X2_118 (rcX1 X hW) hW hS rfl hl.1 rfl (Nat.le_of_ble_eq_true rfl) ⟨by simp only [rmF]; omega, by simp only [rmF]; omega⟩ ⟨Nat.le_refl _, Nat.le_refl _⟩ dX2_exploreWithMemory_135) hS (fun H locs hW hS => ?_)
        exact f_X2_exploreWithMemory_J138_w X hr hlk hself _ _ _ _ _  hf hW hS (lv_sub hl [5] rfl)
    · replace hf := ite_f c82 hf
      refine lv_iload X.hx X.hb dX2_exploreWithMemory_85 (lv_at hl 4 rfl) ?_
      refine lv_iload X.hx X.hb dX2_exploreWithMemory_87 (lv_at hl 6 rfl) ?_
      refine lv_ishr X.hx X.hb dX2_exploreWithMemory_89 ?_
      refine lv_iconst (v := 1) X.hx X.hb dX2_exploreWithMemory_90 (by decide) ?_
      refine lv_iand X.hx X.hb dX2_exploreWithMemory_91 ?_
      refine lv_if_eq (tgt := 119) X.hx X.hb dX2_exploreWithMemory_92 (by decide) (fun c92 => ?_) (fun c92 => ?_)
      · replace hf := ite_t c92 hf
        exact f_X2_exploreWithMemory_J119_w X hr hlk hself hr73 _ _ _ _ _ _ _ _ _ _  hf hW hS (lv_sub hl [0, 1, 2, 3, 4, 5, 6] rfl)
      · replace hf := ite_f c92 hf
        refine lv_aload_n X.hx X.hb dX2_exploreWithMemory_95 rfl (lv_at hl 0 rfl) ?_
        refine lv_iload_n X.hx X.hb dX2_exploreWithMemory_96 rfl (lv_at hl 1 rfl) ?_
        refine lv_iconst (v := 1) X.hx X.hb dX2_exploreWithMemory_97 (by decide) ?_
        refine lv_iadd X.hx X.hb dX2_exploreWithMemory_98 ?_
        refine lv_aload_n X.hx X.hb dX2_exploreWithMemory_99 rfl (lv_at hl 0 rfl) ?_
        refine gX2_prefixes X hW dX2_exploreWithMemory_100 ?_
        refine lv_iload_n X.hx X.hb dX2_exploreWithMemory_103 rfl (lv_at hl 1 rfl) ?_
        refine lv_iload_n X.hx X.hb dX2_exploreWithMemory_104 rfl (lv_at hl 2 rfl) ?_
        refine lv_iload X.hx X.hb dX2_exploreWithMemory_105 (lv_at hl 6 rfl) ?_
        obtain ⟨b107, h107, hf⟩ := bnd hf
        refine cl_i (run_V (As := [.int x1, .int x2, .int x6]) (rest := [.int (x1 + 1), .ref (ad 3)]) X (w_X3_headsWith l V A ad h107) mw_X3_headsWith ln_X2_107 (rcX3 X hW) hW hS rfl hl.1 rfl (Nat.le_of_ble_eq_true rfl) ⟨by simp only [rmF]; omega, by simp only [rmF]; omega⟩ ⟨Nat.le_refl _, Nat.le_refl _⟩ dX2_exploreWithMemory_107) hS (fun H locs hW hS => ?_)
        obtain ⟨b110, h110, hf⟩ := bnd hf
        refine cl_i (run_V (As := [.int (x1 + 1), .int b107]) (rest := []) X (hself _ _ _ _ h110) mw_X2_exploreWithMemory ln_X2_84 (rcX2 X hW) hW hS rfl hl.1 rfl (Nat.le_of_ble_eq_true rfl) ⟨by simp only [rmF]; omega, by simp only [rmF]; omega⟩ ⟨Nat.le_refl _, Nat.le_refl _⟩ dX2_exploreWithMemory_110) hS (fun H locs hW hS => ?_)
        refine lv_if_eq (tgt := 119) X.hx X.hb dX2_exploreWithMemory_113 (by decide) (fun c113 => ?_) (fun c113 => ?_)
        · replace hf := ite_t c113 hf
          exact f_X2_exploreWithMemory_J119_w X hr hlk hself hr73 _ _ _ _ _ _ _ _ _ _  hf hW hS (lv_sub hl [0, 1, 2, 3, 4, 5, 6] rfl)
        · replace hf := ite_f c113 hf
          refine lv_iconst (v := 1) X.hx X.hb dX2_exploreWithMemory_116 (by decide) ?_
          refine lv_istore (lv' := [(5, .int 1), (0, .ref (ad 3)), (1, .int x1), (2, .int x2), (3, .int x3), (4, .int x4), (6, .int x6)]) X.hx X.hb dX2_exploreWithMemory_117 hl (by decide) rfl (fun ls hl => ?_)
          exact f_X2_exploreWithMemory_J119_w X hr hlk hself hr73 _ _ _ _ _ _ _ _ _ _  hf hW hS (lv_sub hl [1, 2, 3, 4, 5, 0, 6] rfl)
noncomputable def f_X2_exploreWithMemory : Nat → St → Int32 → Int32 → Option (Int32 × St)
  | 0, _, _, _ => none
  | d + 1, st, a1, a2 => lt (sI st 9 ((st.1 9) + 1)) fun s7 => (f_X6_length s7).bind fun b15 => if a1 < b15 then (f_X3_likeness s7 a1 a2).bind fun b29 => (f_X1_has s7 b29).bind fun b38 => if b38 = 0 then (f_X3_nextRows s7 a1 a2).bind fun b62 => f_X2_exploreWithMemory_L73 (f_X2_exploreWithMemory d) FU s7 a1 a2 b29 b62 0 0 else lt (sI s7 10 ((s7.1 10) + 1)) fun s51 => some (0, s51) else some (1, s7)
theorem l_X2_exploreWithMemory : ∀ (d : Nat) {st : St} {a1 : Int32} {a2 : Int32} {res : (Int32 × St)}, f_X2_exploreWithMemory d st a1 a2 = some res → phi res.2 = phi st := by
  intro d
  induction d with
  | zero => intro st a1 a2 res hf; exact absurd hf (by unfold f_X2_exploreWithMemory; exact fun h => by cases h)
  | succ d ihd =>
    intro st a1 a2 res hf
    have hsq : ∀ (st : St) (a1 : Int32) (a2 : Int32) (res : (Int32 × St)), f_X2_exploreWithMemory d st a1 a2 = some res → phi res.2 = phi st := fun _ _ _ _ h => ihd h
    unfold f_X2_exploreWithMemory at hf
    obtain ⟨s7, e7, hf⟩ := lt_e hf
    have p7 : phi s7 = phi st := by rw [e7]; rfl
    obtain ⟨b15, h15, hf⟩ := bnd hf
    by_cases c18 : a1 < b15
    · replace hf := ite_t c18 hf
      obtain ⟨b29, h29, hf⟩ := bnd hf
      obtain ⟨b38, h38, hf⟩ := bnd hf
      by_cases c41 : b38 = 0
      · replace hf := ite_t c41 hf
        obtain ⟨b62, h62, hf⟩ := bnd hf
        have q9 := f_X2_exploreWithMemory_L73_l hsq FU _ _ _ _ _ _ _ hf
        omega
      · replace hf := ite_f c41 hf
        obtain ⟨s51, e51, hf⟩ := lt_e hf
        have p51 : phi s51 = phi s7 := by rw [e51]; rfl
        have q9 := congrArg (fun z => phi z.2) (Option.some.inj hf)
        dsimp only at q9
        omega
    · replace hf := ite_f c18 hf
      have q9 := congrArg (fun z => phi z.2) (Option.some.inj hf)
      dsimp only at q9
      omega
set_option maxRecDepth 100000 in
theorem w_X2_exploreWithMemory (l : Launch) (V : Ev) (A : Nat → Prop) (ad : Nat → Nat) : ∀ (d : Nat) (st : St) (a1 : Int32) (a2 : Int32) (res : (Int32 × St)), f_X2_exploreWithMemory d st a1 a2 = some res → Cn l yX2_exploreWithMemory cX2_exploreWithMemory 7 (some .boolean) (2 + d) (49 + d * 26) 0 0 V A (WdC V ad A) st [.ref (ad 3), .int a1, .int a2] (Qwi A (WdC V ad A) res.1 res.2) := by
  intro d
  induction d with
  | zero => intro st a1 a2 res hf; exact absurd hf (by unfold f_X2_exploreWithMemory; exact fun h => by cases h)
  | succ d hself =>
    intro st a1 a2 res hf
    refine cn_of RX2 (by decide) rfl (fun p e s m below meth c ls X hr hlk hW hS hl => ?_) (Nat.le_of_ble_eq_true rfl)
    have hl : lv_has ls 7 [(0, .ref (ad 3)), (1, .int a1), (2, .int a2)] := hl
    have hsq : ∀ (st : St) (a1 : Int32) (a2 : Int32) (res : (Int32 × St)), f_X2_exploreWithMemory d st a1 a2 = some res → phi res.2 = phi st := fun _ _ _ _ h => l_X2_exploreWithMemory d h
    unfold f_X2_exploreWithMemory at hf
    refine lv_aload_n X.hx X.hb dX2_exploreWithMemory_0 rfl (lv_at hl 0 rfl) ?_
    refine lv_dup X.hx X.hb dX2_exploreWithMemory_1 rfl ?_
    refine gX2_visitsWithMemory X hW dX2_exploreWithMemory_2 ?_
    refine lv_iconst (v := 1) X.hx X.hb dX2_exploreWithMemory_5 (by decide) ?_
    refine lv_iadd X.hx X.hb dX2_exploreWithMemory_6 ?_
    obtain ⟨s7, e7, hf⟩ := lt_e hf
    refine pX2_visitsWithMemory X hW hS dX2_exploreWithMemory_7 (fun H locs hW hS => ?_)
    rw [← e7] at hW
    refine lv_iload_n X.hx X.hb dX2_exploreWithMemory_10 rfl (lv_at hl 1 rfl) ?_
    refine lv_aload_n X.hx X.hb dX2_exploreWithMemory_11 rfl (lv_at hl 0 rfl) ?_
    refine gX2_list X hW dX2_exploreWithMemory_12 ?_
    obtain ⟨b15, h15, hf⟩ := bnd hf
    refine cl_i (run_V (As := []) (rest := [.int a1]) X (w_X6_length l V A ad h15) mw_X6_length ln_X2_96 (rcX6 X hW) hW hS rfl hl.1 rfl (Nat.le_of_ble_eq_true rfl) ⟨by simp only [rmF]; omega, by simp only [rmF]; omega⟩ ⟨Nat.le_refl _, Nat.le_refl _⟩ dX2_exploreWithMemory_15) hS (fun H locs hW hS => ?_)
    refine lv_icmp_lt (tgt := 23) X.hx X.hb dX2_exploreWithMemory_18 (by decide) (fun c18 => ?_) (fun c18 => ?_)
    · replace hf := ite_t c18 hf
      refine lv_aload_n X.hx X.hb dX2_exploreWithMemory_23 rfl (lv_at hl 0 rfl) ?_
      refine gX2_prefixes X hW dX2_exploreWithMemory_24 ?_
      refine lv_iload_n X.hx X.hb dX2_exploreWithMemory_27 rfl (lv_at hl 1 rfl) ?_
      refine lv_iload_n X.hx X.hb dX2_exploreWithMemory_28 rfl (lv_at hl 2 rfl) ?_
      obtain ⟨b29, h29, hf⟩ := bnd hf
      refine cl_i (run_V (As := [.int a1, .int a2]) (rest := []) X (w_X3_likeness l V A ad h29) mw_X3_likeness ln_X2_111 (rcX3 X hW) hW hS rfl hl.1 rfl (Nat.le_of_ble_eq_true rfl) ⟨by simp only [rmF]; omega, by simp only [rmF]; omega⟩ ⟨Nat.le_refl _, Nat.le_refl _⟩ dX2_exploreWithMemory_29) hS (fun H locs hW hS => ?_)
      refine lv_istore_n (lv' := [(3, .int b29), (0, .ref (ad 3)), (1, .int a1), (2, .int a2)]) X.hx X.hb dX2_exploreWithMemory_32 rfl hl (by decide) rfl (fun ls hl => ?_)
      refine lv_aload_n X.hx X.hb dX2_exploreWithMemory_33 rfl (lv_at hl 1 rfl) ?_
      refine gX2_deadEnds X hW dX2_exploreWithMemory_34 ?_
      refine lv_iload_n X.hx X.hb dX2_exploreWithMemory_37 rfl (lv_at hl 0 rfl) ?_
      obtain ⟨b38, h38, hf⟩ := bnd hf
      refine cl_i (run_V (As := [.int b29]) (rest := []) X (w_X1_has l V A ad h38) mw_X1_has ln_X2_114 (rcX1 X hW) hW hS rfl hl.1 rfl (Nat.le_of_ble_eq_true rfl) ⟨by simp only [rmF]; omega, by simp only [rmF]; omega⟩ ⟨Nat.le_refl _, Nat.le_refl _⟩ dX2_exploreWithMemory_38) hS (fun H locs hW hS => ?_)
      refine lv_if_eq (tgt := 56) X.hx X.hb dX2_exploreWithMemory_41 (by decide) (fun c41 => ?_) (fun c41 => ?_)
      · replace hf := ite_t c41 hf
        refine lv_aload_n X.hx X.hb dX2_exploreWithMemory_56 rfl (lv_at hl 1 rfl) ?_
        refine gX2_prefixes X hW dX2_exploreWithMemory_57 ?_
        refine lv_iload_n X.hx X.hb dX2_exploreWithMemory_60 rfl (lv_at hl 2 rfl) ?_
        refine lv_iload_n X.hx X.hb dX2_exploreWithMemory_61 rfl (lv_at hl 3 rfl) ?_
        obtain ⟨b62, h62, hf⟩ := bnd hf
        refine cl_i (run_V (As := [.int a1, .int a2]) (rest := []) X (w_X3_nextRows l V A ad h62) mw_X3_nextRows ln_X2_103 (rcX3 X hW) hW hS rfl hl.1 rfl (Nat.le_of_ble_eq_true rfl) ⟨by simp only [rmF]; omega, by simp only [rmF]; omega⟩ ⟨Nat.le_refl _, Nat.le_refl _⟩ dX2_exploreWithMemory_62) hS (fun H locs hW hS => ?_)
        refine lv_istore (lv' := [(4, .int b62), (3, .int b29), (0, .ref (ad 3)), (1, .int a1), (2, .int a2)]) X.hx X.hb dX2_exploreWithMemory_65 hl (by decide) rfl (fun ls hl => ?_)
        refine lv_iconst (v := 0) X.hx X.hb dX2_exploreWithMemory_67 (by decide) ?_
        refine lv_istore (lv' := [(5, .int 0), (4, .int b62), (3, .int b29), (0, .ref (ad 3)), (1, .int a1), (2, .int a2)]) X.hx X.hb dX2_exploreWithMemory_68 hl (by decide) rfl (fun ls hl => ?_)
        refine lv_iconst (v := 0) X.hx X.hb dX2_exploreWithMemory_70 (by decide) ?_
        refine lv_istore (lv' := [(6, .int 0), (5, .int 0), (4, .int b62), (3, .int b29), (0, .ref (ad 3)), (1, .int a1), (2, .int a2)]) X.hx X.hb dX2_exploreWithMemory_71 hl (by decide) rfl (fun ls hl => ?_)
        exact f_X2_exploreWithMemory_L73_w X hr hlk hself FU _ _ _ _ _ _ _ _ _ _  hf hW hS (lv_sub hl [4, 5, 6, 3, 2, 1, 0] rfl)
      · replace hf := ite_f c41 hf
        refine lv_aload_n X.hx X.hb dX2_exploreWithMemory_44 rfl (lv_at hl 1 rfl) ?_
        refine lv_dup X.hx X.hb dX2_exploreWithMemory_45 rfl ?_
        refine gX2_cuts X hW dX2_exploreWithMemory_46 ?_
        refine lv_iconst (v := 1) X.hx X.hb dX2_exploreWithMemory_49 (by decide) ?_
        refine lv_iadd X.hx X.hb dX2_exploreWithMemory_50 ?_
        obtain ⟨s51, e51, hf⟩ := lt_e hf
        refine pX2_cuts X hW hS dX2_exploreWithMemory_51 (fun H locs hW hS => ?_)
        rw [← e51] at hW
        refine lv_iconst (v := 0) X.hx X.hb dX2_exploreWithMemory_54 (by decide) ?_
        exact rt_z X hr hlk (by rw [← Option.some.inj hf]; exact hW) hS (Or.inl rfl) (by rw [← Option.some.inj hf]) (Nat.le_refl _) (Nat.le_refl _) dX2_exploreWithMemory_55
    · replace hf := ite_f c18 hf
      refine lv_iconst (v := 1) X.hx X.hb dX2_exploreWithMemory_21 (by decide) ?_
      exact rt_z X hr hlk (by rw [← Option.some.inj hf]; exact hW) hS (Or.inr rfl) (by rw [← Option.some.inj hf]) (Nat.le_refl _) (Nat.le_refl _) dX2_exploreWithMemory_22
-- WordSquares$SquareList.columnsOf
noncomputable def f_X4_columnsOf (st : St) (k : Nat) (a1 : Int32) : Option Int32 := (f_X4_has st k a1).bind fun b2 => if b2 = 0 then some 0 else if inb a1 (aln st (20 + k)) = true then some (((st.2.1 (20 + k) a1.toNatClampNeg).toUInt32 >>> (Int32.toUInt32 16 &&& Int32.toUInt32 31)).toInt32) else none
set_option maxRecDepth 100000 in
theorem w_X4_columnsOf (l : Launch) (V : Ev) (A : Nat → Prop) (ad : Nat → Nat) {st : St} {k : Nat} {a1 : Int32} {res : Int32} (hk : k < 3) (hf : f_X4_columnsOf st k a1 = some res) : Cn l yX4_columnsOf cX4_columnsOf 2 (some .int) 1 21 0 0 V A (WdC V ad A) st [.ref (ad (7 + k)), .int a1] (Qwi A (WdC V ad A) res st) := by
  refine cn_of RX4 (by decide) rfl (fun p e s m below meth c ls X hr hlk hW hS hl => ?_) (Nat.le_of_ble_eq_true rfl)
  have hl : lv_has ls 2 [(0, .ref (ad (7 + k))), (1, .int a1)] := hl
  unfold f_X4_columnsOf at hf
  refine lv_aload_n X.hx X.hb dX4_columnsOf_0 rfl (lv_at hl 0 rfl) ?_
  refine lv_iload_n X.hx X.hb dX4_columnsOf_1 rfl (lv_at hl 1 rfl) ?_
  obtain ⟨b2, h2, hf⟩ := bnd hf
  refine cl_i (run_V (As := [.int a1]) (rest := []) X (w_X4_has l V A ad hk h2) mw_X4_has ln_X4_23 (rcX4 X hk hW) hW hS rfl hl.1 rfl (Nat.le_of_ble_eq_true rfl) ⟨Nat.le_of_ble_eq_true rfl, Nat.le_of_ble_eq_true rfl⟩ ⟨Nat.le_refl _, Nat.le_refl _⟩ dX4_columnsOf_2) hS (fun H locs hW hS => ?_)
  refine lv_if_eq (tgt := 20) X.hx X.hb dX4_columnsOf_5 (by decide) (fun c5 => ?_) (fun c5 => ?_)
  · replace hf := ite_t c5 hf
    refine lv_iconst (v := 0) X.hx X.hb dX4_columnsOf_20 (by decide) ?_
    exact rt_i X hr hlk hW hS (Option.some.inj hf) (Nat.le_refl _) (Nat.le_refl _) dX4_columnsOf_21
  · replace hf := ite_f c5 hf
    refine lv_aload_n X.hx X.hb dX4_columnsOf_8 rfl (lv_at hl 0 rfl) ?_
    refine gX4_items X hk hW dX4_columnsOf_9 (fun q9 hQ => ?_)
    refine lv_iload_n X.hx X.hb dX4_columnsOf_12 rfl (lv_at hl 1 rfl) ?_
    obtain ⟨h13, hf⟩ := ite_n hf
    refine aC_ldQ X hk hQ rfl h13 dX4_columnsOf_13 ?_
    refine lv_bipush (v := 16) X.hx X.hb dX4_columnsOf_14 (by decide) ?_
    refine lv_iushr X.hx X.hb dX4_columnsOf_16 rfl ?_
    refine lv_goto (tgt := 21) X.hx X.hb dX4_columnsOf_17 (by decide) ?_
    exact rt_i X hr hlk hW hS (Option.some.inj hf) (Nat.le_refl _) (Nat.le_refl _) dX4_columnsOf_21
-- WordSquares$SquareList.withRows
noncomputable def f_X4_withRows_J35 (st : St) (k : Nat) (r6 : Int32 → Int32 → Int32 → Option Int32) (x1 : Int32) (x2 : Int32) (x3 : Int32) : Option Int32 := lt (x3 / 2) fun w38 => r6 x1 x2 w38
set_option maxRecDepth 100000 in
theorem f_X4_withRows_J35_w {k : Nat} {st : St} {r6 : Int32 → Int32 → Int32 → Option Int32} {res : Int32} (X : Cx V A cX4_withRows 4 RX4 p m c s args) (hr : meth.sig.returnType = (some .int)) (hlk : meth.locks = false) (hk : k < 3) (hr6 : ∀ (x1 : Int32) (x2 : Int32) (x3 : Int32) (H : Heap) (locs : List Loc) (ls : Array Slot), r6 x1 x2 x3 = some res → (WdC V ad A) st H → va_S A s.heap H locs → lv_has ls 4 [(0, .ref (ad (7 + k))), (1, .int x1), (2, .int x2), (3, .int x3)] → W p l e (rmF 2 42 0 0) s m args below meth c H locs 0 0 (MQ below (Qwi A (WdC V ad A) res st) args s 0 0 A) (F0 m 6 ls [])) (x1 : Int32) (x2 : Int32) (x3 : Int32) (H : Heap) (locs : List Loc) (ls : Array Slot)  (hf : f_X4_withRows_J35 st k r6 x1 x2 x3 = some res) (hW : (WdC V ad A) st H) (hS : va_S A s.heap H locs) (hl : lv_has ls 4 [(0, .ref (ad (7 + k))), (1, .int x1), (2, .int x2), (3, .int x3)]) : W p l e (rmF 2 42 0 0) s m args below meth c H locs 0 0 (MQ below (Qwi A (WdC V ad A) res st) args s 0 0 A) (F0 m 35 ls []) := by
  
  unfold f_X4_withRows_J35 at hf
  refine lv_iload_n X.hx X.hb dX4_withRows_35 rfl (lv_at hl 3 rfl) ?_
  refine lv_iconst (v := 2) X.hx X.hb dX4_withRows_36 (by decide) ?_
  refine lv_idiv X.hx X.hb dX4_withRows_37 (by decide) ?_
  obtain ⟨w38, e38, hf⟩ := lt_e hf
  refine lv_nm e38 ?_
  refine lv_istore_n (lv' := [(3, .int w38), (0, .ref (ad (7 + k))), (1, .int x1), (2, .int x2)]) X.hx X.hb dX4_withRows_38 rfl hl (by decide) rfl (fun ls hl => ?_)
  refine lv_goto (tgt := 6) X.hx X.hb dX4_withRows_39 (by decide) ?_
  exact hr6 _ _ _ _ _ _  hf hW hS (lv_sub hl [1, 2, 3, 0] rfl)
noncomputable def f_X4_withRows_L6 (st : St) (k : Nat) : Nat → Int32 → Int32 → Int32 → Option Int32
  | 0, _, _, _ => none
  | fu + 1, x1, x2, x3 => if x3 ≤ 0 then some x2 else if (st.1 (13 + k)) ≤ (x2 + x3) then f_X4_withRows_J35 st k ((f_X4_withRows_L6 st k fu)) x1 x2 x3 else (f_X4_rowsOf st k (x2 + x3)).bind fun b24 => if x1 < b24 then f_X4_withRows_J35 st k ((f_X4_withRows_L6 st k fu)) x1 x2 x3 else lt (x2 + x3) fun w34 => f_X4_withRows_J35 st k ((f_X4_withRows_L6 st k fu)) x1 w34 x3
set_option maxRecDepth 100000 in
theorem f_X4_withRows_L6_w {k : Nat} {st : St} {res : Int32} (X : Cx V A cX4_withRows 4 RX4 p m c s args) (hr : meth.sig.returnType = (some .int)) (hlk : meth.locks = false) (hk : k < 3)  : ∀ (n9 : Nat) (x1 : Int32) (x2 : Int32) (x3 : Int32) (H : Heap) (locs : List Loc) (ls : Array Slot), f_X4_withRows_L6 st k n9 x1 x2 x3 = some res → (WdC V ad A) st H → va_S A s.heap H locs → lv_has ls 4 [(0, .ref (ad (7 + k))), (1, .int x1), (2, .int x2), (3, .int x3)] → W p l e (rmF 2 42 0 0) s m args below meth c H locs 0 0 (MQ below (Qwi A (WdC V ad A) res st) args s 0 0 A) (F0 m 6 ls []) := by
  intro n9
  induction n9 with
  | zero =>
    intro x1 x2 x3 H locs ls hf
    exact absurd hf (by unfold f_X4_withRows_L6; exact fun h => by cases h)
  | succ n9 hr6 =>
    intro x1 x2 x3 H locs ls hf hW hS hl
    
    unfold f_X4_withRows_L6 at hf
    refine lv_iload_n X.hx X.hb dX4_withRows_6 rfl (lv_at hl 3 rfl) ?_
    refine lv_if_le (tgt := 42) X.hx X.hb dX4_withRows_7 (by decide) (fun c7 => ?_) (fun c7 => ?_)
    · replace hf := ite_t c7 hf
      refine lv_iload_n X.hx X.hb dX4_withRows_42 rfl (lv_at hl 2 rfl) ?_
      exact rt_i X hr hlk hW hS (Option.some.inj hf) (Nat.le_refl _) (Nat.le_refl _) dX4_withRows_43
    · replace hf := ite_f c7 hf
      refine lv_iload_n X.hx X.hb dX4_withRows_10 rfl (lv_at hl 2 rfl) ?_
      refine lv_iload_n X.hx X.hb dX4_withRows_11 rfl (lv_at hl 3 rfl) ?_
      refine lv_iadd X.hx X.hb dX4_withRows_12 ?_
      refine lv_aload_n X.hx X.hb dX4_withRows_13 rfl (lv_at hl 0 rfl) ?_
      refine gX4_size X hk hW dX4_withRows_14 ?_
      refine lv_icmp_ge (tgt := 35) X.hx X.hb dX4_withRows_17 (by decide) (fun c17 => ?_) (fun c17 => ?_)
      · replace hf := ite_t c17 hf
        exact f_X4_withRows_J35_w X hr hlk hk hr6 _ _ _ _ _ _  hf hW hS (lv_sub hl [0, 1, 2, 3] rfl)
      · replace hf := ite_f c17 hf
        refine lv_aload_n X.hx X.hb dX4_withRows_20 rfl (lv_at hl 0 rfl) ?_
        refine lv_iload_n X.hx X.hb dX4_withRows_21 rfl (lv_at hl 2 rfl) ?_
        refine lv_iload_n X.hx X.hb dX4_withRows_22 rfl (lv_at hl 3 rfl) ?_
        refine lv_iadd X.hx X.hb dX4_withRows_23 ?_
        obtain ⟨b24, h24, hf⟩ := bnd hf
        refine cl_i (run_V (As := [.int (x2 + x3)]) (rest := []) X (w_X4_rowsOf l V A ad hk h24) mw_X4_rowsOf ln_X4_28 (rcX4 X hk hW) hW hS rfl hl.1 rfl (Nat.le_of_ble_eq_true rfl) ⟨Nat.le_of_ble_eq_true rfl, Nat.le_of_ble_eq_true rfl⟩ ⟨Nat.le_refl _, Nat.le_refl _⟩ dX4_withRows_24) hS (fun H locs hW hS => ?_)
        refine lv_iload_n X.hx X.hb dX4_withRows_27 rfl (lv_at hl 1 rfl) ?_
        refine lv_icmp_gt (tgt := 35) X.hx X.hb dX4_withRows_28 (by decide) (fun c28 => ?_) (fun c28 => ?_)
        · replace hf := ite_t c28 hf
          exact f_X4_withRows_J35_w X hr hlk hk hr6 _ _ _ _ _ _  hf hW hS (lv_sub hl [0, 1, 2, 3] rfl)
        · replace hf := ite_f c28 hf
          refine lv_iload_n X.hx X.hb dX4_withRows_31 rfl (lv_at hl 2 rfl) ?_
          refine lv_iload_n X.hx X.hb dX4_withRows_32 rfl (lv_at hl 3 rfl) ?_
          refine lv_iadd X.hx X.hb dX4_withRows_33 ?_
          obtain ⟨w34, e34, hf⟩ := lt_e hf
          refine lv_nm e34 ?_
          refine lv_istore_n (lv' := [(2, .int w34), (0, .ref (ad (7 + k))), (1, .int x1), (3, .int x3)]) X.hx X.hb dX4_withRows_34 rfl hl (by decide) rfl (fun ls hl => ?_)
          exact f_X4_withRows_J35_w X hr hlk hk hr6 _ _ _ _ _ _  hf hW hS (lv_sub hl [1, 2, 0, 3] rfl)
noncomputable def f_X4_withRows (st : St) (k : Nat) (a1 : Int32) : Option Int32 := f_X4_withRows_L6 st k FU a1 0 16384
set_option maxRecDepth 100000 in
theorem w_X4_withRows (l : Launch) (V : Ev) (A : Nat → Prop) (ad : Nat → Nat) {st : St} {k : Nat} {a1 : Int32} {res : Int32} (hk : k < 3) (hf : f_X4_withRows st k a1 = some res) : Cn l yX4_withRows cX4_withRows 4 (some .int) 2 42 0 0 V A (WdC V ad A) st [.ref (ad (7 + k)), .int a1] (Qwi A (WdC V ad A) res st) := by
  refine cn_of RX4 (by decide) rfl (fun p e s m below meth c ls X hr hlk hW hS hl => ?_) (Nat.le_of_ble_eq_true rfl)
  have hl : lv_has ls 4 [(0, .ref (ad (7 + k))), (1, .int a1)] := hl
  unfold f_X4_withRows at hf
  refine lv_iconst (v := 0) X.hx X.hb dX4_withRows_0 (by decide) ?_
  refine lv_istore_n (lv' := [(2, .int 0), (0, .ref (ad (7 + k))), (1, .int a1)]) X.hx X.hb dX4_withRows_1 rfl hl (by decide) rfl (fun ls hl => ?_)
  refine lv_sipush (v := 16384) X.hx X.hb dX4_withRows_2 (by decide) ?_
  refine lv_istore_n (lv' := [(3, .int 16384), (2, .int 0), (0, .ref (ad (7 + k))), (1, .int a1)]) X.hx X.hb dX4_withRows_5 rfl hl (by decide) rfl (fun ls hl => ?_)
  exact f_X4_withRows_L6_w X hr hlk hk FU _ _ _ _ _ _  hf hW hS (lv_sub hl [2, 3, 1, 0] rfl)
-- WordSquares$Text.size
noncomputable def f_X5_size (st : St) : Option Int32 := some (st.1 4)
set_option maxRecDepth 100000 in
theorem w_X5_size (l : Launch) (V : Ev) (A : Nat → Prop) (ad : Nat → Nat) {st : St} {res : Int32} (hf : f_X5_size st = some res) : Cn l yX5_size cX5_size 1 (some .int) 0 0 0 0 V A (WdC V ad A) st [.ref (ad 1)] (Qwi A (WdC V ad A) res st) := by
  refine cn_of RX5 (by decide) rfl (fun p e s m below meth c ls X hr hlk hW hS hl => ?_) (Nat.le_of_ble_eq_true rfl)
  have hl : lv_has ls 1 [(0, .ref (ad 1))] := hl
  unfold f_X5_size at hf
  refine lv_aload_n X.hx X.hb dX5_size_0 rfl (lv_at hl 0 rfl) ?_
  refine gX5_size X hW dX5_size_1 ?_
  exact rt_i X hr hlk hW hS (Option.some.inj hf) (Nat.le_refl _) (Nat.le_refl _) dX5_size_4
-- WordSquares$Text.append
noncomputable def f_X5_append (st : St) (a1 : Int32) : Option St := if 60 ≤ (st.1 4) then some st else if inb (st.1 4) 60 = true then lt (sA st 11 (st.1 4).toNatClampNeg a1) fun s18 => lt (sI s18 4 ((s18.1 4) + 1)) fun s26 => some s26 else none
theorem l_X5_append {st : St} {a1 : Int32} {res : St} (hf : f_X5_append st a1 = some res) : phi res = phi st := by
  unfold f_X5_append at hf
  by_cases c6 : 60 ≤ (st.1 4)
  · replace hf := ite_t c6 hf
    have q9 := congrArg phi (Option.some.inj hf)
    omega
  · replace hf := ite_f c6 hf
    obtain ⟨h18, hf⟩ := ite_n hf
    obtain ⟨s18, e18, hf⟩ := lt_e hf
    have p18 : phi s18 = phi st := by rw [e18]; rfl
    obtain ⟨s26, e26, hf⟩ := lt_e hf
    have p26 : phi s26 = phi s18 := by rw [e26]; rfl
    have q9 := congrArg phi (Option.some.inj hf)
    omega
set_option maxRecDepth 100000 in
theorem w_X5_append (l : Launch) (V : Ev) (A : Nat → Prop) (ad : Nat → Nat) {st : St} {a1 : Int32} {res : St} (hf : f_X5_append st a1 = some res) : Cn l yX5_append cX5_append 2 none 0 0 0 0 V A (WdC V ad A) st [.ref (ad 1), .int a1] (Qwv A (WdC V ad A) res) := by
  refine cn_of RX5 (by decide) rfl (fun p e s m below meth c ls X hr hlk hW hS hl => ?_) (Nat.le_of_ble_eq_true rfl)
  have hl : lv_has ls 2 [(0, .ref (ad 1)), (1, .int a1)] := hl
  unfold f_X5_append at hf
  refine lv_aload_n X.hx X.hb dX5_append_0 rfl (lv_at hl 0 rfl) ?_
  refine gX5_size X hW dX5_append_1 ?_
  refine lv_bipush (v := 60) X.hx X.hb dX5_append_4 (by decide) ?_
  refine lv_icmp_ge (tgt := 29) X.hx X.hb dX5_append_6 (by decide) (fun c6 => ?_) (fun c6 => ?_)
  · replace hf := ite_t c6 hf
    exact rt_v X hr hlk (by rw [← Option.some.inj hf]; exact hW) hS (Nat.le_refl _) (Nat.le_refl _) dX5_append_29
  · replace hf := ite_f c6 hf
    refine lv_aload_n X.hx X.hb dX5_append_9 rfl (lv_at hl 0 rfl) ?_
    refine gX5_signs X hW dX5_append_10 ?_
    refine lv_aload_n X.hx X.hb dX5_append_13 rfl (lv_at hl 0 rfl) ?_
    refine gX5_size X hW dX5_append_14 ?_
    refine lv_iload_n X.hx X.hb dX5_append_17 rfl (lv_at hl 1 rfl) ?_
    obtain ⟨h18, hf⟩ := ite_n hf
    obtain ⟨s18, e18, hf⟩ := lt_e hf
    refine aC_st X hW hS isA_11 rfl h18 dX5_append_18 (fun H locs hW hS => ?_)
    rw [← e18] at hW
    refine lv_aload_n X.hx X.hb dX5_append_19 rfl (lv_at hl 0 rfl) ?_
    refine lv_dup X.hx X.hb dX5_append_20 rfl ?_
    refine gX5_size X hW dX5_append_21 ?_
    refine lv_iconst (v := 1) X.hx X.hb dX5_append_24 (by decide) ?_
    refine lv_iadd X.hx X.hb dX5_append_25 ?_
    obtain ⟨s26, e26, hf⟩ := lt_e hf
    refine pX5_size X hW hS dX5_append_26 (fun H locs hW hS => ?_)
    rw [← e26] at hW
    exact rt_v X hr hlk (by rw [← Option.some.inj hf]; exact hW) hS (Nat.le_refl _) (Nat.le_refl _) dX5_append_29
-- WordSquares$Text.clear
noncomputable def f_X5_clear (st : St) : Option St := lt (sI st 4 0) fun s2 => some s2
theorem l_X5_clear {st : St} {res : St} (hf : f_X5_clear st = some res) : phi res = phi st := by
  unfold f_X5_clear at hf
  obtain ⟨s2, e2, hf⟩ := lt_e hf
  have p2 : phi s2 = phi st := by rw [e2]; rfl
  have q9 := congrArg phi (Option.some.inj hf)
  omega
set_option maxRecDepth 100000 in
theorem w_X5_clear (l : Launch) (V : Ev) (A : Nat → Prop) (ad : Nat → Nat) {st : St} {res : St} (hf : f_X5_clear st = some res) : Cn l yX5_clear cX5_clear 1 none 0 0 0 0 V A (WdC V ad A) st [.ref (ad 1)] (Qwv A (WdC V ad A) res) := by
  refine cn_of RX5 (by decide) rfl (fun p e s m below meth c ls X hr hlk hW hS hl => ?_) (Nat.le_of_ble_eq_true rfl)
  have hl : lv_has ls 1 [(0, .ref (ad 1))] := hl
  unfold f_X5_clear at hf
  refine lv_aload_n X.hx X.hb dX5_clear_0 rfl (lv_at hl 0 rfl) ?_
  refine lv_iconst (v := 0) X.hx X.hb dX5_clear_1 (by decide) ?_
  obtain ⟨s2, e2, hf⟩ := lt_e hf
  refine pX5_size X hW hS dX5_clear_2 (fun H locs hW hS => ?_)
  rw [← e2] at hW
  exact rt_v X hr hlk (by rw [← Option.some.inj hf]; exact hW) hS (Nat.le_refl _) (Nat.le_refl _) dX5_clear_5
-- WordSquares$Text.codeAt
noncomputable def f_X5_codeAt_J21 (st : St) : Option Int32 := some 0
set_option maxRecDepth 100000 in
theorem f_X5_codeAt_J21_w {st : St} {res : Int32} (X : Cx V A cX5_codeAt 2 RX5 p m c s args) (hr : meth.sig.returnType = (some .int)) (hlk : meth.locks = false)  (H : Heap) (locs : List Loc) (ls : Array Slot)  (hf : f_X5_codeAt_J21 st  = some res) (hW : (WdC V ad A) st H) (hS : va_S A s.heap H locs) (hl : lv_has ls 2 []) : W p l e (rmF 0 0 0 0) s m args below meth c H locs 0 0 (MQ below (Qwi A (WdC V ad A) res st) args s 0 0 A) (F0 m 21 ls []) := by
  
  unfold f_X5_codeAt_J21 at hf
  refine lv_iconst (v := 0) X.hx X.hb dX5_codeAt_21 (by decide) ?_
  exact rt_i X hr hlk hW hS (Option.some.inj hf) (Nat.le_refl _) (Nat.le_refl _) dX5_codeAt_22
noncomputable def f_X5_codeAt (st : St) (a1 : Int32) : Option Int32 := if a1 < 0 then f_X5_codeAt_J21 st else if (st.1 4) ≤ a1 then f_X5_codeAt_J21 st else if inb a1 60 = true then some (st.2.1 11 a1.toNatClampNeg) else none
set_option maxRecDepth 100000 in
theorem w_X5_codeAt (l : Launch) (V : Ev) (A : Nat → Prop) (ad : Nat → Nat) {st : St} {a1 : Int32} {res : Int32} (hf : f_X5_codeAt st a1 = some res) : Cn l yX5_codeAt cX5_codeAt 2 (some .int) 0 0 0 0 V A (WdC V ad A) st [.ref (ad 1), .int a1] (Qwi A (WdC V ad A) res st) := by
  refine cn_of RX5 (by decide) rfl (fun p e s m below meth c ls X hr hlk hW hS hl => ?_) (Nat.le_of_ble_eq_true rfl)
  have hl : lv_has ls 2 [(0, .ref (ad 1)), (1, .int a1)] := hl
  unfold f_X5_codeAt at hf
  refine lv_iload_n X.hx X.hb dX5_codeAt_0 rfl (lv_at hl 1 rfl) ?_
  refine lv_if_lt (tgt := 21) X.hx X.hb dX5_codeAt_1 (by decide) (fun c1 => ?_) (fun c1 => ?_)
  · replace hf := ite_t c1 hf
    exact f_X5_codeAt_J21_w X hr hlk  _ _ _  hf hW hS (lv_sub hl [] rfl)
  · replace hf := ite_f c1 hf
    refine lv_iload_n X.hx X.hb dX5_codeAt_4 rfl (lv_at hl 1 rfl) ?_
    refine lv_aload_n X.hx X.hb dX5_codeAt_5 rfl (lv_at hl 0 rfl) ?_
    refine gX5_size X hW dX5_codeAt_6 ?_
    refine lv_icmp_ge (tgt := 21) X.hx X.hb dX5_codeAt_9 (by decide) (fun c9 => ?_) (fun c9 => ?_)
    · replace hf := ite_t c9 hf
      exact f_X5_codeAt_J21_w X hr hlk  _ _ _  hf hW hS (lv_sub hl [] rfl)
    · replace hf := ite_f c9 hf
      refine lv_aload_n X.hx X.hb dX5_codeAt_12 rfl (lv_at hl 0 rfl) ?_
      refine gX5_signs X hW dX5_codeAt_13 ?_
      refine lv_iload_n X.hx X.hb dX5_codeAt_16 rfl (lv_at hl 1 rfl) ?_
      obtain ⟨h17, hf⟩ := ite_n hf
      refine aC_ld X hW isA_11 rfl h17 dX5_codeAt_17 ?_
      refine lv_goto (tgt := 22) X.hx X.hb dX5_codeAt_18 (by decide) ?_
      exact rt_i X hr hlk hW hS (Option.some.inj hf) (Nat.le_refl _) (Nat.le_refl _) dX5_codeAt_22
-- WordSquares$Text.isLetter
noncomputable def f_X5_isLetter_J16 : Option Int32 := some 0
set_option maxRecDepth 100000 in
theorem f_X5_isLetter_J16_w {st : St} {res : Int32} (X : Cx V A cX5_isLetter 1 RX5 p m c s args) (hr : meth.sig.returnType = (some .boolean)) (hlk : meth.locks = false)  (H : Heap) (locs : List Loc) (ls : Array Slot)  (hf : f_X5_isLetter_J16  = some res) (hW : Wd st H) (hS : va_S A s.heap H locs) (hl : lv_has ls 1 []) : W p l e (rmF 0 0 0 0) s m args below meth c H locs 0 0 (MQ below (Qwi A Wd res st) args s 0 0 A) (F0 m 16 ls []) := by
  
  unfold f_X5_isLetter_J16 at hf
  refine lv_iconst (v := 0) X.hx X.hb dX5_isLetter_16 (by decide) ?_
  exact rt_z X hr hlk hW hS (Or.inl rfl) (Option.some.inj hf) (Nat.le_refl _) (Nat.le_refl _) dX5_isLetter_17
noncomputable def f_X5_isLetter (a0 : Int32) : Option Int32 := if a0 < 97 then f_X5_isLetter_J16 else if 122 < a0 then f_X5_isLetter_J16 else some 1
set_option maxRecDepth 100000 in
theorem w_X5_isLetter (l : Launch) (V : Ev) (A : Nat → Prop) (Wd : St → Heap → Prop) (st : St) {a0 : Int32} {res : Int32} (hf : f_X5_isLetter a0 = some res) : Cn l yX5_isLetter cX5_isLetter 1 (some .boolean) 0 0 0 0 V A Wd st [.int a0] (Qwi A Wd res st) := by
  refine cn_of RX5 (by decide) rfl (fun p e s m below meth c ls X hr hlk hW hS hl => ?_) (Nat.le_of_ble_eq_true rfl)
  have hl : lv_has ls 1 [(0, .int a0)] := hl
  unfold f_X5_isLetter at hf
  refine lv_iload_n X.hx X.hb dX5_isLetter_0 rfl (lv_at hl 0 rfl) ?_
  refine lv_bipush (v := 97) X.hx X.hb dX5_isLetter_1 (by decide) ?_
  refine lv_icmp_lt (tgt := 16) X.hx X.hb dX5_isLetter_3 (by decide) (fun c3 => ?_) (fun c3 => ?_)
  · replace hf := ite_t c3 hf
    exact f_X5_isLetter_J16_w X hr hlk  _ _ _  hf hW hS (lv_sub hl [] rfl)
  · replace hf := ite_f c3 hf
    refine lv_iload_n X.hx X.hb dX5_isLetter_6 rfl (lv_at hl 0 rfl) ?_
    refine lv_bipush (v := 122) X.hx X.hb dX5_isLetter_7 (by decide) ?_
    refine lv_icmp_gt (tgt := 16) X.hx X.hb dX5_isLetter_9 (by decide) (fun c9 => ?_) (fun c9 => ?_)
    · replace hf := ite_t c9 hf
      exact f_X5_isLetter_J16_w X hr hlk  _ _ _  hf hW hS (lv_sub hl [] rfl)
    · replace hf := ite_f c9 hf
      refine lv_iconst (v := 1) X.hx X.hb dX5_isLetter_12 (by decide) ?_
      refine lv_goto (tgt := 17) X.hx X.hb dX5_isLetter_13 (by decide) ?_
      exact rt_z X hr hlk hW hS (Or.inr rfl) (Option.some.inj hf) (Nat.le_refl _) (Nat.le_refl _) dX5_isLetter_17
-- WordSquares$Text.sameWord
noncomputable def f_X5_sameWord_L3 (st : St) : Nat → Int32 → Int32 → Int32 → Int32 → Option Int32
  | 0, _, _, _, _ => none
  | fu + 1, x1, x2, x3, x4 => if x3 ≤ x4 then some 1 else (f_X5_codeAt st (x1 + x4)).bind fun b14 => (f_X5_codeAt st (x2 + x4)).bind fun b22 => if b14 = b22 then lt (x4 + 1) fun w30 => (f_X5_sameWord_L3 st fu) x1 x2 x3 w30 else some 0
set_option maxRecDepth 100000 in
theorem f_X5_sameWord_L3_w {st : St} {res : Int32} (X : Cx V A cX5_sameWord 5 RX5 p m c s args) (hr : meth.sig.returnType = (some .boolean)) (hlk : meth.locks = false)  : ∀ (n9 : Nat) (x1 : Int32) (x2 : Int32) (x3 : Int32) (x4 : Int32) (H : Heap) (locs : List Loc) (ls : Array Slot), f_X5_sameWord_L3 st n9 x1 x2 x3 x4 = some res → (WdC V ad A) st H → va_S A s.heap H locs → lv_has ls 5 [(0, .ref (ad 1)), (1, .int x1), (2, .int x2), (3, .int x3), (4, .int x4)] → W p l e (rmF 1 21 0 0) s m args below meth c H locs 0 0 (MQ below (Qwi A (WdC V ad A) res st) args s 0 0 A) (F0 m 3 ls []) := by
  intro n9
  induction n9 with
  | zero =>
    intro x1 x2 x3 x4 H locs ls hf
    exact absurd hf (by unfold f_X5_sameWord_L3; exact fun h => by cases h)
  | succ n9 hr3 =>
    intro x1 x2 x3 x4 H locs ls hf hW hS hl
    
    unfold f_X5_sameWord_L3 at hf
    refine lv_iload X.hx X.hb dX5_sameWord_3 (lv_at hl 4 rfl) ?_
    refine lv_iload_n X.hx X.hb dX5_sameWord_5 rfl (lv_at hl 3 rfl) ?_
    refine lv_icmp_ge (tgt := 36) X.hx X.hb dX5_sameWord_6 (by decide) (fun c6 => ?_) (fun c6 => ?_)
    · replace hf := ite_t c6 hf
      refine lv_iconst (v := 1) X.hx X.hb dX5_sameWord_36 (by decide) ?_
      exact rt_z X hr hlk hW hS (Or.inr rfl) (Option.some.inj hf) (Nat.le_refl _) (Nat.le_refl _) dX5_sameWord_37
    · replace hf := ite_f c6 hf
      refine lv_aload_n X.hx X.hb dX5_sameWord_9 rfl (lv_at hl 0 rfl) ?_
      refine lv_iload_n X.hx X.hb dX5_sameWord_10 rfl (lv_at hl 1 rfl) ?_
      refine lv_iload X.hx X.hb dX5_sameWord_11 (lv_at hl 4 rfl) ?_
      refine lv_iadd X.hx X.hb dX5_sameWord_13 ?_
      obtain ⟨b14, h14, hf⟩ := bnd hf
      refine cl_i (run_V (As := [.int (x1 + x4)]) (rest := []) X (w_X5_codeAt l V A ad h14) mw_X5_codeAt ln_X5_31 (rcX5 X hW) hW hS rfl hl.1 rfl (Nat.le_of_ble_eq_true rfl) ⟨Nat.le_of_ble_eq_true rfl, Nat.le_of_ble_eq_true rfl⟩ ⟨Nat.le_refl _, Nat.le_refl _⟩ dX5_sameWord_14) hS (fun H locs hW hS => ?_)
      refine lv_aload_n X.hx X.hb dX5_sameWord_17 rfl (lv_at hl 0 rfl) ?_
      refine lv_iload_n X.hx X.hb dX5_sameWord_18 rfl (lv_at hl 2 rfl) ?_
      refine lv_iload X.hx X.hb dX5_sameWord_19 (lv_at hl 4 rfl) ?_
      refine lv_iadd X.hx X.hb dX5_sameWord_21 ?_
      obtain ⟨b22, h22, hf⟩ := bnd hf
      refine cl_i (run_V (As := [.int (x2 + x4)]) (rest := [.int b14]) X (w_X5_codeAt l V A ad h22) mw_X5_codeAt ln_X5_31 (rcX5 X hW) hW hS rfl hl.1 rfl (Nat.le_of_ble_eq_true rfl) ⟨Nat.le_of_ble_eq_true rfl, Nat.le_of_ble_eq_true rfl⟩ ⟨Nat.le_refl _, Nat.le_refl _⟩ dX5_sameWord_22) hS (fun H locs hW hS => ?_)
      refine lv_icmp_eq (tgt := 30) X.hx X.hb dX5_sameWord_25 (by decide) (fun c25 => ?_) (fun c25 => ?_)
      · replace hf := ite_t c25 hf
        obtain ⟨w30, e30, hf⟩ := lt_e hf
        refine lv_iinc (v := w30) (lv' := [(4, .int w30), (0, .ref (ad 1)), (1, .int x1), (2, .int x2), (3, .int x3)]) X.hx X.hb dX5_sameWord_30 hl (k := 4) rfl (by rw [e30]; rfl) (by decide) rfl (fun ls hl => ?_)
        refine lv_goto (tgt := 3) X.hx X.hb dX5_sameWord_33 (by decide) ?_
        exact hr3 _ _ _ _ _ _ _  hf hW hS (lv_sub hl [1, 2, 3, 4, 0] rfl)
      · replace hf := ite_f c25 hf
        refine lv_iconst (v := 0) X.hx X.hb dX5_sameWord_28 (by decide) ?_
        exact rt_z X hr hlk hW hS (Or.inl rfl) (Option.some.inj hf) (Nat.le_refl _) (Nat.le_refl _) dX5_sameWord_29
noncomputable def f_X5_sameWord (st : St) (a1 : Int32) (a2 : Int32) (a3 : Int32) : Option Int32 := f_X5_sameWord_L3 st FU a1 a2 a3 0
set_option maxRecDepth 100000 in
theorem w_X5_sameWord (l : Launch) (V : Ev) (A : Nat → Prop) (ad : Nat → Nat) {st : St} {a1 : Int32} {a2 : Int32} {a3 : Int32} {res : Int32} (hf : f_X5_sameWord st a1 a2 a3 = some res) : Cn l yX5_sameWord cX5_sameWord 5 (some .boolean) 1 21 0 0 V A (WdC V ad A) st [.ref (ad 1), .int a1, .int a2, .int a3] (Qwi A (WdC V ad A) res st) := by
  refine cn_of RX5 (by decide) rfl (fun p e s m below meth c ls X hr hlk hW hS hl => ?_) (Nat.le_of_ble_eq_true rfl)
  have hl : lv_has ls 5 [(0, .ref (ad 1)), (1, .int a1), (2, .int a2), (3, .int a3)] := hl
  unfold f_X5_sameWord at hf
  refine lv_iconst (v := 0) X.hx X.hb dX5_sameWord_0 (by decide) ?_
  refine lv_istore (lv' := [(4, .int 0), (0, .ref (ad 1)), (1, .int a1), (2, .int a2), (3, .int a3)]) X.hx X.hb dX5_sameWord_1 hl (by decide) rfl (fun ls hl => ?_)
  exact f_X5_sameWord_L3_w X hr hlk FU _ _ _ _ _ _ _  hf hW hS (lv_sub hl [1, 2, 3, 4, 0] rfl)
-- WordSquares$Text.repeats
noncomputable def f_X5_repeats_L2 (st : St) : Nat → Int32 → Int32 → Int32 → Option Int32
  | 0, _, _, _ => none
  | fu + 1, x1, x2, x3 => if x1 ≤ x3 then some 0 else (f_X5_sameWord st x3 x1 x2).bind fun b11 => if b11 = 0 then lt (x3 + (x2 + 1)) fun w24 => (f_X5_repeats_L2 st fu) x1 x2 w24 else some 1
set_option maxRecDepth 100000 in
theorem f_X5_repeats_L2_w {st : St} {res : Int32} (X : Cx V A cX5_repeats 4 RX5 p m c s args) (hr : meth.sig.returnType = (some .boolean)) (hlk : meth.locks = false)  : ∀ (n9 : Nat) (x1 : Int32) (x2 : Int32) (x3 : Int32) (H : Heap) (locs : List Loc) (ls : Array Slot), f_X5_repeats_L2 st n9 x1 x2 x3 = some res → (WdC V ad A) st H → va_S A s.heap H locs → lv_has ls 4 [(0, .ref (ad 1)), (1, .int x1), (2, .int x2), (3, .int x3)] → W p l e (rmF 2 45 0 0) s m args below meth c H locs 0 0 (MQ below (Qwi A (WdC V ad A) res st) args s 0 0 A) (F0 m 2 ls []) := by
  intro n9
  induction n9 with
  | zero =>
    intro x1 x2 x3 H locs ls hf
    exact absurd hf (by unfold f_X5_repeats_L2; exact fun h => by cases h)
  | succ n9 hr2 =>
    intro x1 x2 x3 H locs ls hf hW hS hl
    
    unfold f_X5_repeats_L2 at hf
    refine lv_iload_n X.hx X.hb dX5_repeats_2 rfl (lv_at hl 3 rfl) ?_
    refine lv_iload_n X.hx X.hb dX5_repeats_3 rfl (lv_at hl 1 rfl) ?_
    refine lv_icmp_ge (tgt := 28) X.hx X.hb dX5_repeats_4 (by decide) (fun c4 => ?_) (fun c4 => ?_)
    · replace hf := ite_t c4 hf
      refine lv_iconst (v := 0) X.hx X.hb dX5_repeats_28 (by decide) ?_
      exact rt_z X hr hlk hW hS (Or.inl rfl) (Option.some.inj hf) (Nat.le_refl _) (Nat.le_refl _) dX5_repeats_29
    · replace hf := ite_f c4 hf
      refine lv_aload_n X.hx X.hb dX5_repeats_7 rfl (lv_at hl 0 rfl) ?_
      refine lv_iload_n X.hx X.hb dX5_repeats_8 rfl (lv_at hl 3 rfl) ?_
      refine lv_iload_n X.hx X.hb dX5_repeats_9 rfl (lv_at hl 1 rfl) ?_
      refine lv_iload_n X.hx X.hb dX5_repeats_10 rfl (lv_at hl 2 rfl) ?_
      obtain ⟨b11, h11, hf⟩ := bnd hf
      refine cl_i (run_V (As := [.int x3, .int x1, .int x2]) (rest := []) X (w_X5_sameWord l V A ad h11) mw_X5_sameWord ln_X5_27 (rcX5 X hW) hW hS rfl hl.1 rfl (Nat.le_of_ble_eq_true rfl) ⟨Nat.le_of_ble_eq_true rfl, Nat.le_of_ble_eq_true rfl⟩ ⟨Nat.le_refl _, Nat.le_refl _⟩ dX5_repeats_11) hS (fun H locs hW hS => ?_)
      refine lv_if_eq (tgt := 19) X.hx X.hb dX5_repeats_14 (by decide) (fun c14 => ?_) (fun c14 => ?_)
      · replace hf := ite_t c14 hf
        refine lv_iload_n X.hx X.hb dX5_repeats_19 rfl (lv_at hl 3 rfl) ?_
        refine lv_iload_n X.hx X.hb dX5_repeats_20 rfl (lv_at hl 2 rfl) ?_
        refine lv_iconst (v := 1) X.hx X.hb dX5_repeats_21 (by decide) ?_
        refine lv_iadd X.hx X.hb dX5_repeats_22 ?_
        refine lv_iadd X.hx X.hb dX5_repeats_23 ?_
        obtain ⟨w24, e24, hf⟩ := lt_e hf
        refine lv_nm e24 ?_
        refine lv_istore_n (lv' := [(3, .int w24), (0, .ref (ad 1)), (1, .int x1), (2, .int x2)]) X.hx X.hb dX5_repeats_24 rfl hl (by decide) rfl (fun ls hl => ?_)
        refine lv_goto (tgt := 2) X.hx X.hb dX5_repeats_25 (by decide) ?_
        exact hr2 _ _ _ _ _ _  hf hW hS (lv_sub hl [1, 2, 3, 0] rfl)
      · replace hf := ite_f c14 hf
        refine lv_iconst (v := 1) X.hx X.hb dX5_repeats_17 (by decide) ?_
        exact rt_z X hr hlk hW hS (Or.inr rfl) (Option.some.inj hf) (Nat.le_refl _) (Nat.le_refl _) dX5_repeats_18
noncomputable def f_X5_repeats (st : St) (a1 : Int32) (a2 : Int32) : Option Int32 := f_X5_repeats_L2 st FU a1 a2 0
set_option maxRecDepth 100000 in
theorem w_X5_repeats (l : Launch) (V : Ev) (A : Nat → Prop) (ad : Nat → Nat) {st : St} {a1 : Int32} {a2 : Int32} {res : Int32} (hf : f_X5_repeats st a1 a2 = some res) : Cn l yX5_repeats cX5_repeats 4 (some .boolean) 2 45 0 0 V A (WdC V ad A) st [.ref (ad 1), .int a1, .int a2] (Qwi A (WdC V ad A) res st) := by
  refine cn_of RX5 (by decide) rfl (fun p e s m below meth c ls X hr hlk hW hS hl => ?_) (Nat.le_of_ble_eq_true rfl)
  have hl : lv_has ls 4 [(0, .ref (ad 1)), (1, .int a1), (2, .int a2)] := hl
  unfold f_X5_repeats at hf
  refine lv_iconst (v := 0) X.hx X.hb dX5_repeats_0 (by decide) ?_
  refine lv_istore_n (lv' := [(3, .int 0), (0, .ref (ad 1)), (1, .int a1), (2, .int a2)]) X.hx X.hb dX5_repeats_1 rfl hl (by decide) rfl (fun ls hl => ?_)
  exact f_X5_repeats_L2_w X hr hlk FU _ _ _ _ _ _  hf hW hS (lv_sub hl [1, 2, 3, 0] rfl)
-- WordSquares$Text.firstFault
noncomputable def f_X5_firstFault_J78 (st : St) (x4 : Int32) : Option Int32 := some x4
set_option maxRecDepth 100000 in
theorem f_X5_firstFault_J78_w {st : St} {res : Int32} (X : Cx V A cX5_firstFault 7 RX5 p m c s args) (hr : meth.sig.returnType = (some .int)) (hlk : meth.locks = false)  (x4 : Int32) (H : Heap) (locs : List Loc) (ls : Array Slot)  (hf : f_X5_firstFault_J78 st x4 = some res) (hW : (WdC V ad A) st H) (hS : va_S A s.heap H locs) (hl : lv_has ls 7 [(4, .int x4)]) : W p l e (rmF 3 68 0 0) s m args below meth c H locs 0 0 (MQ below (Qwi A (WdC V ad A) res st) args s 0 0 A) (F0 m 78 ls []) := by
  
  unfold f_X5_firstFault_J78 at hf
  refine lv_iload X.hx X.hb dX5_firstFault_78 (lv_at hl 0 rfl) ?_
  exact rt_i X hr hlk hW hS (Option.some.inj hf) (Nat.le_refl _) (Nat.le_refl _) dX5_firstFault_80
noncomputable def f_X5_firstFault_J145 (st : St) (r9 : Int32 → Int32 → Int32 → Int32 → Option Int32) (x1 : Int32) (x2 : Int32) (x3 : Int32) (x4 : Int32) : Option Int32 := lt (x4 + 1) fun w145 => r9 x1 x2 x3 w145
set_option maxRecDepth 100000 in
theorem f_X5_firstFault_J145_w {st : St} {r9 : Int32 → Int32 → Int32 → Int32 → Option Int32} {res : Int32} (X : Cx V A cX5_firstFault 7 RX5 p m c s args) (hr : meth.sig.returnType = (some .int)) (hlk : meth.locks = false) (hr9 : ∀ (x1 : Int32) (x2 : Int32) (x3 : Int32) (x4 : Int32) (H : Heap) (locs : List Loc) (ls : Array Slot), r9 x1 x2 x3 x4 = some res → (WdC V ad A) st H → va_S A s.heap H locs → lv_has ls 7 [(0, .ref (ad 1)), (1, .int x1), (2, .int x2), (3, .int x3), (4, .int x4)] → W p l e (rmF 3 68 0 0) s m args below meth c H locs 0 0 (MQ below (Qwi A (WdC V ad A) res st) args s 0 0 A) (F0 m 9 ls [])) (x1 : Int32) (x2 : Int32) (x3 : Int32) (x4 : Int32) (H : Heap) (locs : List Loc) (ls : Array Slot)  (hf : f_X5_firstFault_J145 st r9 x1 x2 x3 x4 = some res) (hW : (WdC V ad A) st H) (hS : va_S A s.heap H locs) (hl : lv_has ls 7 [(0, .ref (ad 1)), (1, .int x1), (2, .int x2), (3, .int x3), (4, .int x4)]) : W p l e (rmF 3 68 0 0) s m args below meth c H locs 0 0 (MQ below (Qwi A (WdC V ad A) res st) args s 0 0 A) (F0 m 145 ls []) := by
  
  unfold f_X5_firstFault_J145 at hf
  obtain ⟨w145, e145, hf⟩ := lt_e hf
  refine lv_iinc (v := w145) (lv' := [(4, .int w145), (0, .ref (ad 1)), (1, .int x1), (2, .int x2), (3, .int x3)]) X.hx X.hb dX5_firstFault_145 hl (k := 4) rfl (by rw [e145]; rfl) (by decide) rfl (fun ls hl => ?_)
  refine lv_goto (tgt := 9) X.hx X.hb dX5_firstFault_148 (by decide) ?_
  exact hr9 _ _ _ _ _ _ _  hf hW hS (lv_sub hl [1, 2, 3, 4, 0] rfl)
noncomputable def f_X5_firstFault_J65 (st : St) (r9 : Int32 → Int32 → Int32 → Int32 → Option Int32) (x3 : Int32) (x4 : Int32) (x5 : Int32) (t0 : Int32) : Option Int32 := if t0 = 0 then f_X5_firstFault_J78 st x4 else if x3 = 12 then f_X5_firstFault_J78 st x4 else lt (x4 + 1) fun w88 => lt (x3 + 1) fun w89 => f_X5_firstFault_J145 st r9 x5 w88 w89 x4
set_option maxRecDepth 100000 in
theorem f_X5_firstFault_J65_w {st : St} {r9 : Int32 → Int32 → Int32 → Int32 → Option Int32} {res : Int32} (X : Cx V A cX5_firstFault 7 RX5 p m c s args) (hr : meth.sig.returnType = (some .int)) (hlk : meth.locks = false) (hr9 : ∀ (x1 : Int32) (x2 : Int32) (x3 : Int32) (x4 : Int32) (H : Heap) (locs : List Loc) (ls : Array Slot), r9 x1 x2 x3 x4 = some res → (WdC V ad A) st H → va_S A s.heap H locs → lv_has ls 7 [(0, .ref (ad 1)), (1, .int x1), (2, .int x2), (3, .int x3), (4, .int x4)] → W p l e (rmF 3 68 0 0) s m args below meth c H locs 0 0 (MQ below (Qwi A (WdC V ad A) res st) args s 0 0 A) (F0 m 9 ls [])) (x3 : Int32) (x4 : Int32) (x5 : Int32) (t0 : Int32) (H : Heap) (locs : List Loc) (ls : Array Slot)  (hf : f_X5_firstFault_J65 st r9 x3 x4 x5 t0 = some res) (hW : (WdC V ad A) st H) (hS : va_S A s.heap H locs) (hl : lv_has ls 7 [(0, .ref (ad 1)), (3, .int x3), (4, .int x4), (5, .int x5)]) : W p l e (rmF 3 68 0 0) s m args below meth c H locs 0 0 (MQ below (Qwi A (WdC V ad A) res st) args s 0 0 A) (F0 m 65 ls [.int t0]) := by
  
  unfold f_X5_firstFault_J65 at hf
  refine lv_istore (lv' := [(6, .int t0), (0, .ref (ad 1)), (3, .int x3), (4, .int x4), (5, .int x5)]) X.hx X.hb dX5_firstFault_65 hl (by decide) rfl (fun ls hl => ?_)
  refine lv_iload X.hx X.hb dX5_firstFault_67 (lv_at hl 0 rfl) ?_
  refine lv_if_eq (tgt := 78) X.hx X.hb dX5_firstFault_69 (by decide) (fun c69 => ?_) (fun c69 => ?_)
  · replace hf := ite_t c69 hf
    exact f_X5_firstFault_J78_w X hr hlk _ _ _ _  hf hW hS (lv_sub hl [3] rfl)
  · replace hf := ite_f c69 hf
    refine lv_iload_n X.hx X.hb dX5_firstFault_72 rfl (lv_at hl 2 rfl) ?_
    refine lv_bipush (v := 12) X.hx X.hb dX5_firstFault_73 (by decide) ?_
    refine lv_icmp_ne (tgt := 81) X.hx X.hb dX5_firstFault_75 (by decide) (fun c75 => ?_) (fun c75 => ?_)
    · replace hf := ite_f c75 hf
      refine lv_iload X.hx X.hb dX5_firstFault_81 (lv_at hl 4 rfl) ?_
      refine lv_istore_n (lv' := [(1, .int x5), (6, .int t0), (0, .ref (ad 1)), (3, .int x3), (4, .int x4), (5, .int x5)]) X.hx X.hb dX5_firstFault_83 rfl hl (by decide) rfl (fun ls hl => ?_)
      refine lv_iload X.hx X.hb dX5_firstFault_84 (lv_at hl 4 rfl) ?_
      refine lv_iconst (v := 1) X.hx X.hb dX5_firstFault_86 (by decide) ?_
      refine lv_iadd X.hx X.hb dX5_firstFault_87 ?_
      obtain ⟨w88, e88, hf⟩ := lt_e hf
      refine lv_nm e88 ?_
      refine lv_istore_n (lv' := [(2, .int w88), (1, .int x5), (6, .int t0), (0, .ref (ad 1)), (3, .int x3), (4, .int x4), (5, .int x5)]) X.hx X.hb dX5_firstFault_88 rfl hl (by decide) rfl (fun ls hl => ?_)
      obtain ⟨w89, e89, hf⟩ := lt_e hf
      refine lv_iinc (v := w89) (lv' := [(3, .int w89), (2, .int w88), (1, .int x5), (6, .int t0), (0, .ref (ad 1)), (4, .int x4), (5, .int x5)]) X.hx X.hb dX5_firstFault_89 hl (k := 4) rfl (by rw [e89]; rfl) (by decide) rfl (fun ls hl => ?_)
      refine lv_goto (tgt := 145) X.hx X.hb dX5_firstFault_92 (by decide) ?_
      exact f_X5_firstFault_J145_w X hr hlk hr9 _ _ _ _ _ _ _  hf hW hS (lv_sub hl [4, 2, 1, 0, 5] rfl)
    · replace hf := ite_t c75 hf
      exact f_X5_firstFault_J78_w X hr hlk _ _ _ _  hf hW hS (lv_sub hl [3] rfl)
noncomputable def f_X5_firstFault_J122 (st : St) (x4 : Int32) : Option Int32 := some x4
set_option maxRecDepth 100000 in
theorem f_X5_firstFault_J122_w {st : St} {res : Int32} (X : Cx V A cX5_firstFault 7 RX5 p m c s args) (hr : meth.sig.returnType = (some .int)) (hlk : meth.locks = false)  (x4 : Int32) (H : Heap) (locs : List Loc) (ls : Array Slot)  (hf : f_X5_firstFault_J122 st x4 = some res) (hW : (WdC V ad A) st H) (hS : va_S A s.heap H locs) (hl : lv_has ls 7 [(4, .int x4)]) : W p l e (rmF 3 68 0 0) s m args below meth c H locs 0 0 (MQ below (Qwi A (WdC V ad A) res st) args s 0 0 A) (F0 m 122 ls []) := by
  
  unfold f_X5_firstFault_J122 at hf
  refine lv_iload X.hx X.hb dX5_firstFault_122 (lv_at hl 0 rfl) ?_
  exact rt_i X hr hlk hW hS (Option.some.inj hf) (Nat.le_refl _) (Nat.le_refl _) dX5_firstFault_124
noncomputable def f_X5_firstFault_J119 (st : St) (r9 : Int32 → Int32 → Int32 → Int32 → Option Int32) (x1 : Int32) (x2 : Int32) (x3 : Int32) (x4 : Int32) (x5 : Int32) (t0 : Int32) (t1 : Int32) : Option Int32 := if t1 < t0 then if x5 = (x1 - 1) then (f_X5_repeats st x2 x1).bind fun b136 => if b136 = 0 then f_X5_firstFault_J145 st r9 x1 x2 x3 x4 else some x4 else f_X5_firstFault_J145 st r9 x1 x2 x3 x4 else f_X5_firstFault_J122 st x4
set_option maxRecDepth 100000 in
theorem f_X5_firstFault_J119_w {st : St} {r9 : Int32 → Int32 → Int32 → Int32 → Option Int32} {res : Int32} (X : Cx V A cX5_firstFault 7 RX5 p m c s args) (hr : meth.sig.returnType = (some .int)) (hlk : meth.locks = false) (hr9 : ∀ (x1 : Int32) (x2 : Int32) (x3 : Int32) (x4 : Int32) (H : Heap) (locs : List Loc) (ls : Array Slot), r9 x1 x2 x3 x4 = some res → (WdC V ad A) st H → va_S A s.heap H locs → lv_has ls 7 [(0, .ref (ad 1)), (1, .int x1), (2, .int x2), (3, .int x3), (4, .int x4)] → W p l e (rmF 3 68 0 0) s m args below meth c H locs 0 0 (MQ below (Qwi A (WdC V ad A) res st) args s 0 0 A) (F0 m 9 ls [])) (x1 : Int32) (x2 : Int32) (x3 : Int32) (x4 : Int32) (x5 : Int32) (t0 : Int32) (t1 : Int32) (H : Heap) (locs : List Loc) (ls : Array Slot)  (hf : f_X5_firstFault_J119 st r9 x1 x2 x3 x4 x5 t0 t1 = some res) (hW : (WdC V ad A) st H) (hS : va_S A s.heap H locs) (hl : lv_has ls 7 [(0, .ref (ad 1)), (1, .int x1), (2, .int x2), (3, .int x3), (4, .int x4), (5, .int x5)]) : W p l e (rmF 3 68 0 0) s m args below meth c H locs 0 0 (MQ below (Qwi A (WdC V ad A) res st) args s 0 0 A) (F0 m 119 ls [.int t0, .int t1]) := by
  
  unfold f_X5_firstFault_J119 at hf
  refine lv_icmp_lt (tgt := 125) X.hx X.hb dX5_firstFault_119 (by decide) (fun c119 => ?_) (fun c119 => ?_)
  · replace hf := ite_t c119 hf
    refine lv_iload X.hx X.hb dX5_firstFault_125 (lv_at hl 5 rfl) ?_
    refine lv_iload_n X.hx X.hb dX5_firstFault_127 rfl (lv_at hl 1 rfl) ?_
    refine lv_iconst (v := 1) X.hx X.hb dX5_firstFault_128 (by decide) ?_
    refine lv_isub X.hx X.hb dX5_firstFault_129 ?_
    refine lv_icmp_ne (tgt := 145) X.hx X.hb dX5_firstFault_130 (by decide) (fun c130 => ?_) (fun c130 => ?_)
    · replace hf := ite_f c130 hf
      exact f_X5_firstFault_J145_w X hr hlk hr9 _ _ _ _ _ _ _  hf hW hS (lv_sub hl [0, 1, 2, 3, 4] rfl)
    · replace hf := ite_t c130 hf
      refine lv_aload_n X.hx X.hb dX5_firstFault_133 rfl (lv_at hl 0 rfl) ?_
      refine lv_iload_n X.hx X.hb dX5_firstFault_134 rfl (lv_at hl 2 rfl) ?_
      refine lv_iload_n X.hx X.hb dX5_firstFault_135 rfl (lv_at hl 1 rfl) ?_
      obtain ⟨b136, h136, hf⟩ := bnd hf
      refine cl_i (run_V (As := [.int x2, .int x1]) (rest := []) X (w_X5_repeats l V A ad h136) mw_X5_repeats ln_X5_23 (rcX5 X hW) hW hS rfl hl.1 rfl (Nat.le_of_ble_eq_true rfl) ⟨Nat.le_of_ble_eq_true rfl, Nat.le_of_ble_eq_true rfl⟩ ⟨Nat.le_refl _, Nat.le_refl _⟩ dX5_firstFault_136) hS (fun H locs hW hS => ?_)
      refine lv_if_eq (tgt := 145) X.hx X.hb dX5_firstFault_139 (by decide) (fun c139 => ?_) (fun c139 => ?_)
      · replace hf := ite_t c139 hf
        exact f_X5_firstFault_J145_w X hr hlk hr9 _ _ _ _ _ _ _  hf hW hS (lv_sub hl [0, 1, 2, 3, 4] rfl)
      · replace hf := ite_f c139 hf
        refine lv_iload X.hx X.hb dX5_firstFault_142 (lv_at hl 4 rfl) ?_
        exact rt_i X hr hlk hW hS (Option.some.inj hf) (Nat.le_refl _) (Nat.le_refl _) dX5_firstFault_144
  · replace hf := ite_f c119 hf
    exact f_X5_firstFault_J122_w X hr hlk _ _ _ _  hf hW hS (lv_sub hl [4] rfl)
noncomputable def f_X5_firstFault_L9 (st : St) : Nat → Int32 → Int32 → Int32 → Int32 → Option Int32
  | 0, _, _, _, _ => none
  | fu + 1, x1, x2, x3, x4 => if (st.1 4) ≤ x4 then some (st.1 4) else lt (x4 - x2) fun w22 => if inb x4 60 = true then if (st.2.1 11 x4.toNatClampNeg) = 44 then if x1 = 0 then if w22 < 2 then f_X5_firstFault_J65 st ((f_X5_firstFault_L9 st fu)) x3 x4 w22 0 else f_X5_firstFault_J65 st ((f_X5_firstFault_L9 st fu)) x3 x4 w22 1 else if w22 = x1 then f_X5_firstFault_J65 st ((f_X5_firstFault_L9 st fu)) x3 x4 w22 1 else f_X5_firstFault_J65 st ((f_X5_firstFault_L9 st fu)) x3 x4 w22 0 else if inb x4 60 = true then (f_X5_isLetter (st.2.1 11 x4.toNatClampNeg)).bind fun b102 => if b102 = 0 then f_X5_firstFault_J122 st x4 else if x1 = 0 then f_X5_firstFault_J119 st ((f_X5_firstFault_L9 st fu)) x1 x2 x3 x4 w22 4 w22 else f_X5_firstFault_J119 st ((f_X5_firstFault_L9 st fu)) x1 x2 x3 x4 w22 x1 w22 else none else none
set_option maxRecDepth 100000 in
theorem f_X5_firstFault_L9_w {st : St} {res : Int32} (X : Cx V A cX5_firstFault 7 RX5 p m c s args) (hr : meth.sig.returnType = (some .int)) (hlk : meth.locks = false)  : ∀ (n9 : Nat) (x1 : Int32) (x2 : Int32) (x3 : Int32) (x4 : Int32) (H : Heap) (locs : List Loc) (ls : Array Slot), f_X5_firstFault_L9 st n9 x1 x2 x3 x4 = some res → (WdC V ad A) st H → va_S A s.heap H locs → lv_has ls 7 [(0, .ref (ad 1)), (1, .int x1), (2, .int x2), (3, .int x3), (4, .int x4)] → W p l e (rmF 3 68 0 0) s m args below meth c H locs 0 0 (MQ below (Qwi A (WdC V ad A) res st) args s 0 0 A) (F0 m 9 ls []) := by
  intro n9
  induction n9 with
  | zero =>
    intro x1 x2 x3 x4 H locs ls hf
    exact absurd hf (by unfold f_X5_firstFault_L9; exact fun h => by cases h)
  | succ n9 hr9 =>
    intro x1 x2 x3 x4 H locs ls hf hW hS hl
    
    unfold f_X5_firstFault_L9 at hf
    refine lv_iload X.hx X.hb dX5_firstFault_9 (lv_at hl 4 rfl) ?_
    refine lv_aload_n X.hx X.hb dX5_firstFault_11 rfl (lv_at hl 0 rfl) ?_
    refine gX5_size X hW dX5_firstFault_12 ?_
    refine lv_icmp_ge (tgt := 151) X.hx X.hb dX5_firstFault_15 (by decide) (fun c15 => ?_) (fun c15 => ?_)
    · replace hf := ite_t c15 hf
      refine lv_aload_n X.hx X.hb dX5_firstFault_151 rfl (lv_at hl 0 rfl) ?_
      refine gX5_size X hW dX5_firstFault_152 ?_
      exact rt_i X hr hlk hW hS (Option.some.inj hf) (Nat.le_refl _) (Nat.le_refl _) dX5_firstFault_155
    · replace hf := ite_f c15 hf
      refine lv_iload X.hx X.hb dX5_firstFault_18 (lv_at hl 4 rfl) ?_
      refine lv_iload_n X.hx X.hb dX5_firstFault_20 rfl (lv_at hl 2 rfl) ?_
      refine lv_isub X.hx X.hb dX5_firstFault_21 ?_
      obtain ⟨w22, e22, hf⟩ := lt_e hf
      refine lv_nm e22 ?_
      refine lv_istore (lv' := [(5, .int w22), (0, .ref (ad 1)), (1, .int x1), (2, .int x2), (3, .int x3), (4, .int x4)]) X.hx X.hb dX5_firstFault_22 hl (by decide) rfl (fun ls hl => ?_)
      refine lv_aload_n X.hx X.hb dX5_firstFault_24 rfl (lv_at hl 1 rfl) ?_
      refine gX5_signs X hW dX5_firstFault_25 ?_
      refine lv_iload X.hx X.hb dX5_firstFault_28 (lv_at hl 5 rfl) ?_
      obtain ⟨h30, hf⟩ := ite_n hf
      refine aC_ld X hW isA_11 rfl h30 dX5_firstFault_30 ?_
      refine lv_bipush (v := 44) X.hx X.hb dX5_firstFault_31 (by decide) ?_
      refine lv_icmp_ne (tgt := 95) X.hx X.hb dX5_firstFault_33 (by decide) (fun c33 => ?_) (fun c33 => ?_)
      · replace hf := ite_f c33 hf
        refine lv_aload_n X.hx X.hb dX5_firstFault_95 rfl (lv_at hl 1 rfl) ?_
        refine gX5_signs X hW dX5_firstFault_96 ?_
        refine lv_iload X.hx X.hb dX5_firstFault_99 (lv_at hl 5 rfl) ?_
        obtain ⟨h101, hf⟩ := ite_n hf
        refine aC_ld X hW isA_11 rfl h101 dX5_firstFault_101 ?_
        obtain ⟨b102, h102, hf⟩ := bnd hf
        refine cl_i (run_S (As := [.int (st.2.1 11 x4.toNatClampNeg)]) (rest := []) X (w_X5_isLetter l V A (WdC V ad A) st h102) mw_X5_isLetter ln_X5_19 hW hS rfl hl.1 rfl (Nat.le_of_ble_eq_true rfl) ⟨Nat.le_of_ble_eq_true rfl, Nat.le_of_ble_eq_true rfl⟩ ⟨Nat.le_refl _, Nat.le_refl _⟩ dX5_firstFault_102) hS (fun H locs hW hS => ?_)
        refine lv_if_eq (tgt := 122) X.hx X.hb dX5_firstFault_105 (by decide) (fun c105 => ?_) (fun c105 => ?_)
        · replace hf := ite_t c105 hf
          exact f_X5_firstFault_J122_w X hr hlk _ _ _ _  hf hW hS (lv_sub hl [5] rfl)
        · replace hf := ite_f c105 hf
          refine lv_iload X.hx X.hb dX5_firstFault_108 (lv_at hl 0 rfl) ?_
          refine lv_iload_n X.hx X.hb dX5_firstFault_110 rfl (lv_at hl 2 rfl) ?_
          refine lv_if_ne (tgt := 118) X.hx X.hb dX5_firstFault_111 (by decide) (fun c111 => ?_) (fun c111 => ?_)
          · replace hf := ite_f c111 hf
            refine lv_iload_n X.hx X.hb dX5_firstFault_118 rfl (lv_at hl 2 rfl) ?_
            exact f_X5_firstFault_J119_w X hr hlk hr9 _ _ _ _ _ _ _ _ _ _  hf hW hS (lv_sub hl [1, 2, 3, 4, 5, 0] rfl)
          · replace hf := ite_t c111 hf
            refine lv_iconst (v := 4) X.hx X.hb dX5_firstFault_114 (by decide) ?_
            refine lv_goto (tgt := 119) X.hx X.hb dX5_firstFault_115 (by decide) ?_
            exact f_X5_firstFault_J119_w X hr hlk hr9 _ _ _ _ _ _ _ _ _ _  hf hW hS (lv_sub hl [1, 2, 3, 4, 5, 0] rfl)
      · replace hf := ite_t c33 hf
        refine lv_iload_n X.hx X.hb dX5_firstFault_36 rfl (lv_at hl 2 rfl) ?_
        refine lv_if_ne (tgt := 54) X.hx X.hb dX5_firstFault_37 (by decide) (fun c37 => ?_) (fun c37 => ?_)
        · replace hf := ite_f c37 hf
          refine lv_iload X.hx X.hb dX5_firstFault_54 (lv_at hl 0 rfl) ?_
          refine lv_iload_n X.hx X.hb dX5_firstFault_56 rfl (lv_at hl 2 rfl) ?_
          refine lv_icmp_ne (tgt := 64) X.hx X.hb dX5_firstFault_57 (by decide) (fun c57 => ?_) (fun c57 => ?_)
          · replace hf := ite_f c57 hf
            refine lv_iconst (v := 0) X.hx X.hb dX5_firstFault_64 (by decide) ?_
            exact f_X5_firstFault_J65_w X hr hlk hr9 _ _ _ _ _ _ _  hf hW hS (lv_sub hl [1, 4, 5, 0] rfl)
          · replace hf := ite_t c57 hf
            refine lv_iconst (v := 1) X.hx X.hb dX5_firstFault_60 (by decide) ?_
            refine lv_goto (tgt := 65) X.hx X.hb dX5_firstFault_61 (by decide) ?_
            exact f_X5_firstFault_J65_w X hr hlk hr9 _ _ _ _ _ _ _  hf hW hS (lv_sub hl [1, 4, 5, 0] rfl)
        · replace hf := ite_t c37 hf
          refine lv_iload X.hx X.hb dX5_firstFault_40 (lv_at hl 0 rfl) ?_
          refine lv_iconst (v := 2) X.hx X.hb dX5_firstFault_42 (by decide) ?_
          refine lv_icmp_lt (tgt := 50) X.hx X.hb dX5_firstFault_43 (by decide) (fun c43 => ?_) (fun c43 => ?_)
          · replace hf := ite_t c43 hf
            refine lv_iconst (v := 0) X.hx X.hb dX5_firstFault_50 (by decide) ?_
            refine lv_goto (tgt := 65) X.hx X.hb dX5_firstFault_51 (by decide) ?_
            exact f_X5_firstFault_J65_w X hr hlk hr9 _ _ _ _ _ _ _  hf hW hS (lv_sub hl [1, 4, 5, 0] rfl)
          · replace hf := ite_f c43 hf
            refine lv_iconst (v := 1) X.hx X.hb dX5_firstFault_46 (by decide) ?_
            refine lv_goto (tgt := 65) X.hx X.hb dX5_firstFault_47 (by decide) ?_
            exact f_X5_firstFault_J65_w X hr hlk hr9 _ _ _ _ _ _ _  hf hW hS (lv_sub hl [1, 4, 5, 0] rfl)
noncomputable def f_X5_firstFault (st : St) : Option Int32 := f_X5_firstFault_L9 st FU 0 0 1 0
set_option maxRecDepth 100000 in
theorem w_X5_firstFault (l : Launch) (V : Ev) (A : Nat → Prop) (ad : Nat → Nat) {st : St} {res : Int32} (hf : f_X5_firstFault st = some res) : Cn l yX5_firstFault cX5_firstFault 7 (some .int) 3 68 0 0 V A (WdC V ad A) st [.ref (ad 1)] (Qwi A (WdC V ad A) res st) := by
  refine cn_of RX5 (by decide) rfl (fun p e s m below meth c ls X hr hlk hW hS hl => ?_) (Nat.le_of_ble_eq_true rfl)
  have hl : lv_has ls 7 [(0, .ref (ad 1))] := hl
  unfold f_X5_firstFault at hf
  refine lv_iconst (v := 0) X.hx X.hb dX5_firstFault_0 (by decide) ?_
  refine lv_istore_n (lv' := [(1, .int 0), (0, .ref (ad 1))]) X.hx X.hb dX5_firstFault_1 rfl hl (by decide) rfl (fun ls hl => ?_)
  refine lv_iconst (v := 0) X.hx X.hb dX5_firstFault_2 (by decide) ?_
  refine lv_istore_n (lv' := [(2, .int 0), (1, .int 0), (0, .ref (ad 1))]) X.hx X.hb dX5_firstFault_3 rfl hl (by decide) rfl (fun ls hl => ?_)
  refine lv_iconst (v := 1) X.hx X.hb dX5_firstFault_4 (by decide) ?_
  refine lv_istore_n (lv' := [(3, .int 1), (2, .int 0), (1, .int 0), (0, .ref (ad 1))]) X.hx X.hb dX5_firstFault_5 rfl hl (by decide) rfl (fun ls hl => ?_)
  refine lv_iconst (v := 0) X.hx X.hb dX5_firstFault_6 (by decide) ?_
  refine lv_istore (lv' := [(4, .int 0), (3, .int 1), (2, .int 0), (1, .int 0), (0, .ref (ad 1))]) X.hx X.hb dX5_firstFault_7 hl (by decide) rfl (fun ls hl => ?_)
  exact f_X5_firstFault_L9_w X hr hlk FU _ _ _ _ _ _ _  hf hW hS (lv_sub hl [4, 3, 2, 1, 0] rfl)
-- WordSquares$Text.firstComma
noncomputable def f_X5_firstComma_L2 (st : St) : Nat → Int32 → Option Int32
  | 0, _ => none
  | fu + 1, x1 => if (st.1 4) ≤ x1 then some (st.1 4) else if inb x1 60 = true then if (st.2.1 11 x1.toNatClampNeg) = 44 then some x1 else lt (x1 + 1) fun w23 => (f_X5_firstComma_L2 st fu) w23 else none
set_option maxRecDepth 100000 in
theorem f_X5_firstComma_L2_w {st : St} {res : Int32} (X : Cx V A cX5_firstComma 2 RX5 p m c s args) (hr : meth.sig.returnType = (some .int)) (hlk : meth.locks = false)  : ∀ (n9 : Nat) (x1 : Int32) (H : Heap) (locs : List Loc) (ls : Array Slot), f_X5_firstComma_L2 st n9 x1 = some res → (WdC V ad A) st H → va_S A s.heap H locs → lv_has ls 2 [(0, .ref (ad 1)), (1, .int x1)] → W p l e (rmF 0 0 0 0) s m args below meth c H locs 0 0 (MQ below (Qwi A (WdC V ad A) res st) args s 0 0 A) (F0 m 2 ls []) := by
  intro n9
  induction n9 with
  | zero =>
    intro x1 H locs ls hf
    exact absurd hf (by unfold f_X5_firstComma_L2; exact fun h => by cases h)
  | succ n9 hr2 =>
    intro x1 H locs ls hf hW hS hl
    
    unfold f_X5_firstComma_L2 at hf
    refine lv_iload_n X.hx X.hb dX5_firstComma_2 rfl (lv_at hl 1 rfl) ?_
    refine lv_aload_n X.hx X.hb dX5_firstComma_3 rfl (lv_at hl 0 rfl) ?_
    refine gX5_size X hW dX5_firstComma_4 ?_
    refine lv_icmp_ge (tgt := 29) X.hx X.hb dX5_firstComma_7 (by decide) (fun c7 => ?_) (fun c7 => ?_)
    · replace hf := ite_t c7 hf
      refine lv_aload_n X.hx X.hb dX5_firstComma_29 rfl (lv_at hl 0 rfl) ?_
      refine gX5_size X hW dX5_firstComma_30 ?_
      exact rt_i X hr hlk hW hS (Option.some.inj hf) (Nat.le_refl _) (Nat.le_refl _) dX5_firstComma_33
    · replace hf := ite_f c7 hf
      refine lv_aload_n X.hx X.hb dX5_firstComma_10 rfl (lv_at hl 0 rfl) ?_
      refine gX5_signs X hW dX5_firstComma_11 ?_
      refine lv_iload_n X.hx X.hb dX5_firstComma_14 rfl (lv_at hl 1 rfl) ?_
      obtain ⟨h15, hf⟩ := ite_n hf
      refine aC_ld X hW isA_11 rfl h15 dX5_firstComma_15 ?_
      refine lv_bipush (v := 44) X.hx X.hb dX5_firstComma_16 (by decide) ?_
      refine lv_icmp_ne (tgt := 23) X.hx X.hb dX5_firstComma_18 (by decide) (fun c18 => ?_) (fun c18 => ?_)
      · replace hf := ite_f c18 hf
        obtain ⟨w23, e23, hf⟩ := lt_e hf
        refine lv_iinc (v := w23) (lv' := [(1, .int w23), (0, .ref (ad 1))]) X.hx X.hb dX5_firstComma_23 hl (k := 1) rfl (by rw [e23]; rfl) (by decide) rfl (fun ls hl => ?_)
        refine lv_goto (tgt := 2) X.hx X.hb dX5_firstComma_26 (by decide) ?_
        exact hr2 _ _ _ _  hf hW hS (lv_sub hl [1, 0] rfl)
      · replace hf := ite_t c18 hf
        refine lv_iload_n X.hx X.hb dX5_firstComma_21 rfl (lv_at hl 1 rfl) ?_
        exact rt_i X hr hlk hW hS (Option.some.inj hf) (Nat.le_refl _) (Nat.le_refl _) dX5_firstComma_22
noncomputable def f_X5_firstComma (st : St) : Option Int32 := f_X5_firstComma_L2 st FU 0
set_option maxRecDepth 100000 in
theorem w_X5_firstComma (l : Launch) (V : Ev) (A : Nat → Prop) (ad : Nat → Nat) {st : St} {res : Int32} (hf : f_X5_firstComma st = some res) : Cn l yX5_firstComma cX5_firstComma 2 (some .int) 0 0 0 0 V A (WdC V ad A) st [.ref (ad 1)] (Qwi A (WdC V ad A) res st) := by
  refine cn_of RX5 (by decide) rfl (fun p e s m below meth c ls X hr hlk hW hS hl => ?_) (Nat.le_of_ble_eq_true rfl)
  have hl : lv_has ls 2 [(0, .ref (ad 1))] := hl
  unfold f_X5_firstComma at hf
  refine lv_iconst (v := 0) X.hx X.hb dX5_firstComma_0 (by decide) ?_
  refine lv_istore_n (lv' := [(1, .int 0), (0, .ref (ad 1))]) X.hx X.hb dX5_firstComma_1 rfl hl (by decide) rfl (fun ls hl => ?_)
  exact f_X5_firstComma_L2_w X hr hlk FU _ _ _ _  hf hW hS (lv_sub hl [1, 0] rfl)
-- WordSquares$Text.lengthOfWords
noncomputable def f_X5_lengthOfWords_J36 (st : St) : Option Int32 := some 0
set_option maxRecDepth 100000 in
theorem f_X5_lengthOfWords_J36_w {st : St} {res : Int32} (X : Cx V A cX5_lengthOfWords 2 RX5 p m c s args) (hr : meth.sig.returnType = (some .int)) (hlk : meth.locks = false)  (H : Heap) (locs : List Loc) (ls : Array Slot)  (hf : f_X5_lengthOfWords_J36 st  = some res) (hW : (WdC V ad A) st H) (hS : va_S A s.heap H locs) (hl : lv_has ls 2 []) : W p l e (rmF 4 94 0 0) s m args below meth c H locs 0 0 (MQ below (Qwi A (WdC V ad A) res st) args s 0 0 A) (F0 m 36 ls []) := by
  
  unfold f_X5_lengthOfWords_J36 at hf
  refine lv_iconst (v := 0) X.hx X.hb dX5_lengthOfWords_36 (by decide) ?_
  exact rt_i X hr hlk hW hS (Option.some.inj hf) (Nat.le_refl _) (Nat.le_refl _) dX5_lengthOfWords_37
noncomputable def f_X5_lengthOfWords (st : St) : Option Int32 := (f_X5_firstFault st).bind fun b1 => if (st.1 4) ≤ b1 then (f_X5_firstComma st).bind fun b14 => if b14 < 2 then f_X5_lengthOfWords_J36 st else if ¬ (b14 + 1) = 0 then if (((st.1 4) + 1) - ((st.1 4) + 1) / (b14 + 1) * (b14 + 1)) = 0 then some b14 else f_X5_lengthOfWords_J36 st else none else some 0
set_option maxRecDepth 100000 in
theorem w_X5_lengthOfWords (l : Launch) (V : Ev) (A : Nat → Prop) (ad : Nat → Nat) {st : St} {res : Int32} (hf : f_X5_lengthOfWords st = some res) : Cn l yX5_lengthOfWords cX5_lengthOfWords 2 (some .int) 4 94 0 0 V A (WdC V ad A) st [.ref (ad 1)] (Qwi A (WdC V ad A) res st) := by
  refine cn_of RX5 (by decide) rfl (fun p e s m below meth c ls X hr hlk hW hS hl => ?_) (Nat.le_of_ble_eq_true rfl)
  have hl : lv_has ls 2 [(0, .ref (ad 1))] := hl
  unfold f_X5_lengthOfWords at hf
  refine lv_aload_n X.hx X.hb dX5_lengthOfWords_0 rfl (lv_at hl 0 rfl) ?_
  obtain ⟨b1, h1, hf⟩ := bnd hf
  refine cl_i (run_V (As := []) (rest := []) X (w_X5_firstFault l V A ad h1) mw_X5_firstFault ln_X5_35 (rcX5 X hW) hW hS rfl hl.1 rfl (Nat.le_of_ble_eq_true rfl) ⟨Nat.le_of_ble_eq_true rfl, Nat.le_of_ble_eq_true rfl⟩ ⟨Nat.le_refl _, Nat.le_refl _⟩ dX5_lengthOfWords_1) hS (fun H locs hW hS => ?_)
  refine lv_aload_n X.hx X.hb dX5_lengthOfWords_4 rfl (lv_at hl 0 rfl) ?_
  refine gX5_size X hW dX5_lengthOfWords_5 ?_
  refine lv_icmp_ge (tgt := 13) X.hx X.hb dX5_lengthOfWords_8 (by decide) (fun c8 => ?_) (fun c8 => ?_)
  · replace hf := ite_t c8 hf
    refine lv_aload_n X.hx X.hb dX5_lengthOfWords_13 rfl (lv_at hl 0 rfl) ?_
    obtain ⟨b14, h14, hf⟩ := bnd hf
    refine cl_i (run_V (As := []) (rest := []) X (w_X5_firstComma l V A ad h14) mw_X5_firstComma ln_X5_39 (rcX5 X hW) hW hS rfl hl.1 rfl (Nat.le_of_ble_eq_true rfl) ⟨Nat.le_of_ble_eq_true rfl, Nat.le_of_ble_eq_true rfl⟩ ⟨Nat.le_refl _, Nat.le_refl _⟩ dX5_lengthOfWords_14) hS (fun H locs hW hS => ?_)
    refine lv_istore_n (lv' := [(1, .int b14), (0, .ref (ad 1))]) X.hx X.hb dX5_lengthOfWords_17 rfl hl (by decide) rfl (fun ls hl => ?_)
    refine lv_iload_n X.hx X.hb dX5_lengthOfWords_18 rfl (lv_at hl 0 rfl) ?_
    refine lv_iconst (v := 2) X.hx X.hb dX5_lengthOfWords_19 (by decide) ?_
    refine lv_icmp_lt (tgt := 36) X.hx X.hb dX5_lengthOfWords_20 (by decide) (fun c20 => ?_) (fun c20 => ?_)
    · replace hf := ite_t c20 hf
      exact f_X5_lengthOfWords_J36_w X hr hlk  _ _ _  hf hW hS (lv_sub hl [] rfl)
    · replace hf := ite_f c20 hf
      refine lv_aload_n X.hx X.hb dX5_lengthOfWords_23 rfl (lv_at hl 1 rfl) ?_
      refine gX5_size X hW dX5_lengthOfWords_24 ?_
      refine lv_iconst (v := 1) X.hx X.hb dX5_lengthOfWords_27 (by decide) ?_
      refine lv_iadd X.hx X.hb dX5_lengthOfWords_28 ?_
      refine lv_iload_n X.hx X.hb dX5_lengthOfWords_29 rfl (lv_at hl 0 rfl) ?_
      refine lv_iconst (v := 1) X.hx X.hb dX5_lengthOfWords_30 (by decide) ?_
      refine lv_iadd X.hx X.hb dX5_lengthOfWords_31 ?_
      obtain ⟨h32, hf⟩ := ite_n hf
      refine lv_irem X.hx X.hb dX5_lengthOfWords_32 h32 ?_
      refine lv_if_eq (tgt := 38) X.hx X.hb dX5_lengthOfWords_33 (by decide) (fun c33 => ?_) (fun c33 => ?_)
      · replace hf := ite_t c33 hf
        refine lv_iload_n X.hx X.hb dX5_lengthOfWords_38 rfl (lv_at hl 0 rfl) ?_
        exact rt_i X hr hlk hW hS (Option.some.inj hf) (Nat.le_refl _) (Nat.le_refl _) dX5_lengthOfWords_39
      · replace hf := ite_f c33 hf
        exact f_X5_lengthOfWords_J36_w X hr hlk  _ _ _  hf hW hS (lv_sub hl [] rfl)
  · replace hf := ite_f c8 hf
    refine lv_iconst (v := 0) X.hx X.hb dX5_lengthOfWords_11 (by decide) ?_
    exact rt_i X hr hlk hW hS (Option.some.inj hf) (Nat.le_refl _) (Nat.le_refl _) dX5_lengthOfWords_12
-- WordSquares$Text.numberOfWords
noncomputable def f_X5_numberOfWords (st : St) (a1 : Int32) : Option Int32 := if 2 ≤ a1 then if ¬ (a1 + 1) = 0 then some (((st.1 4) + 1) / (a1 + 1)) else none else some 0
set_option maxRecDepth 100000 in
theorem w_X5_numberOfWords (l : Launch) (V : Ev) (A : Nat → Prop) (ad : Nat → Nat) {st : St} {a1 : Int32} {res : Int32} (hf : f_X5_numberOfWords st a1 = some res) : Cn l yX5_numberOfWords cX5_numberOfWords 2 (some .int) 0 0 0 0 V A (WdC V ad A) st [.ref (ad 1), .int a1] (Qwi A (WdC V ad A) res st) := by
  refine cn_of RX5 (by decide) rfl (fun p e s m below meth c ls X hr hlk hW hS hl => ?_) (Nat.le_of_ble_eq_true rfl)
  have hl : lv_has ls 2 [(0, .ref (ad 1)), (1, .int a1)] := hl
  unfold f_X5_numberOfWords at hf
  refine lv_iload_n X.hx X.hb dX5_numberOfWords_0 rfl (lv_at hl 1 rfl) ?_
  refine lv_iconst (v := 2) X.hx X.hb dX5_numberOfWords_1 (by decide) ?_
  refine lv_icmp_ge (tgt := 9) X.hx X.hb dX5_numberOfWords_2 (by decide) (fun c2 => ?_) (fun c2 => ?_)
  · replace hf := ite_t c2 hf
    refine lv_aload_n X.hx X.hb dX5_numberOfWords_9 rfl (lv_at hl 0 rfl) ?_
    refine gX5_size X hW dX5_numberOfWords_10 ?_
    refine lv_iconst (v := 1) X.hx X.hb dX5_numberOfWords_13 (by decide) ?_
    refine lv_iadd X.hx X.hb dX5_numberOfWords_14 ?_
    refine lv_iload_n X.hx X.hb dX5_numberOfWords_15 rfl (lv_at hl 1 rfl) ?_
    refine lv_iconst (v := 1) X.hx X.hb dX5_numberOfWords_16 (by decide) ?_
    refine lv_iadd X.hx X.hb dX5_numberOfWords_17 ?_
    obtain ⟨h18, hf⟩ := ite_n hf
    refine lv_idiv X.hx X.hb dX5_numberOfWords_18 h18 ?_
    exact rt_i X hr hlk hW hS (Option.some.inj hf) (Nat.le_refl _) (Nat.le_refl _) dX5_numberOfWords_19
  · replace hf := ite_f c2 hf
    refine lv_iconst (v := 0) X.hx X.hb dX5_numberOfWords_5 (by decide) ?_
    refine lv_goto (tgt := 19) X.hx X.hb dX5_numberOfWords_6 (by decide) ?_
    exact rt_i X hr hlk hW hS (Option.some.inj hf) (Nat.le_refl _) (Nat.le_refl _) dX5_numberOfWords_19
-- WordSquares$Text.codeOf
noncomputable def f_X5_codeOf_L12 (st : St) : Nat → Int32 → Int32 → Int32 → Int32 → Option Int32
  | 0, _, _, _, _ => none
  | fu + 1, x2, x3, x4, x5 => if x2 ≤ x5 then some x4 else (f_X5_codeAt st (x3 + x5)).bind fun b27 => lt ((x4 <<< (5 &&& 31)) ||| ((b27 - 97) &&& 31)) fun w37 => lt (x5 + 1) fun w39 => (f_X5_codeOf_L12 st fu) x2 x3 w37 w39
set_option maxRecDepth 100000 in
theorem f_X5_codeOf_L12_w {st : St} {res : Int32} (X : Cx V A cX5_codeOf 6 RX5 p m c s args) (hr : meth.sig.returnType = (some .int)) (hlk : meth.locks = false)  : ∀ (n9 : Nat) (x2 : Int32) (x3 : Int32) (x4 : Int32) (x5 : Int32) (H : Heap) (locs : List Loc) (ls : Array Slot), f_X5_codeOf_L12 st n9 x2 x3 x4 x5 = some res → (WdC V ad A) st H → va_S A s.heap H locs → lv_has ls 6 [(0, .ref (ad 1)), (2, .int x2), (3, .int x3), (4, .int x4), (5, .int x5)] → W p l e (rmF 1 21 0 0) s m args below meth c H locs 0 0 (MQ below (Qwi A (WdC V ad A) res st) args s 0 0 A) (F0 m 12 ls []) := by
  intro n9
  induction n9 with
  | zero =>
    intro x2 x3 x4 x5 H locs ls hf
    exact absurd hf (by unfold f_X5_codeOf_L12; exact fun h => by cases h)
  | succ n9 hr12 =>
    intro x2 x3 x4 x5 H locs ls hf hW hS hl
    
    unfold f_X5_codeOf_L12 at hf
    refine lv_iload X.hx X.hb dX5_codeOf_12 (lv_at hl 4 rfl) ?_
    refine lv_iload_n X.hx X.hb dX5_codeOf_14 rfl (lv_at hl 1 rfl) ?_
    refine lv_icmp_ge (tgt := 45) X.hx X.hb dX5_codeOf_15 (by decide) (fun c15 => ?_) (fun c15 => ?_)
    · replace hf := ite_t c15 hf
      refine lv_iload X.hx X.hb dX5_codeOf_45 (lv_at hl 3 rfl) ?_
      exact rt_i X hr hlk hW hS (Option.some.inj hf) (Nat.le_refl _) (Nat.le_refl _) dX5_codeOf_47
    · replace hf := ite_f c15 hf
      refine lv_iload X.hx X.hb dX5_codeOf_18 (lv_at hl 3 rfl) ?_
      refine lv_iconst (v := 5) X.hx X.hb dX5_codeOf_20 (by decide) ?_
      refine lv_ishl X.hx X.hb dX5_codeOf_21 ?_
      refine lv_aload_n X.hx X.hb dX5_codeOf_22 rfl (lv_at hl 0 rfl) ?_
      refine lv_iload_n X.hx X.hb dX5_codeOf_23 rfl (lv_at hl 2 rfl) ?_
      refine lv_iload X.hx X.hb dX5_codeOf_24 (lv_at hl 4 rfl) ?_
      refine lv_iadd X.hx X.hb dX5_codeOf_26 ?_
      obtain ⟨b27, h27, hf⟩ := bnd hf
      refine cl_i (run_V (As := [.int (x3 + x5)]) (rest := [.int (x4 <<< (5 &&& 31))]) X (w_X5_codeAt l V A ad h27) mw_X5_codeAt ln_X5_31 (rcX5 X hW) hW hS rfl hl.1 rfl (Nat.le_of_ble_eq_true rfl) ⟨Nat.le_of_ble_eq_true rfl, Nat.le_of_ble_eq_true rfl⟩ ⟨Nat.le_refl _, Nat.le_refl _⟩ dX5_codeOf_27) hS (fun H locs hW hS => ?_)
      refine lv_bipush (v := 97) X.hx X.hb dX5_codeOf_30 (by decide) ?_
      refine lv_isub X.hx X.hb dX5_codeOf_32 ?_
      refine lv_bipush (v := 31) X.hx X.hb dX5_codeOf_33 (by decide) ?_
      refine lv_iand X.hx X.hb dX5_codeOf_35 ?_
      refine lv_ior X.hx X.hb dX5_codeOf_36 ?_
      obtain ⟨w37, e37, hf⟩ := lt_e hf
      refine lv_nm e37 ?_
      refine lv_istore (lv' := [(4, .int w37), (0, .ref (ad 1)), (2, .int x2), (3, .int x3), (5, .int x5)]) X.hx X.hb dX5_codeOf_37 hl (by decide) rfl (fun ls hl => ?_)
      obtain ⟨w39, e39, hf⟩ := lt_e hf
      refine lv_iinc (v := w39) (lv' := [(5, .int w39), (4, .int w37), (0, .ref (ad 1)), (2, .int x2), (3, .int x3)]) X.hx X.hb dX5_codeOf_39 hl (k := 4) rfl (by rw [e39]; rfl) (by decide) rfl (fun ls hl => ?_)
      refine lv_goto (tgt := 12) X.hx X.hb dX5_codeOf_42 (by decide) ?_
      exact hr12 _ _ _ _ _ _ _  hf hW hS (lv_sub hl [2, 3, 4, 1, 0] rfl)
noncomputable def f_X5_codeOf (st : St) (a1 : Int32) (a2 : Int32) : Option Int32 := lt (a1 * (a2 + 1)) fun w5 => f_X5_codeOf_L12 st FU a2 w5 0 0
set_option maxRecDepth 100000 in
theorem w_X5_codeOf (l : Launch) (V : Ev) (A : Nat → Prop) (ad : Nat → Nat) {st : St} {a1 : Int32} {a2 : Int32} {res : Int32} (hf : f_X5_codeOf st a1 a2 = some res) : Cn l yX5_codeOf cX5_codeOf 6 (some .int) 1 21 0 0 V A (WdC V ad A) st [.ref (ad 1), .int a1, .int a2] (Qwi A (WdC V ad A) res st) := by
  refine cn_of RX5 (by decide) rfl (fun p e s m below meth c ls X hr hlk hW hS hl => ?_) (Nat.le_of_ble_eq_true rfl)
  have hl : lv_has ls 6 [(0, .ref (ad 1)), (1, .int a1), (2, .int a2)] := hl
  unfold f_X5_codeOf at hf
  refine lv_iload_n X.hx X.hb dX5_codeOf_0 rfl (lv_at hl 1 rfl) ?_
  refine lv_iload_n X.hx X.hb dX5_codeOf_1 rfl (lv_at hl 2 rfl) ?_
  refine lv_iconst (v := 1) X.hx X.hb dX5_codeOf_2 (by decide) ?_
  refine lv_iadd X.hx X.hb dX5_codeOf_3 ?_
  refine lv_imul X.hx X.hb dX5_codeOf_4 ?_
  obtain ⟨w5, e5, hf⟩ := lt_e hf
  refine lv_nm e5 ?_
  refine lv_istore_n (lv' := [(3, .int w5), (0, .ref (ad 1)), (1, .int a1), (2, .int a2)]) X.hx X.hb dX5_codeOf_5 rfl hl (by decide) rfl (fun ls hl => ?_)
  refine lv_iconst (v := 0) X.hx X.hb dX5_codeOf_6 (by decide) ?_
  refine lv_istore (lv' := [(4, .int 0), (3, .int w5), (0, .ref (ad 1)), (1, .int a1), (2, .int a2)]) X.hx X.hb dX5_codeOf_7 hl (by decide) rfl (fun ls hl => ?_)
  refine lv_iconst (v := 0) X.hx X.hb dX5_codeOf_9 (by decide) ?_
  refine lv_istore (lv' := [(5, .int 0), (4, .int 0), (3, .int w5), (0, .ref (ad 1)), (1, .int a1), (2, .int a2)]) X.hx X.hb dX5_codeOf_10 hl (by decide) rfl (fun ls hl => ?_)
  exact f_X5_codeOf_L12_w X hr hlk FU _ _ _ _ _ _ _  hf hW hS (lv_sub hl [3, 5, 2, 1, 0] rfl)
-- WordSquares$WordList.hasPlace
noncomputable def f_X6_hasPlace_J16 (st : St) : Option Int32 := some 0
set_option maxRecDepth 100000 in
theorem f_X6_hasPlace_J16_w {st : St} {res : Int32} (X : Cx V A cX6_hasPlace 2 RX6 p m c s args) (hr : meth.sig.returnType = (some .boolean)) (hlk : meth.locks = false)  (H : Heap) (locs : List Loc) (ls : Array Slot)  (hf : f_X6_hasPlace_J16 st  = some res) (hW : (WdC V ad A) st H) (hS : va_S A s.heap H locs) (hl : lv_has ls 2 []) : W p l e (rmF 0 0 0 0) s m args below meth c H locs 0 0 (MQ below (Qwi A (WdC V ad A) res st) args s 0 0 A) (F0 m 16 ls []) := by
  
  unfold f_X6_hasPlace_J16 at hf
  refine lv_iconst (v := 0) X.hx X.hb dX6_hasPlace_16 (by decide) ?_
  exact rt_z X hr hlk hW hS (Or.inl rfl) (Option.some.inj hf) (Nat.le_refl _) (Nat.le_refl _) dX6_hasPlace_17
noncomputable def f_X6_hasPlace (st : St) (a1 : Int32) : Option Int32 := if a1 < 0 then f_X6_hasPlace_J16 st else if (st.1 6) ≤ a1 then f_X6_hasPlace_J16 st else some 1
set_option maxRecDepth 100000 in
theorem w_X6_hasPlace (l : Launch) (V : Ev) (A : Nat → Prop) (ad : Nat → Nat) {st : St} {a1 : Int32} {res : Int32} (hf : f_X6_hasPlace st a1 = some res) : Cn l yX6_hasPlace cX6_hasPlace 2 (some .boolean) 0 0 0 0 V A (WdC V ad A) st [.ref (ad 2), .int a1] (Qwi A (WdC V ad A) res st) := by
  refine cn_of RX6 (by decide) rfl (fun p e s m below meth c ls X hr hlk hW hS hl => ?_) (Nat.le_of_ble_eq_true rfl)
  have hl : lv_has ls 2 [(0, .ref (ad 2)), (1, .int a1)] := hl
  unfold f_X6_hasPlace at hf
  refine lv_iload_n X.hx X.hb dX6_hasPlace_0 rfl (lv_at hl 1 rfl) ?_
  refine lv_if_lt (tgt := 16) X.hx X.hb dX6_hasPlace_1 (by decide) (fun c1 => ?_) (fun c1 => ?_)
  · replace hf := ite_t c1 hf
    exact f_X6_hasPlace_J16_w X hr hlk  _ _ _  hf hW hS (lv_sub hl [] rfl)
  · replace hf := ite_f c1 hf
    refine lv_iload_n X.hx X.hb dX6_hasPlace_4 rfl (lv_at hl 1 rfl) ?_
    refine lv_aload_n X.hx X.hb dX6_hasPlace_5 rfl (lv_at hl 0 rfl) ?_
    refine gX6_length X hW dX6_hasPlace_6 ?_
    refine lv_icmp_ge (tgt := 16) X.hx X.hb dX6_hasPlace_9 (by decide) (fun c9 => ?_) (fun c9 => ?_)
    · replace hf := ite_t c9 hf
      exact f_X6_hasPlace_J16_w X hr hlk  _ _ _  hf hW hS (lv_sub hl [] rfl)
    · replace hf := ite_f c9 hf
      refine lv_iconst (v := 1) X.hx X.hb dX6_hasPlace_12 (by decide) ?_
      refine lv_goto (tgt := 17) X.hx X.hb dX6_hasPlace_13 (by decide) ?_
      exact rt_z X hr hlk hW hS (Or.inr rfl) (Option.some.inj hf) (Nat.le_refl _) (Nat.le_refl _) dX6_hasPlace_17
-- WordSquares$WordList.takesLength
noncomputable def f_X6_takesLength_J15 (st : St) : Option Int32 := some 1
set_option maxRecDepth 100000 in
theorem f_X6_takesLength_J15_w {st : St} {res : Int32} (X : Cx V A cX6_takesLength 2 RX6 p m c s args) (hr : meth.sig.returnType = (some .boolean)) (hlk : meth.locks = false)  (H : Heap) (locs : List Loc) (ls : Array Slot)  (hf : f_X6_takesLength_J15 st  = some res) (hW : (WdC V ad A) st H) (hS : va_S A s.heap H locs) (hl : lv_has ls 2 []) : W p l e (rmF 0 0 0 0) s m args below meth c H locs 0 0 (MQ below (Qwi A (WdC V ad A) res st) args s 0 0 A) (F0 m 15 ls []) := by
  
  unfold f_X6_takesLength_J15 at hf
  refine lv_iconst (v := 1) X.hx X.hb dX6_takesLength_15 (by decide) ?_
  refine lv_goto (tgt := 20) X.hx X.hb dX6_takesLength_16 (by decide) ?_
  exact rt_z X hr hlk hW hS (Or.inr rfl) (Option.some.inj hf) (Nat.le_refl _) (Nat.le_refl _) dX6_takesLength_20
noncomputable def f_X6_takesLength (st : St) (a1 : Int32) : Option Int32 := if (st.1 5) = 0 then f_X6_takesLength_J15 st else if a1 = (st.1 6) then f_X6_takesLength_J15 st else some 0
set_option maxRecDepth 100000 in
theorem w_X6_takesLength (l : Launch) (V : Ev) (A : Nat → Prop) (ad : Nat → Nat) {st : St} {a1 : Int32} {res : Int32} (hf : f_X6_takesLength st a1 = some res) : Cn l yX6_takesLength cX6_takesLength 2 (some .boolean) 0 0 0 0 V A (WdC V ad A) st [.ref (ad 2), .int a1] (Qwi A (WdC V ad A) res st) := by
  refine cn_of RX6 (by decide) rfl (fun p e s m below meth c ls X hr hlk hW hS hl => ?_) (Nat.le_of_ble_eq_true rfl)
  have hl : lv_has ls 2 [(0, .ref (ad 2)), (1, .int a1)] := hl
  unfold f_X6_takesLength at hf
  refine lv_aload_n X.hx X.hb dX6_takesLength_0 rfl (lv_at hl 0 rfl) ?_
  refine gX6_size X hW dX6_takesLength_1 ?_
  refine lv_if_eq (tgt := 15) X.hx X.hb dX6_takesLength_4 (by decide) (fun c4 => ?_) (fun c4 => ?_)
  · replace hf := ite_t c4 hf
    exact f_X6_takesLength_J15_w X hr hlk  _ _ _  hf hW hS (lv_sub hl [] rfl)
  · replace hf := ite_f c4 hf
    refine lv_iload_n X.hx X.hb dX6_takesLength_7 rfl (lv_at hl 1 rfl) ?_
    refine lv_aload_n X.hx X.hb dX6_takesLength_8 rfl (lv_at hl 0 rfl) ?_
    refine gX6_length X hW dX6_takesLength_9 ?_
    refine lv_icmp_ne (tgt := 19) X.hx X.hb dX6_takesLength_12 (by decide) (fun c12 => ?_) (fun c12 => ?_)
    · replace hf := ite_f c12 hf
      refine lv_iconst (v := 0) X.hx X.hb dX6_takesLength_19 (by decide) ?_
      exact rt_z X hr hlk hW hS (Or.inl rfl) (Option.some.inj hf) (Nat.le_refl _) (Nat.le_refl _) dX6_takesLength_20
    · replace hf := ite_t c12 hf
      exact f_X6_takesLength_J15_w X hr hlk  _ _ _  hf hW hS (lv_sub hl [] rfl)
-- WordSquares$WordList.find
noncomputable def f_X6_find_L2 (st : St) : Nat → Int32 → Int32 → Option Int32
  | 0, _, _ => none
  | fu + 1, x1, x2 => if (st.1 5) ≤ x2 then some (-1) else if inb x2 16 = true then if (st.2.1 12 x2.toNatClampNeg) = x1 then some x2 else lt (x2 + 1) fun w22 => (f_X6_find_L2 st fu) x1 w22 else none
set_option maxRecDepth 100000 in
theorem f_X6_find_L2_w {st : St} {res : Int32} (X : Cx V A cX6_find 3 RX6 p m c s args) (hr : meth.sig.returnType = (some .int)) (hlk : meth.locks = false)  : ∀ (n9 : Nat) (x1 : Int32) (x2 : Int32) (H : Heap) (locs : List Loc) (ls : Array Slot), f_X6_find_L2 st n9 x1 x2 = some res → (WdC V ad A) st H → va_S A s.heap H locs → lv_has ls 3 [(0, .ref (ad 2)), (1, .int x1), (2, .int x2)] → W p l e (rmF 0 0 0 0) s m args below meth c H locs 0 0 (MQ below (Qwi A (WdC V ad A) res st) args s 0 0 A) (F0 m 2 ls []) := by
  intro n9
  induction n9 with
  | zero =>
    intro x1 x2 H locs ls hf
    exact absurd hf (by unfold f_X6_find_L2; exact fun h => by cases h)
  | succ n9 hr2 =>
    intro x1 x2 H locs ls hf hW hS hl
    
    unfold f_X6_find_L2 at hf
    refine lv_iload_n X.hx X.hb dX6_find_2 rfl (lv_at hl 2 rfl) ?_
    refine lv_aload_n X.hx X.hb dX6_find_3 rfl (lv_at hl 0 rfl) ?_
    refine gX6_size X hW dX6_find_4 ?_
    refine lv_icmp_ge (tgt := 28) X.hx X.hb dX6_find_7 (by decide) (fun c7 => ?_) (fun c7 => ?_)
    · replace hf := ite_t c7 hf
      refine lv_iconst (v := (-1)) X.hx X.hb dX6_find_28 (by decide) ?_
      exact rt_i X hr hlk hW hS (Option.some.inj hf) (Nat.le_refl _) (Nat.le_refl _) dX6_find_29
    · replace hf := ite_f c7 hf
      refine lv_aload_n X.hx X.hb dX6_find_10 rfl (lv_at hl 0 rfl) ?_
      refine gX6_codes X hW dX6_find_11 ?_
      refine lv_iload_n X.hx X.hb dX6_find_14 rfl (lv_at hl 2 rfl) ?_
      obtain ⟨h15, hf⟩ := ite_n hf
      refine aC_ld X hW isA_12 rfl h15 dX6_find_15 ?_
      refine lv_iload_n X.hx X.hb dX6_find_16 rfl (lv_at hl 1 rfl) ?_
      refine lv_icmp_ne (tgt := 22) X.hx X.hb dX6_find_17 (by decide) (fun c17 => ?_) (fun c17 => ?_)
      · replace hf := ite_f c17 hf
        obtain ⟨w22, e22, hf⟩ := lt_e hf
        refine lv_iinc (v := w22) (lv' := [(2, .int w22), (0, .ref (ad 2)), (1, .int x1)]) X.hx X.hb dX6_find_22 hl (k := 2) rfl (by rw [e22]; rfl) (by decide) rfl (fun ls hl => ?_)
        refine lv_goto (tgt := 2) X.hx X.hb dX6_find_25 (by decide) ?_
        exact hr2 _ _ _ _ _  hf hW hS (lv_sub hl [1, 2, 0] rfl)
      · replace hf := ite_t c17 hf
        refine lv_iload_n X.hx X.hb dX6_find_20 rfl (lv_at hl 2 rfl) ?_
        exact rt_i X hr hlk hW hS (Option.some.inj hf) (Nat.le_refl _) (Nat.le_refl _) dX6_find_21
noncomputable def f_X6_find (st : St) (a1 : Int32) : Option Int32 := f_X6_find_L2 st FU a1 0
set_option maxRecDepth 100000 in
theorem w_X6_find (l : Launch) (V : Ev) (A : Nat → Prop) (ad : Nat → Nat) {st : St} {a1 : Int32} {res : Int32} (hf : f_X6_find st a1 = some res) : Cn l yX6_find cX6_find 3 (some .int) 0 0 0 0 V A (WdC V ad A) st [.ref (ad 2), .int a1] (Qwi A (WdC V ad A) res st) := by
  refine cn_of RX6 (by decide) rfl (fun p e s m below meth c ls X hr hlk hW hS hl => ?_) (Nat.le_of_ble_eq_true rfl)
  have hl : lv_has ls 3 [(0, .ref (ad 2)), (1, .int a1)] := hl
  unfold f_X6_find at hf
  refine lv_iconst (v := 0) X.hx X.hb dX6_find_0 (by decide) ?_
  refine lv_istore_n (lv' := [(2, .int 0), (0, .ref (ad 2)), (1, .int a1)]) X.hx X.hb dX6_find_1 rfl hl (by decide) rfl (fun ls hl => ?_)
  exact f_X6_find_L2_w X hr hlk FU _ _ _ _ _  hf hW hS (lv_sub hl [1, 2, 0] rfl)
-- WordSquares$WordList.insert
noncomputable def f_X6_insert_J65 (st : St) (x1 : Int32) (x2 : Int32) (x3 : Int32) : Option St := if inb x3 16 = true then lt (sA st 12 x3.toNatClampNeg x1) fun s71 => if inb x3 16 = true then lt (sA s71 13 x3.toNatClampNeg 1) fun s78 => lt (sI s78 5 ((s78.1 5) + 1)) fun s86 => lt (sI s86 6 x2) fun s91 => some s91 else none else none
theorem f_X6_insert_J65_l {res : St} (st : St) (x1 : Int32) (x2 : Int32) (x3 : Int32) (hf : f_X6_insert_J65 st x1 x2 x3 = some res) : phi res = phi st := by
  unfold f_X6_insert_J65 at hf
  obtain ⟨h71, hf⟩ := ite_n hf
  obtain ⟨s71, e71, hf⟩ := lt_e hf
  have p71 : phi s71 = phi st := by rw [e71]; rfl
  obtain ⟨h78, hf⟩ := ite_n hf
  obtain ⟨s78, e78, hf⟩ := lt_e hf
  have p78 : phi s78 = phi s71 := by rw [e78]; rfl
  obtain ⟨s86, e86, hf⟩ := lt_e hf
  have p86 : phi s86 = phi s78 := by rw [e86]; rfl
  obtain ⟨s91, e91, hf⟩ := lt_e hf
  have p91 : phi s91 = phi s86 := by rw [e91]; rfl
  have q9 := congrArg phi (Option.some.inj hf)
  omega
set_option maxRecDepth 100000 in
theorem f_X6_insert_J65_w {res : St} (X : Cx V A cX6_insert 4 RX6 p m c s args) (hr : meth.sig.returnType = none) (hlk : meth.locks = false)  (st : St) (x1 : Int32) (x2 : Int32) (x3 : Int32) (H : Heap) (locs : List Loc) (ls : Array Slot)  (hf : f_X6_insert_J65 st x1 x2 x3 = some res) (hW : (WdC V ad A) st H) (hS : va_S A s.heap H locs) (hl : lv_has ls 4 [(0, .ref (ad 2)), (1, .int x1), (2, .int x2), (3, .int x3)]) : W p l e (rmF 0 0 0 0) s m args below meth c H locs 0 0 (MQ below (Qwv A (WdC V ad A) res) args s 0 0 A) (F0 m 65 ls []) := by
  
  unfold f_X6_insert_J65 at hf
  refine lv_aload_n X.hx X.hb dX6_insert_65 rfl (lv_at hl 0 rfl) ?_
  refine gX6_codes X hW dX6_insert_66 ?_
  refine lv_iload_n X.hx X.hb dX6_insert_69 rfl (lv_at hl 3 rfl) ?_
  refine lv_iload_n X.hx X.hb dX6_insert_70 rfl (lv_at hl 1 rfl) ?_
  obtain ⟨h71, hf⟩ := ite_n hf
  obtain ⟨s71, e71, hf⟩ := lt_e hf
  refine aC_st X hW hS isA_12 rfl h71 dX6_insert_71 (fun H locs hW hS => ?_)
  rw [← e71] at hW
  refine lv_aload_n X.hx X.hb dX6_insert_72 rfl (lv_at hl 0 rfl) ?_
  refine gX6_weights X hW dX6_insert_73 ?_
  refine lv_iload_n X.hx X.hb dX6_insert_76 rfl (lv_at hl 3 rfl) ?_
  refine lv_iconst (v := 1) X.hx X.hb dX6_insert_77 (by decide) ?_
  obtain ⟨h78, hf⟩ := ite_n hf
  obtain ⟨s78, e78, hf⟩ := lt_e hf
  refine aC_st X hW hS isA_13 rfl h78 dX6_insert_78 (fun H locs hW hS => ?_)
  rw [← e78] at hW
  refine lv_aload_n X.hx X.hb dX6_insert_79 rfl (lv_at hl 0 rfl) ?_
  refine lv_dup X.hx X.hb dX6_insert_80 rfl ?_
  refine gX6_size X hW dX6_insert_81 ?_
  refine lv_iconst (v := 1) X.hx X.hb dX6_insert_84 (by decide) ?_
  refine lv_iadd X.hx X.hb dX6_insert_85 ?_
  obtain ⟨s86, e86, hf⟩ := lt_e hf
  refine pX6_size X hW hS dX6_insert_86 (fun H locs hW hS => ?_)
  rw [← e86] at hW
  refine lv_aload_n X.hx X.hb dX6_insert_89 rfl (lv_at hl 0 rfl) ?_
  refine lv_iload_n X.hx X.hb dX6_insert_90 rfl (lv_at hl 2 rfl) ?_
  obtain ⟨s91, e91, hf⟩ := lt_e hf
  refine pX6_length X hW hS dX6_insert_91 (fun H locs hW hS => ?_)
  rw [← e91] at hW
  exact rt_v X hr hlk (by rw [← Option.some.inj hf]; exact hW) hS (Nat.le_refl _) (Nat.le_refl _) dX6_insert_94
noncomputable def f_X6_insert_L15 : Nat → St → Int32 → Int32 → Int32 → Option St
  | 0, _, _, _, _ => none
  | fu + 1, st, x1, x2, x3 => if x3 ≤ 0 then f_X6_insert_J65 st x1 x2 x3 else if inb (x3 - 1) 16 = true then if (st.2.1 12 (x3 - 1).toNatClampNeg) ≤ x1 then f_X6_insert_J65 st x1 x2 x3 else if inb (x3 - 1) 16 = true then if inb x3 16 = true then lt (sA st 12 x3.toNatClampNeg (st.2.1 12 (x3 - 1).toNatClampNeg)) fun s44 => if inb (x3 - 1) 16 = true then if inb x3 16 = true then lt (sA s44 13 x3.toNatClampNeg (s44.2.1 13 (x3 - 1).toNatClampNeg)) fun s58 => lt (x3 + (-1)) fun w59 => (f_X6_insert_L15 fu) s58 x1 x2 w59 else none else none else none else none else none
theorem f_X6_insert_L15_l {res : St} : ∀ (n9 : Nat) (st : St) (x1 : Int32) (x2 : Int32) (x3 : Int32), f_X6_insert_L15 n9 st x1 x2 x3 = some res → phi res = phi st := by
  intro n9
  induction n9 with
  | zero =>
    intro st x1 x2 x3 hf
    exact absurd hf (by unfold f_X6_insert_L15; exact fun h => by cases h)
  | succ n9 hq15 =>
    intro st x1 x2 x3 hf
    unfold f_X6_insert_L15 at hf
    by_cases c16 : x3 ≤ 0
    · replace hf := ite_t c16 hf
      have q9 := f_X6_insert_J65_l  _ _ _ _ hf
      omega
    · replace hf := ite_f c16 hf
      obtain ⟨h26, hf⟩ := ite_n hf
      by_cases c28 : (st.2.1 12 (x3 - 1).toNatClampNeg) ≤ x1
      · replace hf := ite_t c28 hf
        have q9 := f_X6_insert_J65_l  _ _ _ _ hf
        omega
      · replace hf := ite_f c28 hf
        obtain ⟨h43, hf⟩ := ite_n hf
        obtain ⟨h44, hf⟩ := ite_n hf
        obtain ⟨s44, e44, hf⟩ := lt_e hf
        have p44 : phi s44 = phi st := by rw [e44]; rfl
        obtain ⟨h57, hf⟩ := ite_n hf
        obtain ⟨h58, hf⟩ := ite_n hf
        obtain ⟨s58, e58, hf⟩ := lt_e hf
        have p58 : phi s58 = phi s44 := by rw [e58]; rfl
        obtain ⟨w59, e59, hf⟩ := lt_e hf
        have q9 := hq15 _ _ _ _ hf
        omega
set_option maxRecDepth 100000 in
theorem f_X6_insert_L15_w {res : St} (X : Cx V A cX6_insert 4 RX6 p m c s args) (hr : meth.sig.returnType = none) (hlk : meth.locks = false)  : ∀ (n9 : Nat) (st : St) (x1 : Int32) (x2 : Int32) (x3 : Int32) (H : Heap) (locs : List Loc) (ls : Array Slot), f_X6_insert_L15 n9 st x1 x2 x3 = some res → (WdC V ad A) st H → va_S A s.heap H locs → lv_has ls 4 [(0, .ref (ad 2)), (1, .int x1), (2, .int x2), (3, .int x3)] → W p l e (rmF 0 0 0 0) s m args below meth c H locs 0 0 (MQ below (Qwv A (WdC V ad A) res) args s 0 0 A) (F0 m 15 ls []) := by
  intro n9
  induction n9 with
  | zero =>
    intro st x1 x2 x3 H locs ls hf
    exact absurd hf (by unfold f_X6_insert_L15; exact fun h => by cases h)
  | succ n9 hr15 =>
    intro st x1 x2 x3 H locs ls hf hW hS hl
    
    unfold f_X6_insert_L15 at hf
    refine lv_iload_n X.hx X.hb dX6_insert_15 rfl (lv_at hl 3 rfl) ?_
    refine lv_if_le (tgt := 65) X.hx X.hb dX6_insert_16 (by decide) (fun c16 => ?_) (fun c16 => ?_)
    · replace hf := ite_t c16 hf
      exact f_X6_insert_J65_w X hr hlk _ _ _ _ _ _ _  hf hW hS (lv_sub hl [0, 1, 2, 3] rfl)
    · replace hf := ite_f c16 hf
      refine lv_aload_n X.hx X.hb dX6_insert_19 rfl (lv_at hl 0 rfl) ?_
      refine gX6_codes X hW dX6_insert_20 ?_
      refine lv_iload_n X.hx X.hb dX6_insert_23 rfl (lv_at hl 3 rfl) ?_
      refine lv_iconst (v := 1) X.hx X.hb dX6_insert_24 (by decide) ?_
      refine lv_isub X.hx X.hb dX6_insert_25 ?_
      obtain ⟨h26, hf⟩ := ite_n hf
      refine aC_ld X hW isA_12 rfl h26 dX6_insert_26 ?_
      refine lv_iload_n X.hx X.hb dX6_insert_27 rfl (lv_at hl 1 rfl) ?_
      refine lv_icmp_le (tgt := 65) X.hx X.hb dX6_insert_28 (by decide) (fun c28 => ?_) (fun c28 => ?_)
      · replace hf := ite_t c28 hf
        exact f_X6_insert_J65_w X hr hlk _ _ _ _ _ _ _  hf hW hS (lv_sub hl [0, 1, 2, 3] rfl)
      · replace hf := ite_f c28 hf
        refine lv_aload_n X.hx X.hb dX6_insert_31 rfl (lv_at hl 0 rfl) ?_
        refine gX6_codes X hW dX6_insert_32 ?_
        refine lv_iload_n X.hx X.hb dX6_insert_35 rfl (lv_at hl 3 rfl) ?_
        refine lv_aload_n X.hx X.hb dX6_insert_36 rfl (lv_at hl 0 rfl) ?_
        refine gX6_codes X hW dX6_insert_37 ?_
        refine lv_iload_n X.hx X.hb dX6_insert_40 rfl (lv_at hl 3 rfl) ?_
        refine lv_iconst (v := 1) X.hx X.hb dX6_insert_41 (by decide) ?_
        refine lv_isub X.hx X.hb dX6_insert_42 ?_
        obtain ⟨h43, hf⟩ := ite_n hf
        refine aC_ld X hW isA_12 rfl h43 dX6_insert_43 ?_
        obtain ⟨h44, hf⟩ := ite_n hf
        obtain ⟨s44, e44, hf⟩ := lt_e hf
        refine aC_st X hW hS isA_12 rfl h44 dX6_insert_44 (fun H locs hW hS => ?_)
        rw [← e44] at hW
        refine lv_aload_n X.hx X.hb dX6_insert_45 rfl (lv_at hl 0 rfl) ?_
        refine gX6_weights X hW dX6_insert_46 ?_
        refine lv_iload_n X.hx X.hb dX6_insert_49 rfl (lv_at hl 3 rfl) ?_
        refine lv_aload_n X.hx X.hb dX6_insert_50 rfl (lv_at hl 0 rfl) ?_
        refine gX6_weights X hW dX6_insert_51 ?_
        refine lv_iload_n X.hx X.hb dX6_insert_54 rfl (lv_at hl 3 rfl) ?_
        refine lv_iconst (v := 1) X.hx X.hb dX6_insert_55 (by decide) ?_
        refine lv_isub X.hx X.hb dX6_insert_56 ?_
        obtain ⟨h57, hf⟩ := ite_n hf
        refine aC_ld X hW isA_13 rfl h57 dX6_insert_57 ?_
        obtain ⟨h58, hf⟩ := ite_n hf
        obtain ⟨s58, e58, hf⟩ := lt_e hf
        refine aC_st X hW hS isA_13 rfl h58 dX6_insert_58 (fun H locs hW hS => ?_)
        rw [← e58] at hW
        obtain ⟨w59, e59, hf⟩ := lt_e hf
        refine lv_iinc (v := w59) (lv' := [(3, .int w59), (0, .ref (ad 2)), (1, .int x1), (2, .int x2)]) X.hx X.hb dX6_insert_59 hl (k := 3) rfl (by rw [e59]; rfl) (by decide) rfl (fun ls hl => ?_)
        refine lv_goto (tgt := 15) X.hx X.hb dX6_insert_62 (by decide) ?_
        exact hr15 _ _ _ _ _ _ _  hf hW hS (lv_sub hl [1, 2, 3, 0] rfl)
noncomputable def f_X6_insert (st : St) (a1 : Int32) (a2 : Int32) : Option St := if (st.1 5) < 12 then lt (st.1 5) fun w14 => f_X6_insert_L15 FU st a1 a2 w14 else some st
theorem l_X6_insert {st : St} {a1 : Int32} {a2 : Int32} {res : St} (hf : f_X6_insert st a1 a2 = some res) : phi res = phi st := by
  unfold f_X6_insert at hf
  by_cases c6 : (st.1 5) < 12
  · replace hf := ite_t c6 hf
    obtain ⟨w14, e14, hf⟩ := lt_e hf
    have q9 := f_X6_insert_L15_l  FU _ _ _ _ hf
    omega
  · replace hf := ite_f c6 hf
    have q9 := congrArg phi (Option.some.inj hf)
    omega
set_option maxRecDepth 100000 in
theorem w_X6_insert (l : Launch) (V : Ev) (A : Nat → Prop) (ad : Nat → Nat) {st : St} {a1 : Int32} {a2 : Int32} {res : St} (hf : f_X6_insert st a1 a2 = some res) : Cn l yX6_insert cX6_insert 4 none 0 0 0 0 V A (WdC V ad A) st [.ref (ad 2), .int a1, .int a2] (Qwv A (WdC V ad A) res) := by
  refine cn_of RX6 (by decide) rfl (fun p e s m below meth c ls X hr hlk hW hS hl => ?_) (Nat.le_of_ble_eq_true rfl)
  have hl : lv_has ls 4 [(0, .ref (ad 2)), (1, .int a1), (2, .int a2)] := hl
  unfold f_X6_insert at hf
  refine lv_aload_n X.hx X.hb dX6_insert_0 rfl (lv_at hl 0 rfl) ?_
  refine gX6_size X hW dX6_insert_1 ?_
  refine lv_bipush (v := 12) X.hx X.hb dX6_insert_4 (by decide) ?_
  refine lv_icmp_lt (tgt := 10) X.hx X.hb dX6_insert_6 (by decide) (fun c6 => ?_) (fun c6 => ?_)
  · replace hf := ite_t c6 hf
    refine lv_aload_n X.hx X.hb dX6_insert_10 rfl (lv_at hl 0 rfl) ?_
    refine gX6_size X hW dX6_insert_11 ?_
    obtain ⟨w14, e14, hf⟩ := lt_e hf
    refine lv_nm e14 ?_
    refine lv_istore_n (lv' := [(3, .int w14), (0, .ref (ad 2)), (1, .int a1), (2, .int a2)]) X.hx X.hb dX6_insert_14 rfl hl (by decide) rfl (fun ls hl => ?_)
    exact f_X6_insert_L15_w X hr hlk FU _ _ _ _ _ _ _  hf hW hS (lv_sub hl [1, 2, 3, 0] rfl)
  · replace hf := ite_f c6 hf
    exact rt_v X hr hlk (by rw [← Option.some.inj hf]; exact hW) hS (Nat.le_refl _) (Nat.le_refl _) dX6_insert_9
-- WordSquares$WordList.delete
noncomputable def f_X6_delete_L21 : Nat → St → Int32 → Option St
  | 0, _, _ => none
  | fu + 1, st, x2 => if (st.1 5) ≤ x2 then if (st.1 5) = 0 then lt (sI st 6 0) fun s72 => some s72 else some st else if inb (x2 + 1) 16 = true then if inb x2 16 = true then lt (sA st 12 x2.toNatClampNeg (st.2.1 12 (x2 + 1).toNatClampNeg)) fun s42 => if inb (x2 + 1) 16 = true then if inb x2 16 = true then lt (sA s42 13 x2.toNatClampNeg (s42.2.1 13 (x2 + 1).toNatClampNeg)) fun s56 => lt (x2 + 1) fun w57 => (f_X6_delete_L21 fu) s56 w57 else none else none else none else none
theorem f_X6_delete_L21_l {res : St} : ∀ (n9 : Nat) (st : St) (x2 : Int32), f_X6_delete_L21 n9 st x2 = some res → phi res = phi st := by
  intro n9
  induction n9 with
  | zero =>
    intro st x2 hf
    exact absurd hf (by unfold f_X6_delete_L21; exact fun h => by cases h)
  | succ n9 hq21 =>
    intro st x2 hf
    unfold f_X6_delete_L21 at hf
    by_cases c26 : (st.1 5) ≤ x2
    · replace hf := ite_t c26 hf
      by_cases c67 : (st.1 5) = 0
      · replace hf := ite_t c67 hf
        obtain ⟨s72, e72, hf⟩ := lt_e hf
        have p72 : phi s72 = phi st := by rw [e72]; rfl
        have q9 := congrArg phi (Option.some.inj hf)
        omega
      · replace hf := ite_f c67 hf
        have q9 := congrArg phi (Option.some.inj hf)
        omega
    · replace hf := ite_f c26 hf
      obtain ⟨h41, hf⟩ := ite_n hf
      obtain ⟨h42, hf⟩ := ite_n hf
      obtain ⟨s42, e42, hf⟩ := lt_e hf
      have p42 : phi s42 = phi st := by rw [e42]; rfl
      obtain ⟨h55, hf⟩ := ite_n hf
      obtain ⟨h56, hf⟩ := ite_n hf
      obtain ⟨s56, e56, hf⟩ := lt_e hf
      have p56 : phi s56 = phi s42 := by rw [e56]; rfl
      obtain ⟨w57, e57, hf⟩ := lt_e hf
      have q9 := hq21 _ _ hf
      omega
set_option maxRecDepth 100000 in
theorem f_X6_delete_L21_w {res : St} (X : Cx V A cX6_delete 3 RX6 p m c s args) (hr : meth.sig.returnType = none) (hlk : meth.locks = false)  : ∀ (n9 : Nat) (st : St) (x2 : Int32) (H : Heap) (locs : List Loc) (ls : Array Slot), f_X6_delete_L21 n9 st x2 = some res → (WdC V ad A) st H → va_S A s.heap H locs → lv_has ls 3 [(0, .ref (ad 2)), (2, .int x2)] → W p l e (rmF 1 21 0 0) s m args below meth c H locs 0 0 (MQ below (Qwv A (WdC V ad A) res) args s 0 0 A) (F0 m 21 ls []) := by
  intro n9
  induction n9 with
  | zero =>
    intro st x2 H locs ls hf
    exact absurd hf (by unfold f_X6_delete_L21; exact fun h => by cases h)
  | succ n9 hr21 =>
    intro st x2 H locs ls hf hW hS hl
    
    unfold f_X6_delete_L21 at hf
    refine lv_iload_n X.hx X.hb dX6_delete_21 rfl (lv_at hl 1 rfl) ?_
    refine lv_aload_n X.hx X.hb dX6_delete_22 rfl (lv_at hl 0 rfl) ?_
    refine gX6_size X hW dX6_delete_23 ?_
    refine lv_icmp_ge (tgt := 63) X.hx X.hb dX6_delete_26 (by decide) (fun c26 => ?_) (fun c26 => ?_)
    · replace hf := ite_t c26 hf
      refine lv_aload_n X.hx X.hb dX6_delete_63 rfl (lv_at hl 0 rfl) ?_
      refine gX6_size X hW dX6_delete_64 ?_
      refine lv_if_ne (tgt := 75) X.hx X.hb dX6_delete_67 (by decide) (fun c67 => ?_) (fun c67 => ?_)
      · replace hf := ite_f c67 hf
        exact rt_v X hr hlk (by rw [← Option.some.inj hf]; exact hW) hS (Nat.le_refl _) (Nat.le_refl _) dX6_delete_75
      · replace hf := ite_t c67 hf
        refine lv_aload_n X.hx X.hb dX6_delete_70 rfl (lv_at hl 0 rfl) ?_
        refine lv_iconst (v := 0) X.hx X.hb dX6_delete_71 (by decide) ?_
        obtain ⟨s72, e72, hf⟩ := lt_e hf
        refine pX6_length X hW hS dX6_delete_72 (fun H locs hW hS => ?_)
        rw [← e72] at hW
        exact rt_v X hr hlk (by rw [← Option.some.inj hf]; exact hW) hS (Nat.le_refl _) (Nat.le_refl _) dX6_delete_75
    · replace hf := ite_f c26 hf
      refine lv_aload_n X.hx X.hb dX6_delete_29 rfl (lv_at hl 0 rfl) ?_
      refine gX6_codes X hW dX6_delete_30 ?_
      refine lv_iload_n X.hx X.hb dX6_delete_33 rfl (lv_at hl 1 rfl) ?_
      refine lv_aload_n X.hx X.hb dX6_delete_34 rfl (lv_at hl 0 rfl) ?_
      refine gX6_codes X hW dX6_delete_35 ?_
      refine lv_iload_n X.hx X.hb dX6_delete_38 rfl (lv_at hl 1 rfl) ?_
      refine lv_iconst (v := 1) X.hx X.hb dX6_delete_39 (by decide) ?_
      refine lv_iadd X.hx X.hb dX6_delete_40 ?_
      obtain ⟨h41, hf⟩ := ite_n hf
      refine aC_ld X hW isA_12 rfl h41 dX6_delete_41 ?_
      obtain ⟨h42, hf⟩ := ite_n hf
      obtain ⟨s42, e42, hf⟩ := lt_e hf
      refine aC_st X hW hS isA_12 rfl h42 dX6_delete_42 (fun H locs hW hS => ?_)
      rw [← e42] at hW
      refine lv_aload_n X.hx X.hb dX6_delete_43 rfl (lv_at hl 0 rfl) ?_
      refine gX6_weights X hW dX6_delete_44 ?_
      refine lv_iload_n X.hx X.hb dX6_delete_47 rfl (lv_at hl 1 rfl) ?_
      refine lv_aload_n X.hx X.hb dX6_delete_48 rfl (lv_at hl 0 rfl) ?_
      refine gX6_weights X hW dX6_delete_49 ?_
      refine lv_iload_n X.hx X.hb dX6_delete_52 rfl (lv_at hl 1 rfl) ?_
      refine lv_iconst (v := 1) X.hx X.hb dX6_delete_53 (by decide) ?_
      refine lv_iadd X.hx X.hb dX6_delete_54 ?_
      obtain ⟨h55, hf⟩ := ite_n hf
      refine aC_ld X hW isA_13 rfl h55 dX6_delete_55 ?_
      obtain ⟨h56, hf⟩ := ite_n hf
      obtain ⟨s56, e56, hf⟩ := lt_e hf
      refine aC_st X hW hS isA_13 rfl h56 dX6_delete_56 (fun H locs hW hS => ?_)
      rw [← e56] at hW
      obtain ⟨w57, e57, hf⟩ := lt_e hf
      refine lv_iinc (v := w57) (lv' := [(2, .int w57), (0, .ref (ad 2))]) X.hx X.hb dX6_delete_57 hl (k := 1) rfl (by rw [e57]; rfl) (by decide) rfl (fun ls hl => ?_)
      refine lv_goto (tgt := 21) X.hx X.hb dX6_delete_60 (by decide) ?_
      exact hr21 _ _ _ _ _  hf hW hS (lv_sub hl [1, 0] rfl)
noncomputable def f_X6_delete (st : St) (a1 : Int32) : Option St := (f_X6_has st a1).bind fun b2 => if b2 = 0 then some st else lt (sI st 5 ((st.1 5) - 1)) fun s16 => f_X6_delete_L21 FU s16 a1
theorem l_X6_delete {st : St} {a1 : Int32} {res : St} (hf : f_X6_delete st a1 = some res) : phi res = phi st := by
  unfold f_X6_delete at hf
  obtain ⟨b2, h2, hf⟩ := bnd hf
  by_cases c5 : b2 = 0
  · replace hf := ite_t c5 hf
    have q9 := congrArg phi (Option.some.inj hf)
    omega
  · replace hf := ite_f c5 hf
    obtain ⟨s16, e16, hf⟩ := lt_e hf
    have p16 : phi s16 = phi st := by rw [e16]; rfl
    have q9 := f_X6_delete_L21_l  FU _ _ hf
    omega
set_option maxRecDepth 100000 in
theorem w_X6_delete (l : Launch) (V : Ev) (A : Nat → Prop) (ad : Nat → Nat) {st : St} {a1 : Int32} {res : St} (hf : f_X6_delete st a1 = some res) : Cn l yX6_delete cX6_delete 3 none 1 21 0 0 V A (WdC V ad A) st [.ref (ad 2), .int a1] (Qwv A (WdC V ad A) res) := by
  refine cn_of RX6 (by decide) rfl (fun p e s m below meth c ls X hr hlk hW hS hl => ?_) (Nat.le_of_ble_eq_true rfl)
  have hl : lv_has ls 3 [(0, .ref (ad 2)), (1, .int a1)] := hl
  unfold f_X6_delete at hf
  refine lv_aload_n X.hx X.hb dX6_delete_0 rfl (lv_at hl 0 rfl) ?_
  refine lv_iload_n X.hx X.hb dX6_delete_1 rfl (lv_at hl 1 rfl) ?_
  obtain ⟨b2, h2, hf⟩ := bnd hf
  refine cl_i (run_V (As := [.int a1]) (rest := []) X (w_X6_has l V A ad h2) mw_X6_has ln_X6_25 (rcX6 X hW) hW hS rfl hl.1 rfl (Nat.le_of_ble_eq_true rfl) ⟨Nat.le_of_ble_eq_true rfl, Nat.le_of_ble_eq_true rfl⟩ ⟨Nat.le_refl _, Nat.le_refl _⟩ dX6_delete_2) hS (fun H locs hW hS => ?_)
  refine lv_if_ne (tgt := 9) X.hx X.hb dX6_delete_5 (by decide) (fun c5 => ?_) (fun c5 => ?_)
  · replace hf := ite_f c5 hf
    refine lv_aload_n X.hx X.hb dX6_delete_9 rfl (lv_at hl 0 rfl) ?_
    refine lv_dup X.hx X.hb dX6_delete_10 rfl ?_
    refine gX6_size X hW dX6_delete_11 ?_
    refine lv_iconst (v := 1) X.hx X.hb dX6_delete_14 (by decide) ?_
    refine lv_isub X.hx X.hb dX6_delete_15 ?_
    obtain ⟨s16, e16, hf⟩ := lt_e hf
    refine pX6_size X hW hS dX6_delete_16 (fun H locs hW hS => ?_)
    rw [← e16] at hW
    refine lv_iload_n X.hx X.hb dX6_delete_19 rfl (lv_at hl 1 rfl) ?_
    refine lv_istore_n (lv' := [(2, .int a1), (0, .ref (ad 2)), (1, .int a1)]) X.hx X.hb dX6_delete_20 rfl hl (by decide) rfl (fun ls hl => ?_)
    exact f_X6_delete_L21_w X hr hlk FU _ _ _ _ _  hf hW hS (lv_sub hl [1, 0] rfl)
  · replace hf := ite_t c5 hf
    exact rt_v X hr hlk (by rw [← Option.some.inj hf]; exact hW) hS (Nat.le_refl _) (Nat.le_refl _) dX6_delete_8
-- WordSquares$WordList.weightOf
noncomputable def f_X6_weightOf (st : St) (a1 : Int32) : Option Int32 := if inb (a1 &&& 15) 16 = true then some (st.2.1 13 (a1 &&& 15).toNatClampNeg) else none
set_option maxRecDepth 100000 in
theorem w_X6_weightOf (l : Launch) (V : Ev) (A : Nat → Prop) (ad : Nat → Nat) {st : St} {a1 : Int32} {res : Int32} (hf : f_X6_weightOf st a1 = some res) : Cn l yX6_weightOf cX6_weightOf 2 (some .int) 0 0 0 0 V A (WdC V ad A) st [.ref (ad 2), .int a1] (Qwi A (WdC V ad A) res st) := by
  refine cn_of RX6 (by decide) rfl (fun p e s m below meth c ls X hr hlk hW hS hl => ?_) (Nat.le_of_ble_eq_true rfl)
  have hl : lv_has ls 2 [(0, .ref (ad 2)), (1, .int a1)] := hl
  unfold f_X6_weightOf at hf
  refine lv_aload_n X.hx X.hb dX6_weightOf_0 rfl (lv_at hl 0 rfl) ?_
  refine gX6_weights X hW dX6_weightOf_1 ?_
  refine lv_iload_n X.hx X.hb dX6_weightOf_4 rfl (lv_at hl 1 rfl) ?_
  refine lv_bipush (v := 15) X.hx X.hb dX6_weightOf_5 (by decide) ?_
  refine lv_iand X.hx X.hb dX6_weightOf_7 ?_
  obtain ⟨h8, hf⟩ := ite_n hf
  refine aC_ld X hW isA_13 rfl h8 dX6_weightOf_8 ?_
  exact rt_i X hr hlk hW hS (Option.some.inj hf) (Nat.le_refl _) (Nat.le_refl _) dX6_weightOf_9
-- WordSquares$WordList.setWeight
noncomputable def f_X6_setWeight (st : St) (a1 : Int32) (a2 : Int32) : Option St := if inb (a1 &&& 15) 16 = true then lt (sA st 13 (a1 &&& 15).toNatClampNeg a2) fun s9 => some s9 else none
theorem l_X6_setWeight {st : St} {a1 : Int32} {a2 : Int32} {res : St} (hf : f_X6_setWeight st a1 a2 = some res) : phi res = phi st := by
  unfold f_X6_setWeight at hf
  obtain ⟨h9, hf⟩ := ite_n hf
  obtain ⟨s9, e9, hf⟩ := lt_e hf
  have p9 : phi s9 = phi st := by rw [e9]; rfl
  have q9 := congrArg phi (Option.some.inj hf)
  omega
set_option maxRecDepth 100000 in
theorem w_X6_setWeight (l : Launch) (V : Ev) (A : Nat → Prop) (ad : Nat → Nat) {st : St} {a1 : Int32} {a2 : Int32} {res : St} (hf : f_X6_setWeight st a1 a2 = some res) : Cn l yX6_setWeight cX6_setWeight 3 none 0 0 0 0 V A (WdC V ad A) st [.ref (ad 2), .int a1, .int a2] (Qwv A (WdC V ad A) res) := by
  refine cn_of RX6 (by decide) rfl (fun p e s m below meth c ls X hr hlk hW hS hl => ?_) (Nat.le_of_ble_eq_true rfl)
  have hl : lv_has ls 3 [(0, .ref (ad 2)), (1, .int a1), (2, .int a2)] := hl
  unfold f_X6_setWeight at hf
  refine lv_aload_n X.hx X.hb dX6_setWeight_0 rfl (lv_at hl 0 rfl) ?_
  refine gX6_weights X hW dX6_setWeight_1 ?_
  refine lv_iload_n X.hx X.hb dX6_setWeight_4 rfl (lv_at hl 1 rfl) ?_
  refine lv_bipush (v := 15) X.hx X.hb dX6_setWeight_5 (by decide) ?_
  refine lv_iand X.hx X.hb dX6_setWeight_7 ?_
  refine lv_iload_n X.hx X.hb dX6_setWeight_8 rfl (lv_at hl 2 rfl) ?_
  obtain ⟨h9, hf⟩ := ite_n hf
  obtain ⟨s9, e9, hf⟩ := lt_e hf
  refine aC_st X hW hS isA_13 rfl h9 dX6_setWeight_9 (fun H locs hW hS => ?_)
  rw [← e9] at hW
  exact rt_v X hr hlk (by rw [← Option.some.inj hf]; exact hW) hS (Nat.le_refl _) (Nat.le_refl _) dX6_setWeight_10
-- WordSquares$WordList.prefixOf
noncomputable def f_X6_prefixOf (st : St) (a1 : Int32) (a2 : Int32) : Option Int32 := if inb (a1 &&& 15) 16 = true then some ((st.2.1 12 (a1 &&& 15).toNatClampNeg) >>> ((5 * ((st.1 6) - a2)) &&& 31)) else none
set_option maxRecDepth 100000 in
theorem w_X6_prefixOf (l : Launch) (V : Ev) (A : Nat → Prop) (ad : Nat → Nat) {st : St} {a1 : Int32} {a2 : Int32} {res : Int32} (hf : f_X6_prefixOf st a1 a2 = some res) : Cn l yX6_prefixOf cX6_prefixOf 3 (some .int) 0 0 0 0 V A (WdC V ad A) st [.ref (ad 2), .int a1, .int a2] (Qwi A (WdC V ad A) res st) := by
  refine cn_of RX6 (by decide) rfl (fun p e s m below meth c ls X hr hlk hW hS hl => ?_) (Nat.le_of_ble_eq_true rfl)
  have hl : lv_has ls 3 [(0, .ref (ad 2)), (1, .int a1), (2, .int a2)] := hl
  unfold f_X6_prefixOf at hf
  refine lv_aload_n X.hx X.hb dX6_prefixOf_0 rfl (lv_at hl 0 rfl) ?_
  refine gX6_codes X hW dX6_prefixOf_1 ?_
  refine lv_iload_n X.hx X.hb dX6_prefixOf_4 rfl (lv_at hl 1 rfl) ?_
  refine lv_bipush (v := 15) X.hx X.hb dX6_prefixOf_5 (by decide) ?_
  refine lv_iand X.hx X.hb dX6_prefixOf_7 ?_
  obtain ⟨h8, hf⟩ := ite_n hf
  refine aC_ld X hW isA_12 rfl h8 dX6_prefixOf_8 ?_
  refine lv_iconst (v := 5) X.hx X.hb dX6_prefixOf_9 (by decide) ?_
  refine lv_aload_n X.hx X.hb dX6_prefixOf_10 rfl (lv_at hl 0 rfl) ?_
  refine gX6_length X hW dX6_prefixOf_11 ?_
  refine lv_iload_n X.hx X.hb dX6_prefixOf_14 rfl (lv_at hl 2 rfl) ?_
  refine lv_isub X.hx X.hb dX6_prefixOf_15 ?_
  refine lv_imul X.hx X.hb dX6_prefixOf_16 ?_
  refine lv_ishr X.hx X.hb dX6_prefixOf_17 ?_
  exact rt_i X hr hlk hW hS (Option.some.inj hf) (Nat.le_refl _) (Nat.le_refl _) dX6_prefixOf_18
-- WordSquares$WordList.reversalOf
noncomputable def f_X6_reversalOf_L9 (st : St) : Nat → Int32 → Int32 → Int32 → Option Int32
  | 0, _, _, _ => none
  | fu + 1, x1, x2, x3 => if x3 < 0 then some x2 else (f_X6_letterAt st x1 x3).bind fun b19 => lt ((x2 <<< (5 &&& 31)) ||| b19) fun w23 => lt (x3 + (-1)) fun w24 => (f_X6_reversalOf_L9 st fu) x1 w23 w24
set_option maxRecDepth 100000 in
theorem f_X6_reversalOf_L9_w {st : St} {res : Int32} (X : Cx V A cX6_reversalOf 4 RX6 p m c s args) (hr : meth.sig.returnType = (some .int)) (hlk : meth.locks = false)  : ∀ (n9 : Nat) (x1 : Int32) (x2 : Int32) (x3 : Int32) (H : Heap) (locs : List Loc) (ls : Array Slot), f_X6_reversalOf_L9 st n9 x1 x2 x3 = some res → (WdC V ad A) st H → va_S A s.heap H locs → lv_has ls 4 [(0, .ref (ad 2)), (1, .int x1), (2, .int x2), (3, .int x3)] → W p l e (rmF 1 22 0 0) s m args below meth c H locs 0 0 (MQ below (Qwi A (WdC V ad A) res st) args s 0 0 A) (F0 m 9 ls []) := by
  intro n9
  induction n9 with
  | zero =>
    intro x1 x2 x3 H locs ls hf
    exact absurd hf (by unfold f_X6_reversalOf_L9; exact fun h => by cases h)
  | succ n9 hr9 =>
    intro x1 x2 x3 H locs ls hf hW hS hl
    
    unfold f_X6_reversalOf_L9 at hf
    refine lv_iload_n X.hx X.hb dX6_reversalOf_9 rfl (lv_at hl 3 rfl) ?_
    refine lv_if_lt (tgt := 30) X.hx X.hb dX6_reversalOf_10 (by decide) (fun c10 => ?_) (fun c10 => ?_)
    · replace hf := ite_t c10 hf
      refine lv_iload_n X.hx X.hb dX6_reversalOf_30 rfl (lv_at hl 2 rfl) ?_
      exact rt_i X hr hlk hW hS (Option.some.inj hf) (Nat.le_refl _) (Nat.le_refl _) dX6_reversalOf_31
    · replace hf := ite_f c10 hf
      refine lv_iload_n X.hx X.hb dX6_reversalOf_13 rfl (lv_at hl 2 rfl) ?_
      refine lv_iconst (v := 5) X.hx X.hb dX6_reversalOf_14 (by decide) ?_
      refine lv_ishl X.hx X.hb dX6_reversalOf_15 ?_
      refine lv_aload_n X.hx X.hb dX6_reversalOf_16 rfl (lv_at hl 0 rfl) ?_
      refine lv_iload_n X.hx X.hb dX6_reversalOf_17 rfl (lv_at hl 1 rfl) ?_
      refine lv_iload_n X.hx X.hb dX6_reversalOf_18 rfl (lv_at hl 3 rfl) ?_
      obtain ⟨b19, h19, hf⟩ := bnd hf
      refine cl_i (run_V (As := [.int x1, .int x3]) (rest := [.int (x2 <<< (5 &&& 31))]) X (w_X6_letterAt l V A ad h19) mw_X6_letterAt ln_X6_29 (rcX6 X hW) hW hS rfl hl.1 rfl (Nat.le_of_ble_eq_true rfl) ⟨Nat.le_of_ble_eq_true rfl, Nat.le_of_ble_eq_true rfl⟩ ⟨Nat.le_refl _, Nat.le_refl _⟩ dX6_reversalOf_19) hS (fun H locs hW hS => ?_)
      refine lv_ior X.hx X.hb dX6_reversalOf_22 ?_
      obtain ⟨w23, e23, hf⟩ := lt_e hf
      refine lv_nm e23 ?_
      refine lv_istore_n (lv' := [(2, .int w23), (0, .ref (ad 2)), (1, .int x1), (3, .int x3)]) X.hx X.hb dX6_reversalOf_23 rfl hl (by decide) rfl (fun ls hl => ?_)
      obtain ⟨w24, e24, hf⟩ := lt_e hf
      refine lv_iinc (v := w24) (lv' := [(3, .int w24), (2, .int w23), (0, .ref (ad 2)), (1, .int x1)]) X.hx X.hb dX6_reversalOf_24 hl (k := 3) rfl (by rw [e24]; rfl) (by decide) rfl (fun ls hl => ?_)
      refine lv_goto (tgt := 9) X.hx X.hb dX6_reversalOf_27 (by decide) ?_
      exact hr9 _ _ _ _ _ _  hf hW hS (lv_sub hl [2, 3, 1, 0] rfl)
noncomputable def f_X6_reversalOf (st : St) (a1 : Int32) : Option Int32 := lt ((st.1 6) - 1) fun w8 => f_X6_reversalOf_L9 st FU a1 0 w8
set_option maxRecDepth 100000 in
theorem w_X6_reversalOf (l : Launch) (V : Ev) (A : Nat → Prop) (ad : Nat → Nat) {st : St} {a1 : Int32} {res : Int32} (hf : f_X6_reversalOf st a1 = some res) : Cn l yX6_reversalOf cX6_reversalOf 4 (some .int) 1 22 0 0 V A (WdC V ad A) st [.ref (ad 2), .int a1] (Qwi A (WdC V ad A) res st) := by
  refine cn_of RX6 (by decide) rfl (fun p e s m below meth c ls X hr hlk hW hS hl => ?_) (Nat.le_of_ble_eq_true rfl)
  have hl : lv_has ls 4 [(0, .ref (ad 2)), (1, .int a1)] := hl
  unfold f_X6_reversalOf at hf
  refine lv_iconst (v := 0) X.hx X.hb dX6_reversalOf_0 (by decide) ?_
  refine lv_istore_n (lv' := [(2, .int 0), (0, .ref (ad 2)), (1, .int a1)]) X.hx X.hb dX6_reversalOf_1 rfl hl (by decide) rfl (fun ls hl => ?_)
  refine lv_aload_n X.hx X.hb dX6_reversalOf_2 rfl (lv_at hl 1 rfl) ?_
  refine gX6_length X hW dX6_reversalOf_3 ?_
  refine lv_iconst (v := 1) X.hx X.hb dX6_reversalOf_6 (by decide) ?_
  refine lv_isub X.hx X.hb dX6_reversalOf_7 ?_
  obtain ⟨w8, e8, hf⟩ := lt_e hf
  refine lv_nm e8 ?_
  refine lv_istore_n (lv' := [(3, .int w8), (2, .int 0), (0, .ref (ad 2)), (1, .int a1)]) X.hx X.hb dX6_reversalOf_8 rfl hl (by decide) rfl (fun ls hl => ?_)
  exact f_X6_reversalOf_L9_w X hr hlk FU _ _ _ _ _ _  hf hW hS (lv_sub hl [2, 3, 1, 0] rfl)
-- WordSquares$WordList.numberWithPrefix
noncomputable def f_X6_numberWithPrefix_J28 (st : St) (r5 : Int32 → Int32 → Int32 → Int32 → Option Int32) (x1 : Int32) (x2 : Int32) (x3 : Int32) (x4 : Int32) : Option Int32 := lt (x4 + 1) fun w28 => r5 x1 x2 x3 w28
set_option maxRecDepth 100000 in
theorem f_X6_numberWithPrefix_J28_w {st : St} {r5 : Int32 → Int32 → Int32 → Int32 → Option Int32} {res : Int32} (X : Cx V A cX6_numberWithPrefix 5 RX6 p m c s args) (hr : meth.sig.returnType = (some .int)) (hlk : meth.locks = false) (hr5 : ∀ (x1 : Int32) (x2 : Int32) (x3 : Int32) (x4 : Int32) (H : Heap) (locs : List Loc) (ls : Array Slot), r5 x1 x2 x3 x4 = some res → (WdC V ad A) st H → va_S A s.heap H locs → lv_has ls 5 [(0, .ref (ad 2)), (1, .int x1), (2, .int x2), (3, .int x3), (4, .int x4)] → W p l e (rmF 1 22 0 0) s m args below meth c H locs 0 0 (MQ below (Qwi A (WdC V ad A) res st) args s 0 0 A) (F0 m 5 ls [])) (x1 : Int32) (x2 : Int32) (x3 : Int32) (x4 : Int32) (H : Heap) (locs : List Loc) (ls : Array Slot)  (hf : f_X6_numberWithPrefix_J28 st r5 x1 x2 x3 x4 = some res) (hW : (WdC V ad A) st H) (hS : va_S A s.heap H locs) (hl : lv_has ls 5 [(0, .ref (ad 2)), (1, .int x1), (2, .int x2), (3, .int x3), (4, .int x4)]) : W p l e (rmF 1 22 0 0) s m args below meth c H locs 0 0 (MQ below (Qwi A (WdC V ad A) res st) args s 0 0 A) (F0 m 28 ls []) := by
  
  unfold f_X6_numberWithPrefix_J28 at hf
  obtain ⟨w28, e28, hf⟩ := lt_e hf
  refine lv_iinc (v := w28) (lv' := [(4, .int w28), (0, .ref (ad 2)), (1, .int x1), (2, .int x2), (3, .int x3)]) X.hx X.hb dX6_numberWithPrefix_28 hl (k := 4) rfl (by rw [e28]; rfl) (by decide) rfl (fun ls hl => ?_)
  refine lv_goto (tgt := 5) X.hx X.hb dX6_numberWithPrefix_31 (by decide) ?_
  exact hr5 _ _ _ _ _ _ _  hf hW hS (lv_sub hl [1, 2, 3, 4, 0] rfl)
noncomputable def f_X6_numberWithPrefix_L5 (st : St) : Nat → Int32 → Int32 → Int32 → Int32 → Option Int32
  | 0, _, _, _, _ => none
  | fu + 1, x1, x2, x3, x4 => if (st.1 5) ≤ x4 then some x3 else (f_X6_prefixOf st x4 x2).bind fun b18 => if b18 = x1 then lt (x3 + 1) fun w25 => f_X6_numberWithPrefix_J28 st ((f_X6_numberWithPrefix_L5 st fu)) x1 x2 w25 x4 else f_X6_numberWithPrefix_J28 st ((f_X6_numberWithPrefix_L5 st fu)) x1 x2 x3 x4
set_option maxRecDepth 100000 in
theorem f_X6_numberWithPrefix_L5_w {st : St} {res : Int32} (X : Cx V A cX6_numberWithPrefix 5 RX6 p m c s args) (hr : meth.sig.returnType = (some .int)) (hlk : meth.locks = false)  : ∀ (n9 : Nat) (x1 : Int32) (x2 : Int32) (x3 : Int32) (x4 : Int32) (H : Heap) (locs : List Loc) (ls : Array Slot), f_X6_numberWithPrefix_L5 st n9 x1 x2 x3 x4 = some res → (WdC V ad A) st H → va_S A s.heap H locs → lv_has ls 5 [(0, .ref (ad 2)), (1, .int x1), (2, .int x2), (3, .int x3), (4, .int x4)] → W p l e (rmF 1 22 0 0) s m args below meth c H locs 0 0 (MQ below (Qwi A (WdC V ad A) res st) args s 0 0 A) (F0 m 5 ls []) := by
  intro n9
  induction n9 with
  | zero =>
    intro x1 x2 x3 x4 H locs ls hf
    exact absurd hf (by unfold f_X6_numberWithPrefix_L5; exact fun h => by cases h)
  | succ n9 hr5 =>
    intro x1 x2 x3 x4 H locs ls hf hW hS hl
    
    unfold f_X6_numberWithPrefix_L5 at hf
    refine lv_iload X.hx X.hb dX6_numberWithPrefix_5 (lv_at hl 4 rfl) ?_
    refine lv_aload_n X.hx X.hb dX6_numberWithPrefix_7 rfl (lv_at hl 0 rfl) ?_
    refine gX6_size X hW dX6_numberWithPrefix_8 ?_
    refine lv_icmp_ge (tgt := 34) X.hx X.hb dX6_numberWithPrefix_11 (by decide) (fun c11 => ?_) (fun c11 => ?_)
    · replace hf := ite_t c11 hf
      refine lv_iload_n X.hx X.hb dX6_numberWithPrefix_34 rfl (lv_at hl 3 rfl) ?_
      exact rt_i X hr hlk hW hS (Option.some.inj hf) (Nat.le_refl _) (Nat.le_refl _) dX6_numberWithPrefix_35
    · replace hf := ite_f c11 hf
      refine lv_aload_n X.hx X.hb dX6_numberWithPrefix_14 rfl (lv_at hl 0 rfl) ?_
      refine lv_iload X.hx X.hb dX6_numberWithPrefix_15 (lv_at hl 4 rfl) ?_
      refine lv_iload_n X.hx X.hb dX6_numberWithPrefix_17 rfl (lv_at hl 2 rfl) ?_
      obtain ⟨b18, h18, hf⟩ := bnd hf
      refine cl_i (run_V (As := [.int x4, .int x2]) (rest := []) X (w_X6_prefixOf l V A ad h18) mw_X6_prefixOf ln_X6_33 (rcX6 X hW) hW hS rfl hl.1 rfl (Nat.le_of_ble_eq_true rfl) ⟨Nat.le_of_ble_eq_true rfl, Nat.le_of_ble_eq_true rfl⟩ ⟨Nat.le_refl _, Nat.le_refl _⟩ dX6_numberWithPrefix_18) hS (fun H locs hW hS => ?_)
      refine lv_iload_n X.hx X.hb dX6_numberWithPrefix_21 rfl (lv_at hl 1 rfl) ?_
      refine lv_icmp_ne (tgt := 28) X.hx X.hb dX6_numberWithPrefix_22 (by decide) (fun c22 => ?_) (fun c22 => ?_)
      · replace hf := ite_f c22 hf
        exact f_X6_numberWithPrefix_J28_w X hr hlk hr5 _ _ _ _ _ _ _  hf hW hS (lv_sub hl [0, 1, 2, 3, 4] rfl)
      · replace hf := ite_t c22 hf
        obtain ⟨w25, e25, hf⟩ := lt_e hf
        refine lv_iinc (v := w25) (lv' := [(3, .int w25), (0, .ref (ad 2)), (1, .int x1), (2, .int x2), (4, .int x4)]) X.hx X.hb dX6_numberWithPrefix_25 hl (k := 3) rfl (by rw [e25]; rfl) (by decide) rfl (fun ls hl => ?_)
        exact f_X6_numberWithPrefix_J28_w X hr hlk hr5 _ _ _ _ _ _ _  hf hW hS (lv_sub hl [1, 2, 3, 0, 4] rfl)
noncomputable def f_X6_numberWithPrefix (st : St) (a1 : Int32) (a2 : Int32) : Option Int32 := f_X6_numberWithPrefix_L5 st FU a1 a2 0 0
set_option maxRecDepth 100000 in
theorem w_X6_numberWithPrefix (l : Launch) (V : Ev) (A : Nat → Prop) (ad : Nat → Nat) {st : St} {a1 : Int32} {a2 : Int32} {res : Int32} (hf : f_X6_numberWithPrefix st a1 a2 = some res) : Cn l yX6_numberWithPrefix cX6_numberWithPrefix 5 (some .int) 1 22 0 0 V A (WdC V ad A) st [.ref (ad 2), .int a1, .int a2] (Qwi A (WdC V ad A) res st) := by
  refine cn_of RX6 (by decide) rfl (fun p e s m below meth c ls X hr hlk hW hS hl => ?_) (Nat.le_of_ble_eq_true rfl)
  have hl : lv_has ls 5 [(0, .ref (ad 2)), (1, .int a1), (2, .int a2)] := hl
  unfold f_X6_numberWithPrefix at hf
  refine lv_iconst (v := 0) X.hx X.hb dX6_numberWithPrefix_0 (by decide) ?_
  refine lv_istore_n (lv' := [(3, .int 0), (0, .ref (ad 2)), (1, .int a1), (2, .int a2)]) X.hx X.hb dX6_numberWithPrefix_1 rfl hl (by decide) rfl (fun ls hl => ?_)
  refine lv_iconst (v := 0) X.hx X.hb dX6_numberWithPrefix_2 (by decide) ?_
  refine lv_istore (lv' := [(4, .int 0), (3, .int 0), (0, .ref (ad 2)), (1, .int a1), (2, .int a2)]) X.hx X.hb dX6_numberWithPrefix_3 hl (by decide) rfl (fun ls hl => ?_)
  exact f_X6_numberWithPrefix_L5_w X hr hlk FU _ _ _ _ _ _ _  hf hW hS (lv_sub hl [2, 3, 4, 1, 0] rfl)
-- WordSquares$WordList.numberOfPrefixes
noncomputable def f_X6_numberOfPrefixes_J41 (st : St) (r4 : Int32 → Int32 → Option Int32) (r14 : Int32 → Int32 → Int32 → Option Int32) (x1 : Int32) (x2 : Int32) (x3 : Int32) : Option Int32 := lt (x3 + 1) fun w41 => r14 x1 x2 w41
set_option maxRecDepth 100000 in
theorem f_X6_numberOfPrefixes_J41_w {st : St} {r4 : Int32 → Int32 → Option Int32} {r14 : Int32 → Int32 → Int32 → Option Int32} {res : Int32} (X : Cx V A cX6_numberOfPrefixes 4 RX6 p m c s args) (hr : meth.sig.returnType = (some .int)) (hlk : meth.locks = false) (hr4 : ∀ (x1 : Int32) (x2 : Int32) (H : Heap) (locs : List Loc) (ls : Array Slot), r4 x1 x2 = some res → (WdC V ad A) st H → va_S A s.heap H locs → lv_has ls 4 [(0, .ref (ad 2)), (1, .int x1), (2, .int x2)] → W p l e (rmF 1 24 0 0) s m args below meth c H locs 0 0 (MQ below (Qwi A (WdC V ad A) res st) args s 0 0 A) (F0 m 4 ls [])) (hr14 : ∀ (x1 : Int32) (x2 : Int32) (x3 : Int32) (H : Heap) (locs : List Loc) (ls : Array Slot), r14 x1 x2 x3 = some res → (WdC V ad A) st H → va_S A s.heap H locs → lv_has ls 4 [(0, .ref (ad 2)), (1, .int x1), (2, .int x2), (3, .int x3)] → W p l e (rmF 1 24 0 0) s m args below meth c H locs 0 0 (MQ below (Qwi A (WdC V ad A) res st) args s 0 0 A) (F0 m 14 ls [])) (x1 : Int32) (x2 : Int32) (x3 : Int32) (H : Heap) (locs : List Loc) (ls : Array Slot)  (hf : f_X6_numberOfPrefixes_J41 st r4 r14 x1 x2 x3 = some res) (hW : (WdC V ad A) st H) (hS : va_S A s.heap H locs) (hl : lv_has ls 4 [(0, .ref (ad 2)), (1, .int x1), (2, .int x2), (3, .int x3)]) : W p l e (rmF 1 24 0 0) s m args below meth c H locs 0 0 (MQ below (Qwi A (WdC V ad A) res st) args s 0 0 A) (F0 m 41 ls []) := by
  
  unfold f_X6_numberOfPrefixes_J41 at hf
  obtain ⟨w41, e41, hf⟩ := lt_e hf
  refine lv_iinc (v := w41) (lv' := [(3, .int w41), (0, .ref (ad 2)), (1, .int x1), (2, .int x2)]) X.hx X.hb dX6_numberOfPrefixes_41 hl (k := 3) rfl (by rw [e41]; rfl) (by decide) rfl (fun ls hl => ?_)
  refine lv_goto (tgt := 14) X.hx X.hb dX6_numberOfPrefixes_44 (by decide) ?_
  exact hr14 _ _ _ _ _ _  hf hW hS (lv_sub hl [1, 2, 3, 0] rfl)
noncomputable def f_X6_numberOfPrefixes_J38 (st : St) (r4 : Int32 → Int32 → Option Int32) (r14 : Int32 → Int32 → Int32 → Option Int32) (x1 : Int32) (x2 : Int32) (x3 : Int32) : Option Int32 := lt (x1 + 1) fun w38 => f_X6_numberOfPrefixes_J41 st r4 r14 w38 x2 x3
set_option maxRecDepth 100000 in
theorem f_X6_numberOfPrefixes_J38_w {st : St} {r4 : Int32 → Int32 → Option Int32} {r14 : Int32 → Int32 → Int32 → Option Int32} {res : Int32} (X : Cx V A cX6_numberOfPrefixes 4 RX6 p m c s args) (hr : meth.sig.returnType = (some .int)) (hlk : meth.locks = false) (hr4 : ∀ (x1 : Int32) (x2 : Int32) (H : Heap) (locs : List Loc) (ls : Array Slot), r4 x1 x2 = some res → (WdC V ad A) st H → va_S A s.heap H locs → lv_has ls 4 [(0, .ref (ad 2)), (1, .int x1), (2, .int x2)] → W p l e (rmF 1 24 0 0) s m args below meth c H locs 0 0 (MQ below (Qwi A (WdC V ad A) res st) args s 0 0 A) (F0 m 4 ls [])) (hr14 : ∀ (x1 : Int32) (x2 : Int32) (x3 : Int32) (H : Heap) (locs : List Loc) (ls : Array Slot), r14 x1 x2 x3 = some res → (WdC V ad A) st H → va_S A s.heap H locs → lv_has ls 4 [(0, .ref (ad 2)), (1, .int x1), (2, .int x2), (3, .int x3)] → W p l e (rmF 1 24 0 0) s m args below meth c H locs 0 0 (MQ below (Qwi A (WdC V ad A) res st) args s 0 0 A) (F0 m 14 ls [])) (x1 : Int32) (x2 : Int32) (x3 : Int32) (H : Heap) (locs : List Loc) (ls : Array Slot)  (hf : f_X6_numberOfPrefixes_J38 st r4 r14 x1 x2 x3 = some res) (hW : (WdC V ad A) st H) (hS : va_S A s.heap H locs) (hl : lv_has ls 4 [(0, .ref (ad 2)), (1, .int x1), (2, .int x2), (3, .int x3)]) : W p l e (rmF 1 24 0 0) s m args below meth c H locs 0 0 (MQ below (Qwi A (WdC V ad A) res st) args s 0 0 A) (F0 m 38 ls []) := by
  
  unfold f_X6_numberOfPrefixes_J38 at hf
  obtain ⟨w38, e38, hf⟩ := lt_e hf
  refine lv_iinc (v := w38) (lv' := [(1, .int w38), (0, .ref (ad 2)), (2, .int x2), (3, .int x3)]) X.hx X.hb dX6_numberOfPrefixes_38 hl (k := 1) rfl (by rw [e38]; rfl) (by decide) rfl (fun ls hl => ?_)
  exact f_X6_numberOfPrefixes_J41_w X hr hlk hr4 hr14 _ _ _ _ _ _  hf hW hS (lv_sub hl [1, 0, 2, 3] rfl)
noncomputable def f_X6_numberOfPrefixes_L14 (st : St) (r4 : Int32 → Int32 → Option Int32) : Nat → Int32 → Int32 → Int32 → Option Int32
  | 0, _, _, _ => none
  | fu + 1, x1, x2, x3 => if (st.1 5) ≤ x3 then lt (x2 + 1) fun w47 => r4 x1 w47 else if x3 = 0 then f_X6_numberOfPrefixes_J38 st r4 ((f_X6_numberOfPrefixes_L14 st r4 fu)) x1 x2 x3 else (f_X6_samePrefix st (x3 - 1) x3 x2).bind fun b32 => if b32 = 0 then f_X6_numberOfPrefixes_J38 st r4 ((f_X6_numberOfPrefixes_L14 st r4 fu)) x1 x2 x3 else f_X6_numberOfPrefixes_J41 st r4 ((f_X6_numberOfPrefixes_L14 st r4 fu)) x1 x2 x3
set_option maxRecDepth 100000 in
theorem f_X6_numberOfPrefixes_L14_w {st : St} {r4 : Int32 → Int32 → Option Int32} {res : Int32} (X : Cx V A cX6_numberOfPrefixes 4 RX6 p m c s args) (hr : meth.sig.returnType = (some .int)) (hlk : meth.locks = false) (hr4 : ∀ (x1 : Int32) (x2 : Int32) (H : Heap) (locs : List Loc) (ls : Array Slot), r4 x1 x2 = some res → (WdC V ad A) st H → va_S A s.heap H locs → lv_has ls 4 [(0, .ref (ad 2)), (1, .int x1), (2, .int x2)] → W p l e (rmF 1 24 0 0) s m args below meth c H locs 0 0 (MQ below (Qwi A (WdC V ad A) res st) args s 0 0 A) (F0 m 4 ls [])) : ∀ (n9 : Nat) (x1 : Int32) (x2 : Int32) (x3 : Int32) (H : Heap) (locs : List Loc) (ls : Array Slot), f_X6_numberOfPrefixes_L14 st r4 n9 x1 x2 x3 = some res → (WdC V ad A) st H → va_S A s.heap H locs → lv_has ls 4 [(0, .ref (ad 2)), (1, .int x1), (2, .int x2), (3, .int x3)] → W p l e (rmF 1 24 0 0) s m args below meth c H locs 0 0 (MQ below (Qwi A (WdC V ad A) res st) args s 0 0 A) (F0 m 14 ls []) := by
  intro n9
  induction n9 with
  | zero =>
    intro x1 x2 x3 H locs ls hf
    exact absurd hf (by unfold f_X6_numberOfPrefixes_L14; exact fun h => by cases h)
  | succ n9 hr14 =>
    intro x1 x2 x3 H locs ls hf hW hS hl
    
    unfold f_X6_numberOfPrefixes_L14 at hf
    refine lv_iload_n X.hx X.hb dX6_numberOfPrefixes_14 rfl (lv_at hl 3 rfl) ?_
    refine lv_aload_n X.hx X.hb dX6_numberOfPrefixes_15 rfl (lv_at hl 0 rfl) ?_
    refine gX6_size X hW dX6_numberOfPrefixes_16 ?_
    refine lv_icmp_ge (tgt := 47) X.hx X.hb dX6_numberOfPrefixes_19 (by decide) (fun c19 => ?_) (fun c19 => ?_)
    · replace hf := ite_t c19 hf
      obtain ⟨w47, e47, hf⟩ := lt_e hf
      refine lv_iinc (v := w47) (lv' := [(2, .int w47), (0, .ref (ad 2)), (1, .int x1), (3, .int x3)]) X.hx X.hb dX6_numberOfPrefixes_47 hl (k := 2) rfl (by rw [e47]; rfl) (by decide) rfl (fun ls hl => ?_)
      refine lv_goto (tgt := 4) X.hx X.hb dX6_numberOfPrefixes_50 (by decide) ?_
      exact hr4 _ _ _ _ _  hf hW hS (lv_sub hl [1, 2, 0] rfl)
    · replace hf := ite_f c19 hf
      refine lv_iload_n X.hx X.hb dX6_numberOfPrefixes_22 rfl (lv_at hl 3 rfl) ?_
      refine lv_if_eq (tgt := 38) X.hx X.hb dX6_numberOfPrefixes_23 (by decide) (fun c23 => ?_) (fun c23 => ?_)
      · replace hf := ite_t c23 hf
        exact f_X6_numberOfPrefixes_J38_w X hr hlk hr4 hr14 _ _ _ _ _ _  hf hW hS (lv_sub hl [0, 1, 2, 3] rfl)
      · replace hf := ite_f c23 hf
        refine lv_aload_n X.hx X.hb dX6_numberOfPrefixes_26 rfl (lv_at hl 0 rfl) ?_
        refine lv_iload_n X.hx X.hb dX6_numberOfPrefixes_27 rfl (lv_at hl 3 rfl) ?_
        refine lv_iconst (v := 1) X.hx X.hb dX6_numberOfPrefixes_28 (by decide) ?_
        refine lv_isub X.hx X.hb dX6_numberOfPrefixes_29 ?_
        refine lv_iload_n X.hx X.hb dX6_numberOfPrefixes_30 rfl (lv_at hl 3 rfl) ?_
        refine lv_iload_n X.hx X.hb dX6_numberOfPrefixes_31 rfl (lv_at hl 2 rfl) ?_
        obtain ⟨b32, h32, hf⟩ := bnd hf
        refine cl_i (run_V (As := [.int (x3 - 1), .int x3, .int x2]) (rest := []) X (w_X6_samePrefix l V A ad h32) mw_X6_samePrefix ln_X6_36 (rcX6 X hW) hW hS rfl hl.1 rfl (Nat.le_of_ble_eq_true rfl) ⟨Nat.le_of_ble_eq_true rfl, Nat.le_of_ble_eq_true rfl⟩ ⟨Nat.le_refl _, Nat.le_refl _⟩ dX6_numberOfPrefixes_32) hS (fun H locs hW hS => ?_)
        refine lv_if_ne (tgt := 41) X.hx X.hb dX6_numberOfPrefixes_35 (by decide) (fun c35 => ?_) (fun c35 => ?_)
        · replace hf := ite_f c35 hf
          exact f_X6_numberOfPrefixes_J41_w X hr hlk hr4 hr14 _ _ _ _ _ _  hf hW hS (lv_sub hl [0, 1, 2, 3] rfl)
        · replace hf := ite_t c35 hf
          exact f_X6_numberOfPrefixes_J38_w X hr hlk hr4 hr14 _ _ _ _ _ _  hf hW hS (lv_sub hl [0, 1, 2, 3] rfl)
noncomputable def f_X6_numberOfPrefixes_L4 (st : St) : Nat → Int32 → Int32 → Option Int32
  | 0, _, _ => none
  | fu + 1, x1, x2 => if (st.1 6) < x2 then some x1 else f_X6_numberOfPrefixes_L14 st ((f_X6_numberOfPrefixes_L4 st fu)) FU x1 x2 0
set_option maxRecDepth 100000 in
theorem f_X6_numberOfPrefixes_L4_w {st : St} {res : Int32} (X : Cx V A cX6_numberOfPrefixes 4 RX6 p m c s args) (hr : meth.sig.returnType = (some .int)) (hlk : meth.locks = false)  : ∀ (n9 : Nat) (x1 : Int32) (x2 : Int32) (H : Heap) (locs : List Loc) (ls : Array Slot), f_X6_numberOfPrefixes_L4 st n9 x1 x2 = some res → (WdC V ad A) st H → va_S A s.heap H locs → lv_has ls 4 [(0, .ref (ad 2)), (1, .int x1), (2, .int x2)] → W p l e (rmF 1 24 0 0) s m args below meth c H locs 0 0 (MQ below (Qwi A (WdC V ad A) res st) args s 0 0 A) (F0 m 4 ls []) := by
  intro n9
  induction n9 with
  | zero =>
    intro x1 x2 H locs ls hf
    exact absurd hf (by unfold f_X6_numberOfPrefixes_L4; exact fun h => by cases h)
  | succ n9 hr4 =>
    intro x1 x2 H locs ls hf hW hS hl
    
    unfold f_X6_numberOfPrefixes_L4 at hf
    refine lv_iload_n X.hx X.hb dX6_numberOfPrefixes_4 rfl (lv_at hl 2 rfl) ?_
    refine lv_aload_n X.hx X.hb dX6_numberOfPrefixes_5 rfl (lv_at hl 0 rfl) ?_
    refine gX6_length X hW dX6_numberOfPrefixes_6 ?_
    refine lv_icmp_gt (tgt := 53) X.hx X.hb dX6_numberOfPrefixes_9 (by decide) (fun c9 => ?_) (fun c9 => ?_)
    · replace hf := ite_t c9 hf
      refine lv_iload_n X.hx X.hb dX6_numberOfPrefixes_53 rfl (lv_at hl 1 rfl) ?_
      exact rt_i X hr hlk hW hS (Option.some.inj hf) (Nat.le_refl _) (Nat.le_refl _) dX6_numberOfPrefixes_54
    · replace hf := ite_f c9 hf
      refine lv_iconst (v := 0) X.hx X.hb dX6_numberOfPrefixes_12 (by decide) ?_
      refine lv_istore_n (lv' := [(3, .int 0), (0, .ref (ad 2)), (1, .int x1), (2, .int x2)]) X.hx X.hb dX6_numberOfPrefixes_13 rfl hl (by decide) rfl (fun ls hl => ?_)
      exact f_X6_numberOfPrefixes_L14_w X hr hlk hr4 FU _ _ _ _ _ _  hf hW hS (lv_sub hl [1, 2, 3, 0] rfl)
noncomputable def f_X6_numberOfPrefixes (st : St) : Option Int32 := f_X6_numberOfPrefixes_L4 st FU 0 0
set_option maxRecDepth 100000 in
theorem w_X6_numberOfPrefixes (l : Launch) (V : Ev) (A : Nat → Prop) (ad : Nat → Nat) {st : St} {res : Int32} (hf : f_X6_numberOfPrefixes st = some res) : Cn l yX6_numberOfPrefixes cX6_numberOfPrefixes 4 (some .int) 1 24 0 0 V A (WdC V ad A) st [.ref (ad 2)] (Qwi A (WdC V ad A) res st) := by
  refine cn_of RX6 (by decide) rfl (fun p e s m below meth c ls X hr hlk hW hS hl => ?_) (Nat.le_of_ble_eq_true rfl)
  have hl : lv_has ls 4 [(0, .ref (ad 2))] := hl
  unfold f_X6_numberOfPrefixes at hf
  refine lv_iconst (v := 0) X.hx X.hb dX6_numberOfPrefixes_0 (by decide) ?_
  refine lv_istore_n (lv' := [(1, .int 0), (0, .ref (ad 2))]) X.hx X.hb dX6_numberOfPrefixes_1 rfl hl (by decide) rfl (fun ls hl => ?_)
  refine lv_iconst (v := 0) X.hx X.hb dX6_numberOfPrefixes_2 (by decide) ?_
  refine lv_istore_n (lv' := [(2, .int 0), (1, .int 0), (0, .ref (ad 2))]) X.hx X.hb dX6_numberOfPrefixes_3 rfl hl (by decide) rfl (fun ls hl => ?_)
  exact f_X6_numberOfPrefixes_L4_w X hr hlk FU _ _ _ _ _  hf hW hS (lv_sub hl [2, 1, 0] rfl)
-- WordSquares$WordList.numberOfLetters
noncomputable def f_X6_numberOfLetters_L14 (st : St) (r4 : Int32 → Int32 → Option Int32) : Nat → Int32 → Int32 → Int32 → Option Int32
  | 0, _, _, _ => none
  | fu + 1, x1, x2, x3 => if (st.1 6) ≤ x3 then lt (x2 + 1) fun w39 => r4 x1 w39 else (f_X6_letterAt st x2 x3).bind fun b27 => lt (x1 ||| (1 <<< (b27 &&& 31))) fun w32 => lt (x3 + 1) fun w33 => (f_X6_numberOfLetters_L14 st r4 fu) w32 x2 w33
set_option maxRecDepth 100000 in
theorem f_X6_numberOfLetters_L14_w {st : St} {r4 : Int32 → Int32 → Option Int32} {res : Int32} (X : Cx V A cX6_numberOfLetters 4 RX6 p m c s args) (hr : meth.sig.returnType = (some .int)) (hlk : meth.locks = false) (hr4 : ∀ (x1 : Int32) (x2 : Int32) (H : Heap) (locs : List Loc) (ls : Array Slot), r4 x1 x2 = some res → (WdC V ad A) st H → va_S A s.heap H locs → lv_has ls 4 [(0, .ref (ad 2)), (1, .int x1), (2, .int x2)] → W p l e (rmF 1 22 0 0) s m args below meth c H locs 0 0 (MQ below (Qwi A (WdC V ad A) res st) args s 0 0 A) (F0 m 4 ls [])) : ∀ (n9 : Nat) (x1 : Int32) (x2 : Int32) (x3 : Int32) (H : Heap) (locs : List Loc) (ls : Array Slot), f_X6_numberOfLetters_L14 st r4 n9 x1 x2 x3 = some res → (WdC V ad A) st H → va_S A s.heap H locs → lv_has ls 4 [(0, .ref (ad 2)), (1, .int x1), (2, .int x2), (3, .int x3)] → W p l e (rmF 1 22 0 0) s m args below meth c H locs 0 0 (MQ below (Qwi A (WdC V ad A) res st) args s 0 0 A) (F0 m 14 ls []) := by
  intro n9
  induction n9 with
  | zero =>
    intro x1 x2 x3 H locs ls hf
    exact absurd hf (by unfold f_X6_numberOfLetters_L14; exact fun h => by cases h)
  | succ n9 hr14 =>
    intro x1 x2 x3 H locs ls hf hW hS hl
    
    unfold f_X6_numberOfLetters_L14 at hf
    refine lv_iload_n X.hx X.hb dX6_numberOfLetters_14 rfl (lv_at hl 3 rfl) ?_
    refine lv_aload_n X.hx X.hb dX6_numberOfLetters_15 rfl (lv_at hl 0 rfl) ?_
    refine gX6_length X hW dX6_numberOfLetters_16 ?_
    refine lv_icmp_ge (tgt := 39) X.hx X.hb dX6_numberOfLetters_19 (by decide) (fun c19 => ?_) (fun c19 => ?_)
    · replace hf := ite_t c19 hf
      obtain ⟨w39, e39, hf⟩ := lt_e hf
      refine lv_iinc (v := w39) (lv' := [(2, .int w39), (0, .ref (ad 2)), (1, .int x1), (3, .int x3)]) X.hx X.hb dX6_numberOfLetters_39 hl (k := 2) rfl (by rw [e39]; rfl) (by decide) rfl (fun ls hl => ?_)
      refine lv_goto (tgt := 4) X.hx X.hb dX6_numberOfLetters_42 (by decide) ?_
      exact hr4 _ _ _ _ _  hf hW hS (lv_sub hl [1, 2, 0] rfl)
    · replace hf := ite_f c19 hf
      refine lv_iload_n X.hx X.hb dX6_numberOfLetters_22 rfl (lv_at hl 1 rfl) ?_
      refine lv_iconst (v := 1) X.hx X.hb dX6_numberOfLetters_23 (by decide) ?_
      refine lv_aload_n X.hx X.hb dX6_numberOfLetters_24 rfl (lv_at hl 0 rfl) ?_
      refine lv_iload_n X.hx X.hb dX6_numberOfLetters_25 rfl (lv_at hl 2 rfl) ?_
      refine lv_iload_n X.hx X.hb dX6_numberOfLetters_26 rfl (lv_at hl 3 rfl) ?_
      obtain ⟨b27, h27, hf⟩ := bnd hf
      refine cl_i (run_V (As := [.int x2, .int x3]) (rest := [.int 1, .int x1]) X (w_X6_letterAt l V A ad h27) mw_X6_letterAt ln_X6_29 (rcX6 X hW) hW hS rfl hl.1 rfl (Nat.le_of_ble_eq_true rfl) ⟨Nat.le_of_ble_eq_true rfl, Nat.le_of_ble_eq_true rfl⟩ ⟨Nat.le_refl _, Nat.le_refl _⟩ dX6_numberOfLetters_27) hS (fun H locs hW hS => ?_)
      refine lv_ishl X.hx X.hb dX6_numberOfLetters_30 ?_
      refine lv_ior X.hx X.hb dX6_numberOfLetters_31 ?_
      obtain ⟨w32, e32, hf⟩ := lt_e hf
      refine lv_nm e32 ?_
      refine lv_istore_n (lv' := [(1, .int w32), (0, .ref (ad 2)), (2, .int x2), (3, .int x3)]) X.hx X.hb dX6_numberOfLetters_32 rfl hl (by decide) rfl (fun ls hl => ?_)
      obtain ⟨w33, e33, hf⟩ := lt_e hf
      refine lv_iinc (v := w33) (lv' := [(3, .int w33), (1, .int w32), (0, .ref (ad 2)), (2, .int x2)]) X.hx X.hb dX6_numberOfLetters_33 hl (k := 3) rfl (by rw [e33]; rfl) (by decide) rfl (fun ls hl => ?_)
      refine lv_goto (tgt := 14) X.hx X.hb dX6_numberOfLetters_36 (by decide) ?_
      exact hr14 _ _ _ _ _ _  hf hW hS (lv_sub hl [2, 1, 3, 0] rfl)
noncomputable def f_X6_numberOfLetters_L4 (st : St) : Nat → Int32 → Int32 → Option Int32
  | 0, _, _ => none
  | fu + 1, x1, x2 => if (st.1 5) ≤ x2 then (f_J6_bitCount_0f7a4 x1).bind fun b46 => some b46 else f_X6_numberOfLetters_L14 st ((f_X6_numberOfLetters_L4 st fu)) FU x1 x2 0
set_option maxRecDepth 100000 in
theorem f_X6_numberOfLetters_L4_w {st : St} {res : Int32} (X : Cx V A cX6_numberOfLetters 4 RX6 p m c s args) (hr : meth.sig.returnType = (some .int)) (hlk : meth.locks = false)  : ∀ (n9 : Nat) (x1 : Int32) (x2 : Int32) (H : Heap) (locs : List Loc) (ls : Array Slot), f_X6_numberOfLetters_L4 st n9 x1 x2 = some res → (WdC V ad A) st H → va_S A s.heap H locs → lv_has ls 4 [(0, .ref (ad 2)), (1, .int x1), (2, .int x2)] → W p l e (rmF 1 22 0 0) s m args below meth c H locs 0 0 (MQ below (Qwi A (WdC V ad A) res st) args s 0 0 A) (F0 m 4 ls []) := by
  intro n9
  induction n9 with
  | zero =>
    intro x1 x2 H locs ls hf
    exact absurd hf (by unfold f_X6_numberOfLetters_L4; exact fun h => by cases h)
  | succ n9 hr4 =>
    intro x1 x2 H locs ls hf hW hS hl
    
    unfold f_X6_numberOfLetters_L4 at hf
    refine lv_iload_n X.hx X.hb dX6_numberOfLetters_4 rfl (lv_at hl 2 rfl) ?_
    refine lv_aload_n X.hx X.hb dX6_numberOfLetters_5 rfl (lv_at hl 0 rfl) ?_
    refine gX6_size X hW dX6_numberOfLetters_6 ?_
    refine lv_icmp_ge (tgt := 45) X.hx X.hb dX6_numberOfLetters_9 (by decide) (fun c9 => ?_) (fun c9 => ?_)
    · replace hf := ite_t c9 hf
      refine lv_iload_n X.hx X.hb dX6_numberOfLetters_45 rfl (lv_at hl 1 rfl) ?_
      obtain ⟨b46, h46, hf⟩ := bnd hf
      refine cl_i (run_S (As := [.int x1]) (rest := []) X (w_J6_bitCount_0f7a4 l V A (WdC V ad A) st h46) mw_J6_bitCount_0f7a4 ln_X6_40 hW hS rfl hl.1 rfl (Nat.le_of_ble_eq_true rfl) ⟨Nat.le_of_ble_eq_true rfl, Nat.le_of_ble_eq_true rfl⟩ ⟨Nat.le_refl _, Nat.le_refl _⟩ dX6_numberOfLetters_46) hS (fun H locs hW hS => ?_)
      exact rt_i X hr hlk hW hS (Option.some.inj hf) (Nat.le_refl _) (Nat.le_refl _) dX6_numberOfLetters_49
    · replace hf := ite_f c9 hf
      refine lv_iconst (v := 0) X.hx X.hb dX6_numberOfLetters_12 (by decide) ?_
      refine lv_istore_n (lv' := [(3, .int 0), (0, .ref (ad 2)), (1, .int x1), (2, .int x2)]) X.hx X.hb dX6_numberOfLetters_13 rfl hl (by decide) rfl (fun ls hl => ?_)
      exact f_X6_numberOfLetters_L14_w X hr hlk hr4 FU _ _ _ _ _ _  hf hW hS (lv_sub hl [1, 2, 3, 0] rfl)
noncomputable def f_X6_numberOfLetters (st : St) : Option Int32 := f_X6_numberOfLetters_L4 st FU 0 0
set_option maxRecDepth 100000 in
theorem w_X6_numberOfLetters (l : Launch) (V : Ev) (A : Nat → Prop) (ad : Nat → Nat) {st : St} {res : Int32} (hf : f_X6_numberOfLetters st = some res) : Cn l yX6_numberOfLetters cX6_numberOfLetters 4 (some .int) 1 22 0 0 V A (WdC V ad A) st [.ref (ad 2)] (Qwi A (WdC V ad A) res st) := by
  refine cn_of RX6 (by decide) rfl (fun p e s m below meth c ls X hr hlk hW hS hl => ?_) (Nat.le_of_ble_eq_true rfl)
  have hl : lv_has ls 4 [(0, .ref (ad 2))] := hl
  unfold f_X6_numberOfLetters at hf
  refine lv_iconst (v := 0) X.hx X.hb dX6_numberOfLetters_0 (by decide) ?_
  refine lv_istore_n (lv' := [(1, .int 0), (0, .ref (ad 2))]) X.hx X.hb dX6_numberOfLetters_1 rfl hl (by decide) rfl (fun ls hl => ?_)
  refine lv_iconst (v := 0) X.hx X.hb dX6_numberOfLetters_2 (by decide) ?_
  refine lv_istore_n (lv' := [(2, .int 0), (1, .int 0), (0, .ref (ad 2))]) X.hx X.hb dX6_numberOfLetters_3 rfl hl (by decide) rfl (fun ls hl => ?_)
  exact f_X6_numberOfLetters_L4_w X hr hlk FU _ _ _ _ _  hf hW hS (lv_sub hl [2, 1, 0] rfl)
-- WordSquares$WordList.sumOfWeights
noncomputable def f_X6_sumOfWeights_L4 (st : St) : Nat → Int32 → Int32 → Option Int32
  | 0, _, _ => none
  | fu + 1, x1, x2 => if (st.1 5) ≤ x2 then some x1 else if inb x2 16 = true then lt (x1 + (st.2.1 13 x2.toNatClampNeg)) fun w20 => lt (x2 + 1) fun w21 => (f_X6_sumOfWeights_L4 st fu) w20 w21 else none
set_option maxRecDepth 100000 in
theorem f_X6_sumOfWeights_L4_w {st : St} {res : Int32} (X : Cx V A cX6_sumOfWeights 3 RX6 p m c s args) (hr : meth.sig.returnType = (some .int)) (hlk : meth.locks = false)  : ∀ (n9 : Nat) (x1 : Int32) (x2 : Int32) (H : Heap) (locs : List Loc) (ls : Array Slot), f_X6_sumOfWeights_L4 st n9 x1 x2 = some res → (WdC V ad A) st H → va_S A s.heap H locs → lv_has ls 3 [(0, .ref (ad 2)), (1, .int x1), (2, .int x2)] → W p l e (rmF 0 0 0 0) s m args below meth c H locs 0 0 (MQ below (Qwi A (WdC V ad A) res st) args s 0 0 A) (F0 m 4 ls []) := by
  intro n9
  induction n9 with
  | zero =>
    intro x1 x2 H locs ls hf
    exact absurd hf (by unfold f_X6_sumOfWeights_L4; exact fun h => by cases h)
  | succ n9 hr4 =>
    intro x1 x2 H locs ls hf hW hS hl
    
    unfold f_X6_sumOfWeights_L4 at hf
    refine lv_iload_n X.hx X.hb dX6_sumOfWeights_4 rfl (lv_at hl 2 rfl) ?_
    refine lv_aload_n X.hx X.hb dX6_sumOfWeights_5 rfl (lv_at hl 0 rfl) ?_
    refine gX6_size X hW dX6_sumOfWeights_6 ?_
    refine lv_icmp_ge (tgt := 27) X.hx X.hb dX6_sumOfWeights_9 (by decide) (fun c9 => ?_) (fun c9 => ?_)
    · replace hf := ite_t c9 hf
      refine lv_iload_n X.hx X.hb dX6_sumOfWeights_27 rfl (lv_at hl 1 rfl) ?_
      exact rt_i X hr hlk hW hS (Option.some.inj hf) (Nat.le_refl _) (Nat.le_refl _) dX6_sumOfWeights_28
    · replace hf := ite_f c9 hf
      refine lv_iload_n X.hx X.hb dX6_sumOfWeights_12 rfl (lv_at hl 1 rfl) ?_
      refine lv_aload_n X.hx X.hb dX6_sumOfWeights_13 rfl (lv_at hl 0 rfl) ?_
      refine gX6_weights X hW dX6_sumOfWeights_14 ?_
      refine lv_iload_n X.hx X.hb dX6_sumOfWeights_17 rfl (lv_at hl 2 rfl) ?_
      obtain ⟨h18, hf⟩ := ite_n hf
      refine aC_ld X hW isA_13 rfl h18 dX6_sumOfWeights_18 ?_
      refine lv_iadd X.hx X.hb dX6_sumOfWeights_19 ?_
      obtain ⟨w20, e20, hf⟩ := lt_e hf
      refine lv_nm e20 ?_
      refine lv_istore_n (lv' := [(1, .int w20), (0, .ref (ad 2)), (2, .int x2)]) X.hx X.hb dX6_sumOfWeights_20 rfl hl (by decide) rfl (fun ls hl => ?_)
      obtain ⟨w21, e21, hf⟩ := lt_e hf
      refine lv_iinc (v := w21) (lv' := [(2, .int w21), (1, .int w20), (0, .ref (ad 2))]) X.hx X.hb dX6_sumOfWeights_21 hl (k := 2) rfl (by rw [e21]; rfl) (by decide) rfl (fun ls hl => ?_)
      refine lv_goto (tgt := 4) X.hx X.hb dX6_sumOfWeights_24 (by decide) ?_
      exact hr4 _ _ _ _ _  hf hW hS (lv_sub hl [2, 1, 0] rfl)
noncomputable def f_X6_sumOfWeights (st : St) : Option Int32 := f_X6_sumOfWeights_L4 st FU 0 0
set_option maxRecDepth 100000 in
theorem w_X6_sumOfWeights (l : Launch) (V : Ev) (A : Nat → Prop) (ad : Nat → Nat) {st : St} {res : Int32} (hf : f_X6_sumOfWeights st = some res) : Cn l yX6_sumOfWeights cX6_sumOfWeights 3 (some .int) 0 0 0 0 V A (WdC V ad A) st [.ref (ad 2)] (Qwi A (WdC V ad A) res st) := by
  refine cn_of RX6 (by decide) rfl (fun p e s m below meth c ls X hr hlk hW hS hl => ?_) (Nat.le_of_ble_eq_true rfl)
  have hl : lv_has ls 3 [(0, .ref (ad 2))] := hl
  unfold f_X6_sumOfWeights at hf
  refine lv_iconst (v := 0) X.hx X.hb dX6_sumOfWeights_0 (by decide) ?_
  refine lv_istore_n (lv' := [(1, .int 0), (0, .ref (ad 2))]) X.hx X.hb dX6_sumOfWeights_1 rfl hl (by decide) rfl (fun ls hl => ?_)
  refine lv_iconst (v := 0) X.hx X.hb dX6_sumOfWeights_2 (by decide) ?_
  refine lv_istore_n (lv' := [(2, .int 0), (1, .int 0), (0, .ref (ad 2))]) X.hx X.hb dX6_sumOfWeights_3 rfl hl (by decide) rfl (fun ls hl => ?_)
  exact f_X6_sumOfWeights_L4_w X hr hlk FU _ _ _ _ _  hf hW hS (lv_sub hl [2, 1, 0] rfl)
-- WordSquares$WordList.numberOfReversible
noncomputable def f_X6_numberOfReversible_J28 (st : St) (r4 : Int32 → Int32 → Option Int32) (x1 : Int32) (x2 : Int32) : Option Int32 := lt (x2 + 1) fun w28 => r4 x1 w28
set_option maxRecDepth 100000 in
theorem f_X6_numberOfReversible_J28_w {st : St} {r4 : Int32 → Int32 → Option Int32} {res : Int32} (X : Cx V A cX6_numberOfReversible 3 RX6 p m c s args) (hr : meth.sig.returnType = (some .int)) (hlk : meth.locks = false) (hr4 : ∀ (x1 : Int32) (x2 : Int32) (H : Heap) (locs : List Loc) (ls : Array Slot), r4 x1 x2 = some res → (WdC V ad A) st H → va_S A s.heap H locs → lv_has ls 3 [(0, .ref (ad 2)), (1, .int x1), (2, .int x2)] → W p l e (rmF 2 45 0 0) s m args below meth c H locs 0 0 (MQ below (Qwi A (WdC V ad A) res st) args s 0 0 A) (F0 m 4 ls [])) (x1 : Int32) (x2 : Int32) (H : Heap) (locs : List Loc) (ls : Array Slot)  (hf : f_X6_numberOfReversible_J28 st r4 x1 x2 = some res) (hW : (WdC V ad A) st H) (hS : va_S A s.heap H locs) (hl : lv_has ls 3 [(0, .ref (ad 2)), (1, .int x1), (2, .int x2)]) : W p l e (rmF 2 45 0 0) s m args below meth c H locs 0 0 (MQ below (Qwi A (WdC V ad A) res st) args s 0 0 A) (F0 m 28 ls []) := by
  
  unfold f_X6_numberOfReversible_J28 at hf
  obtain ⟨w28, e28, hf⟩ := lt_e hf
  refine lv_iinc (v := w28) (lv' := [(2, .int w28), (0, .ref (ad 2)), (1, .int x1)]) X.hx X.hb dX6_numberOfReversible_28 hl (k := 2) rfl (by rw [e28]; rfl) (by decide) rfl (fun ls hl => ?_)
  refine lv_goto (tgt := 4) X.hx X.hb dX6_numberOfReversible_31 (by decide) ?_
  exact hr4 _ _ _ _ _  hf hW hS (lv_sub hl [1, 2, 0] rfl)
noncomputable def f_X6_numberOfReversible_L4 (st : St) : Nat → Int32 → Int32 → Option Int32
  | 0, _, _ => none
  | fu + 1, x1, x2 => if (st.1 5) ≤ x2 then some x1 else (f_X6_reversalOf st x2).bind fun b15 => (f_X6_find st b15).bind fun b18 => if b18 = (-1) then f_X6_numberOfReversible_J28 st ((f_X6_numberOfReversible_L4 st fu)) x1 x2 else lt (x1 + 1) fun w25 => f_X6_numberOfReversible_J28 st ((f_X6_numberOfReversible_L4 st fu)) w25 x2
set_option maxRecDepth 100000 in
theorem f_X6_numberOfReversible_L4_w {st : St} {res : Int32} (X : Cx V A cX6_numberOfReversible 3 RX6 p m c s args) (hr : meth.sig.returnType = (some .int)) (hlk : meth.locks = false)  : ∀ (n9 : Nat) (x1 : Int32) (x2 : Int32) (H : Heap) (locs : List Loc) (ls : Array Slot), f_X6_numberOfReversible_L4 st n9 x1 x2 = some res → (WdC V ad A) st H → va_S A s.heap H locs → lv_has ls 3 [(0, .ref (ad 2)), (1, .int x1), (2, .int x2)] → W p l e (rmF 2 45 0 0) s m args below meth c H locs 0 0 (MQ below (Qwi A (WdC V ad A) res st) args s 0 0 A) (F0 m 4 ls []) := by
  intro n9
  induction n9 with
  | zero =>
    intro x1 x2 H locs ls hf
    exact absurd hf (by unfold f_X6_numberOfReversible_L4; exact fun h => by cases h)
  | succ n9 hr4 =>
    intro x1 x2 H locs ls hf hW hS hl
    
    unfold f_X6_numberOfReversible_L4 at hf
    refine lv_iload_n X.hx X.hb dX6_numberOfReversible_4 rfl (lv_at hl 2 rfl) ?_
    refine lv_aload_n X.hx X.hb dX6_numberOfReversible_5 rfl (lv_at hl 0 rfl) ?_
    refine gX6_size X hW dX6_numberOfReversible_6 ?_
    refine lv_icmp_ge (tgt := 34) X.hx X.hb dX6_numberOfReversible_9 (by decide) (fun c9 => ?_) (fun c9 => ?_)
    · replace hf := ite_t c9 hf
      refine lv_iload_n X.hx X.hb dX6_numberOfReversible_34 rfl (lv_at hl 1 rfl) ?_
      exact rt_i X hr hlk hW hS (Option.some.inj hf) (Nat.le_refl _) (Nat.le_refl _) dX6_numberOfReversible_35
    · replace hf := ite_f c9 hf
      refine lv_aload_n X.hx X.hb dX6_numberOfReversible_12 rfl (lv_at hl 0 rfl) ?_
      refine lv_aload_n X.hx X.hb dX6_numberOfReversible_13 rfl (lv_at hl 0 rfl) ?_
      refine lv_iload_n X.hx X.hb dX6_numberOfReversible_14 rfl (lv_at hl 2 rfl) ?_
      obtain ⟨b15, h15, hf⟩ := bnd hf
      refine cl_i (run_V (As := [.int x2]) (rest := [.ref (ad 2)]) X (w_X6_reversalOf l V A ad h15) mw_X6_reversalOf ln_X6_46 (rcX6 X hW) hW hS rfl hl.1 rfl (Nat.le_of_ble_eq_true rfl) ⟨Nat.le_of_ble_eq_true rfl, Nat.le_of_ble_eq_true rfl⟩ ⟨Nat.le_refl _, Nat.le_refl _⟩ dX6_numberOfReversible_15) hS (fun H locs hW hS => ?_)
      obtain ⟨b18, h18, hf⟩ := bnd hf
      refine cl_i (run_V (As := [.int b15]) (rest := []) X (w_X6_find l V A ad h18) mw_X6_find ln_X6_49 (rcX6 X hW) hW hS rfl hl.1 rfl (Nat.le_of_ble_eq_true rfl) ⟨Nat.le_of_ble_eq_true rfl, Nat.le_of_ble_eq_true rfl⟩ ⟨Nat.le_refl _, Nat.le_refl _⟩ dX6_numberOfReversible_18) hS (fun H locs hW hS => ?_)
      refine lv_iconst (v := (-1)) X.hx X.hb dX6_numberOfReversible_21 (by decide) ?_
      refine lv_icmp_eq (tgt := 28) X.hx X.hb dX6_numberOfReversible_22 (by decide) (fun c22 => ?_) (fun c22 => ?_)
      · replace hf := ite_t c22 hf
        exact f_X6_numberOfReversible_J28_w X hr hlk hr4 _ _ _ _ _  hf hW hS (lv_sub hl [0, 1, 2] rfl)
      · replace hf := ite_f c22 hf
        obtain ⟨w25, e25, hf⟩ := lt_e hf
        refine lv_iinc (v := w25) (lv' := [(1, .int w25), (0, .ref (ad 2)), (2, .int x2)]) X.hx X.hb dX6_numberOfReversible_25 hl (k := 1) rfl (by rw [e25]; rfl) (by decide) rfl (fun ls hl => ?_)
        exact f_X6_numberOfReversible_J28_w X hr hlk hr4 _ _ _ _ _  hf hW hS (lv_sub hl [1, 0, 2] rfl)
noncomputable def f_X6_numberOfReversible (st : St) : Option Int32 := f_X6_numberOfReversible_L4 st FU 0 0
set_option maxRecDepth 100000 in
theorem w_X6_numberOfReversible (l : Launch) (V : Ev) (A : Nat → Prop) (ad : Nat → Nat) {st : St} {res : Int32} (hf : f_X6_numberOfReversible st = some res) : Cn l yX6_numberOfReversible cX6_numberOfReversible 3 (some .int) 2 45 0 0 V A (WdC V ad A) st [.ref (ad 2)] (Qwi A (WdC V ad A) res st) := by
  refine cn_of RX6 (by decide) rfl (fun p e s m below meth c ls X hr hlk hW hS hl => ?_) (Nat.le_of_ble_eq_true rfl)
  have hl : lv_has ls 3 [(0, .ref (ad 2))] := hl
  unfold f_X6_numberOfReversible at hf
  refine lv_iconst (v := 0) X.hx X.hb dX6_numberOfReversible_0 (by decide) ?_
  refine lv_istore_n (lv' := [(1, .int 0), (0, .ref (ad 2))]) X.hx X.hb dX6_numberOfReversible_1 rfl hl (by decide) rfl (fun ls hl => ?_)
  refine lv_iconst (v := 0) X.hx X.hb dX6_numberOfReversible_2 (by decide) ?_
  refine lv_istore_n (lv' := [(2, .int 0), (1, .int 0), (0, .ref (ad 2))]) X.hx X.hb dX6_numberOfReversible_3 rfl hl (by decide) rfl (fun ls hl => ?_)
  exact f_X6_numberOfReversible_L4_w X hr hlk FU _ _ _ _ _  hf hW hS (lv_sub hl [2, 1, 0] rfl)
-- WordSquares$WordList.commonLetter
noncomputable def f_X6_commonLetter_J48 (st : St) (r5 : Int32 → Int32 → Int32 → Int32 → Option Int32) (x1 : Int32) (x2 : Int32) (x3 : Int32) (x4 : Int32) : Option Int32 := lt (x4 + 1) fun w48 => r5 x1 x2 x3 w48
set_option maxRecDepth 100000 in
theorem f_X6_commonLetter_J48_w {st : St} {r5 : Int32 → Int32 → Int32 → Int32 → Option Int32} {res : Int32} (X : Cx V A cX6_commonLetter 6 RX6 p m c s args) (hr : meth.sig.returnType = (some .int)) (hlk : meth.locks = false) (hr5 : ∀ (x1 : Int32) (x2 : Int32) (x3 : Int32) (x4 : Int32) (H : Heap) (locs : List Loc) (ls : Array Slot), r5 x1 x2 x3 x4 = some res → (WdC V ad A) st H → va_S A s.heap H locs → lv_has ls 6 [(0, .ref (ad 2)), (1, .int x1), (2, .int x2), (3, .int x3), (4, .int x4)] → W p l e (rmF 1 22 0 0) s m args below meth c H locs 0 0 (MQ below (Qwi A (WdC V ad A) res st) args s 0 0 A) (F0 m 5 ls [])) (x1 : Int32) (x2 : Int32) (x3 : Int32) (x4 : Int32) (H : Heap) (locs : List Loc) (ls : Array Slot)  (hf : f_X6_commonLetter_J48 st r5 x1 x2 x3 x4 = some res) (hW : (WdC V ad A) st H) (hS : va_S A s.heap H locs) (hl : lv_has ls 6 [(0, .ref (ad 2)), (1, .int x1), (2, .int x2), (3, .int x3), (4, .int x4)]) : W p l e (rmF 1 22 0 0) s m args below meth c H locs 0 0 (MQ below (Qwi A (WdC V ad A) res st) args s 0 0 A) (F0 m 48 ls []) := by
  
  unfold f_X6_commonLetter_J48 at hf
  obtain ⟨w48, e48, hf⟩ := lt_e hf
  refine lv_iinc (v := w48) (lv' := [(4, .int w48), (0, .ref (ad 2)), (1, .int x1), (2, .int x2), (3, .int x3)]) X.hx X.hb dX6_commonLetter_48 hl (k := 4) rfl (by rw [e48]; rfl) (by decide) rfl (fun ls hl => ?_)
  refine lv_goto (tgt := 5) X.hx X.hb dX6_commonLetter_51 (by decide) ?_
  exact hr5 _ _ _ _ _ _ _  hf hW hS (lv_sub hl [1, 2, 3, 4, 0] rfl)
noncomputable def f_X6_commonLetter_J45 (st : St) (r5 : Int32 → Int32 → Int32 → Int32 → Option Int32) (x1 : Int32) (x2 : Int32) (x4 : Int32) (x5 : Int32) : Option Int32 := f_X6_commonLetter_J48 st r5 x1 x2 x5 x4
set_option maxRecDepth 100000 in
theorem f_X6_commonLetter_J45_w {st : St} {r5 : Int32 → Int32 → Int32 → Int32 → Option Int32} {res : Int32} (X : Cx V A cX6_commonLetter 6 RX6 p m c s args) (hr : meth.sig.returnType = (some .int)) (hlk : meth.locks = false) (hr5 : ∀ (x1 : Int32) (x2 : Int32) (x3 : Int32) (x4 : Int32) (H : Heap) (locs : List Loc) (ls : Array Slot), r5 x1 x2 x3 x4 = some res → (WdC V ad A) st H → va_S A s.heap H locs → lv_has ls 6 [(0, .ref (ad 2)), (1, .int x1), (2, .int x2), (3, .int x3), (4, .int x4)] → W p l e (rmF 1 22 0 0) s m args below meth c H locs 0 0 (MQ below (Qwi A (WdC V ad A) res st) args s 0 0 A) (F0 m 5 ls [])) (x1 : Int32) (x2 : Int32) (x4 : Int32) (x5 : Int32) (H : Heap) (locs : List Loc) (ls : Array Slot)  (hf : f_X6_commonLetter_J45 st r5 x1 x2 x4 x5 = some res) (hW : (WdC V ad A) st H) (hS : va_S A s.heap H locs) (hl : lv_has ls 6 [(0, .ref (ad 2)), (1, .int x1), (2, .int x2), (4, .int x4), (5, .int x5)]) : W p l e (rmF 1 22 0 0) s m args below meth c H locs 0 0 (MQ below (Qwi A (WdC V ad A) res st) args s 0 0 A) (F0 m 45 ls []) := by
  
  unfold f_X6_commonLetter_J45 at hf
  refine lv_iload X.hx X.hb dX6_commonLetter_45 (lv_at hl 4 rfl) ?_
  refine lv_istore_n (lv' := [(3, .int x5), (0, .ref (ad 2)), (1, .int x1), (2, .int x2), (4, .int x4), (5, .int x5)]) X.hx X.hb dX6_commonLetter_47 rfl hl (by decide) rfl (fun ls hl => ?_)
  exact f_X6_commonLetter_J48_w X hr hlk hr5 _ _ _ _ _ _ _  hf hW hS (lv_sub hl [1, 2, 3, 0, 4] rfl)
noncomputable def f_X6_commonLetter_L5 (st : St) : Nat → Int32 → Int32 → Int32 → Int32 → Option Int32
  | 0, _, _, _, _ => none
  | fu + 1, x1, x2, x3, x4 => if (st.1 5) ≤ x4 then some x3 else if ((x1 >>> (x4 &&& 31)) &&& 1) = 0 then f_X6_commonLetter_J48 st ((f_X6_commonLetter_L5 st fu)) x1 x2 x3 x4 else (f_X6_letterAt st x4 x2).bind fun b27 => if x3 = (-1) then f_X6_commonLetter_J45 st ((f_X6_commonLetter_L5 st fu)) x1 x2 x4 b27 else if b27 = x3 then f_X6_commonLetter_J45 st ((f_X6_commonLetter_L5 st fu)) x1 x2 x4 b27 else some (-1)
set_option maxRecDepth 100000 in
theorem f_X6_commonLetter_L5_w {st : St} {res : Int32} (X : Cx V A cX6_commonLetter 6 RX6 p m c s args) (hr : meth.sig.returnType = (some .int)) (hlk : meth.locks = false)  : ∀ (n9 : Nat) (x1 : Int32) (x2 : Int32) (x3 : Int32) (x4 : Int32) (H : Heap) (locs : List Loc) (ls : Array Slot), f_X6_commonLetter_L5 st n9 x1 x2 x3 x4 = some res → (WdC V ad A) st H → va_S A s.heap H locs → lv_has ls 6 [(0, .ref (ad 2)), (1, .int x1), (2, .int x2), (3, .int x3), (4, .int x4)] → W p l e (rmF 1 22 0 0) s m args below meth c H locs 0 0 (MQ below (Qwi A (WdC V ad A) res st) args s 0 0 A) (F0 m 5 ls []) := by
  intro n9
  induction n9 with
  | zero =>
    intro x1 x2 x3 x4 H locs ls hf
    exact absurd hf (by unfold f_X6_commonLetter_L5; exact fun h => by cases h)
  | succ n9 hr5 =>
    intro x1 x2 x3 x4 H locs ls hf hW hS hl
    
    unfold f_X6_commonLetter_L5 at hf
    refine lv_iload X.hx X.hb dX6_commonLetter_5 (lv_at hl 4 rfl) ?_
    refine lv_aload_n X.hx X.hb dX6_commonLetter_7 rfl (lv_at hl 0 rfl) ?_
    refine gX6_size X hW dX6_commonLetter_8 ?_
    refine lv_icmp_ge (tgt := 54) X.hx X.hb dX6_commonLetter_11 (by decide) (fun c11 => ?_) (fun c11 => ?_)
    · replace hf := ite_t c11 hf
      refine lv_iload_n X.hx X.hb dX6_commonLetter_54 rfl (lv_at hl 3 rfl) ?_
      exact rt_i X hr hlk hW hS (Option.some.inj hf) (Nat.le_refl _) (Nat.le_refl _) dX6_commonLetter_55
    · replace hf := ite_f c11 hf
      refine lv_iload_n X.hx X.hb dX6_commonLetter_14 rfl (lv_at hl 1 rfl) ?_
      refine lv_iload X.hx X.hb dX6_commonLetter_15 (lv_at hl 4 rfl) ?_
      refine lv_ishr X.hx X.hb dX6_commonLetter_17 ?_
      refine lv_iconst (v := 1) X.hx X.hb dX6_commonLetter_18 (by decide) ?_
      refine lv_iand X.hx X.hb dX6_commonLetter_19 ?_
      refine lv_if_eq (tgt := 48) X.hx X.hb dX6_commonLetter_20 (by decide) (fun c20 => ?_) (fun c20 => ?_)
      · replace hf := ite_t c20 hf
        exact f_X6_commonLetter_J48_w X hr hlk hr5 _ _ _ _ _ _ _  hf hW hS (lv_sub hl [0, 1, 2, 3, 4] rfl)
      · replace hf := ite_f c20 hf
        refine lv_aload_n X.hx X.hb dX6_commonLetter_23 rfl (lv_at hl 0 rfl) ?_
        refine lv_iload X.hx X.hb dX6_commonLetter_24 (lv_at hl 4 rfl) ?_
        refine lv_iload_n X.hx X.hb dX6_commonLetter_26 rfl (lv_at hl 2 rfl) ?_
        obtain ⟨b27, h27, hf⟩ := bnd hf
        refine cl_i (run_V (As := [.int x4, .int x2]) (rest := []) X (w_X6_letterAt l V A ad h27) mw_X6_letterAt ln_X6_29 (rcX6 X hW) hW hS rfl hl.1 rfl (Nat.le_of_ble_eq_true rfl) ⟨Nat.le_of_ble_eq_true rfl, Nat.le_of_ble_eq_true rfl⟩ ⟨Nat.le_refl _, Nat.le_refl _⟩ dX6_commonLetter_27) hS (fun H locs hW hS => ?_)
        refine lv_istore (lv' := [(5, .int b27), (0, .ref (ad 2)), (1, .int x1), (2, .int x2), (3, .int x3), (4, .int x4)]) X.hx X.hb dX6_commonLetter_30 hl (by decide) rfl (fun ls hl => ?_)
        refine lv_iload_n X.hx X.hb dX6_commonLetter_32 rfl (lv_at hl 4 rfl) ?_
        refine lv_iconst (v := (-1)) X.hx X.hb dX6_commonLetter_33 (by decide) ?_
        refine lv_icmp_eq (tgt := 45) X.hx X.hb dX6_commonLetter_34 (by decide) (fun c34 => ?_) (fun c34 => ?_)
        · replace hf := ite_t c34 hf
          exact f_X6_commonLetter_J45_w X hr hlk hr5 _ _ _ _ _ _ _  hf hW hS (lv_sub hl [1, 2, 3, 5, 0] rfl)
        · replace hf := ite_f c34 hf
          refine lv_iload X.hx X.hb dX6_commonLetter_37 (lv_at hl 0 rfl) ?_
          refine lv_iload_n X.hx X.hb dX6_commonLetter_39 rfl (lv_at hl 4 rfl) ?_
          refine lv_icmp_eq (tgt := 45) X.hx X.hb dX6_commonLetter_40 (by decide) (fun c40 => ?_) (fun c40 => ?_)
          · replace hf := ite_t c40 hf
            exact f_X6_commonLetter_J45_w X hr hlk hr5 _ _ _ _ _ _ _  hf hW hS (lv_sub hl [1, 2, 3, 5, 0] rfl)
          · replace hf := ite_f c40 hf
            refine lv_iconst (v := (-1)) X.hx X.hb dX6_commonLetter_43 (by decide) ?_
            exact rt_i X hr hlk hW hS (Option.some.inj hf) (Nat.le_refl _) (Nat.le_refl _) dX6_commonLetter_44
noncomputable def f_X6_commonLetter (st : St) (a1 : Int32) (a2 : Int32) : Option Int32 := f_X6_commonLetter_L5 st FU a1 a2 (-1) 0
set_option maxRecDepth 100000 in
theorem w_X6_commonLetter (l : Launch) (V : Ev) (A : Nat → Prop) (ad : Nat → Nat) {st : St} {a1 : Int32} {a2 : Int32} {res : Int32} (hf : f_X6_commonLetter st a1 a2 = some res) : Cn l yX6_commonLetter cX6_commonLetter 6 (some .int) 1 22 0 0 V A (WdC V ad A) st [.ref (ad 2), .int a1, .int a2] (Qwi A (WdC V ad A) res st) := by
  refine cn_of RX6 (by decide) rfl (fun p e s m below meth c ls X hr hlk hW hS hl => ?_) (Nat.le_of_ble_eq_true rfl)
  have hl : lv_has ls 6 [(0, .ref (ad 2)), (1, .int a1), (2, .int a2)] := hl
  unfold f_X6_commonLetter at hf
  refine lv_iconst (v := (-1)) X.hx X.hb dX6_commonLetter_0 (by decide) ?_
  refine lv_istore_n (lv' := [(3, .int (-1)), (0, .ref (ad 2)), (1, .int a1), (2, .int a2)]) X.hx X.hb dX6_commonLetter_1 rfl hl (by decide) rfl (fun ls hl => ?_)
  refine lv_iconst (v := 0) X.hx X.hb dX6_commonLetter_2 (by decide) ?_
  refine lv_istore (lv' := [(4, .int 0), (3, .int (-1)), (0, .ref (ad 2)), (1, .int a1), (2, .int a2)]) X.hx X.hb dX6_commonLetter_3 hl (by decide) rfl (fun ls hl => ?_)
  exact f_X6_commonLetter_L5_w X hr hlk FU _ _ _ _ _ _ _  hf hW hS (lv_sub hl [2, 3, 4, 1, 0] rfl)
-- WordSquares.isKind
noncomputable def f_X7_isKind_J13 : Option Int32 := some 0
set_option maxRecDepth 100000 in
theorem f_X7_isKind_J13_w {st : St} {res : Int32} (X : Cx V A cX7_isKind 1 RX7 p m c s args) (hr : meth.sig.returnType = (some .boolean)) (hlk : meth.locks = false)  (H : Heap) (locs : List Loc) (ls : Array Slot)  (hf : f_X7_isKind_J13  = some res) (hW : Wd st H) (hS : va_S A s.heap H locs) (hl : lv_has ls 1 []) : W p l e (rmF 0 0 0 0) s m args below meth c H locs 0 0 (MQ below (Qwi A Wd res st) args s 0 0 A) (F0 m 13 ls []) := by
  
  unfold f_X7_isKind_J13 at hf
  refine lv_iconst (v := 0) X.hx X.hb dX7_isKind_13 (by decide) ?_
  exact rt_z X hr hlk hW hS (Or.inl rfl) (Option.some.inj hf) (Nat.le_refl _) (Nat.le_refl _) dX7_isKind_14
noncomputable def f_X7_isKind (a0 : Int32) : Option Int32 := if a0 < 0 then f_X7_isKind_J13 else if 3 ≤ a0 then f_X7_isKind_J13 else some 1
set_option maxRecDepth 100000 in
theorem w_X7_isKind (l : Launch) (V : Ev) (A : Nat → Prop) (Wd : St → Heap → Prop) (st : St) {a0 : Int32} {res : Int32} (hf : f_X7_isKind a0 = some res) : Cn l yX7_isKind cX7_isKind 1 (some .boolean) 0 0 0 0 V A Wd st [.int a0] (Qwi A Wd res st) := by
  refine cn_of RX7 (by decide) rfl (fun p e s m below meth c ls X hr hlk hW hS hl => ?_) (Nat.le_of_ble_eq_true rfl)
  have hl : lv_has ls 1 [(0, .int a0)] := hl
  unfold f_X7_isKind at hf
  refine lv_iload_n X.hx X.hb dX7_isKind_0 rfl (lv_at hl 0 rfl) ?_
  refine lv_if_lt (tgt := 13) X.hx X.hb dX7_isKind_1 (by decide) (fun c1 => ?_) (fun c1 => ?_)
  · replace hf := ite_t c1 hf
    exact f_X7_isKind_J13_w X hr hlk  _ _ _  hf hW hS (lv_sub hl [] rfl)
  · replace hf := ite_f c1 hf
    refine lv_iload_n X.hx X.hb dX7_isKind_4 rfl (lv_at hl 0 rfl) ?_
    refine lv_iconst (v := 3) X.hx X.hb dX7_isKind_5 (by decide) ?_
    refine lv_icmp_ge (tgt := 13) X.hx X.hb dX7_isKind_6 (by decide) (fun c6 => ?_) (fun c6 => ?_)
    · replace hf := ite_t c6 hf
      exact f_X7_isKind_J13_w X hr hlk  _ _ _  hf hW hS (lv_sub hl [] rfl)
    · replace hf := ite_f c6 hf
      refine lv_iconst (v := 1) X.hx X.hb dX7_isKind_9 (by decide) ?_
      refine lv_goto (tgt := 14) X.hx X.hb dX7_isKind_10 (by decide) ?_
      exact rt_z X hr hlk hW hS (Or.inr rfl) (Option.some.inj hf) (Nat.le_refl _) (Nat.le_refl _) dX7_isKind_14
-- WordSquares.mix
noncomputable def f_X7_mix (a0 : Int64) (a2 : Int32) : Option Int64 := some ((31 * a0) + (Int32.toInt64 a2))
set_option maxRecDepth 100000 in
theorem w_X7_mix (l : Launch) (V : Ev) (A : Nat → Prop) (Wd : St → Heap → Prop) (st : St) {a0 : Int64} {a2 : Int32} {res : Int64} (hf : f_X7_mix a0 a2 = some res) : Cn l yX7_mix cX7_mix 3 (some .long) 0 0 0 0 V A Wd st [.long a0, .int a2] (Qwl A Wd res st) := by
  refine cn_of RX7 (by decide) rfl (fun p e s m below meth c ls X hr hlk hW hS hl => ?_) (Nat.le_of_ble_eq_true rfl)
  have hl : lv_has ls 3 [(0, .long a0), (2, .int a2)] := hl
  unfold f_X7_mix at hf
  refine lv_ldc2 (v := 31) X.hx X.hb X.ho (X.ts kn_X7_277) dX7_mix_0 ?_
  refine lv_lload_n X.hx X.hb dX7_mix_3 rfl (lv_at hl 0 rfl) ?_
  refine lv_lmul X.hx X.hb dX7_mix_4 ?_
  refine lv_iload_n X.hx X.hb dX7_mix_5 rfl (lv_at hl 1 rfl) ?_
  refine lv_i2l X.hx X.hb dX7_mix_6 rfl ?_
  refine lv_ladd X.hx X.hb dX7_mix_7 ?_
  exact rt_l X hr hlk hW hS (Option.some.inj hf) (Nat.le_refl _) (Nat.le_refl _) dX7_mix_8
end GW
