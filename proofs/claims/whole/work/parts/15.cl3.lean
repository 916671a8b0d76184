section GW
variable {p : Program} {l : Launch} {e : Env} {s : State} {m : MethodId} {args : Array Value} {below : List Frame} {meth : Method} {c : Code} {V : Ev} {A : Nat → Prop} {ad : Nat → Nat} {Wd : St → Heap → Prop}

-- WordSquares.letter
noncomputable def f_X7_letter_J12 (st : St) : Option (Int32 × St) := some ((-102), st)
theorem f_X7_letter_J12_l {res : (Int32 × St)} (st : St) (hf : f_X7_letter_J12 st = some res) : phi res.2 = phi st := by
  unfold f_X7_letter_J12 at hf
  have q9 := congrArg (fun z => phi z.2) (Option.some.inj hf)
  dsimp only at q9
  omega
set_option maxRecDepth 100000 in
theorem f_X7_letter_J12_w {res : (Int32 × St)} (X : Cx V A cX7_letter 2 RX7 p m c s args) (hr : meth.sig.returnType = (some .int)) (hlk : meth.locks = false)  (st : St) (H : Heap) (locs : List Loc) (ls : Array Slot)  (hf : f_X7_letter_J12 st = some res) (hW : (WdC V ad A) st H) (hS : va_S A s.heap H locs) (hl : lv_has ls 2 []) : W p l e (rmF 1 21 0 0) s m args below meth c H locs 0 0 (MQ below (Qwi A (WdC V ad A) res.1 res.2) args s 0 0 A) (F0 m 12 ls []) := by
  
  unfold f_X7_letter_J12 at hf
  refine lv_bipush (v := (-102)) X.hx X.hb dX7_letter_12 (by decide) ?_
  exact rt_i X hr hlk (by rw [← Option.some.inj hf]; exact hW) hS (by rw [← Option.some.inj hf]) (Nat.le_refl _) (Nat.le_refl _) dX7_letter_14
noncomputable def f_X7_letter (st : St) (a1 : Int32) : Option (Int32 × St) := if a1 < 32 then f_X7_letter_J12 st else if a1 ≤ 126 then (f_X5_size st).bind fun b19 => if b19 < 60 then (f_X5_append st a1).bind fun b35 => (f_X5_size b35).bind fun b42 => some (b42, b35) else some ((-104), st) else f_X7_letter_J12 st
theorem l_X7_letter {st : St} {a1 : Int32} {res : (Int32 × St)} (hf : f_X7_letter st a1 = some res) : phi res.2 = phi st := by
  unfold f_X7_letter at hf
  by_cases c3 : a1 < 32
  · replace hf := ite_t c3 hf
    have q9 := f_X7_letter_J12_l  _ hf
    omega
  · replace hf := ite_f c3 hf
    by_cases c9 : a1 ≤ 126
    · replace hf := ite_t c9 hf
      obtain ⟨b19, h19, hf⟩ := bnd hf
      by_cases c24 : b19 < 60
      · replace hf := ite_t c24 hf
        obtain ⟨b35, h35, hf⟩ := bnd hf
        have p35 := l_X5_append h35
        obtain ⟨b42, h42, hf⟩ := bnd hf
        have q9 := congrArg (fun z => phi z.2) (Option.some.inj hf)
        dsimp only at q9
        omega
      · replace hf := ite_f c24 hf
        have q9 := congrArg (fun z => phi z.2) (Option.some.inj hf)
        dsimp only at q9
        omega
    · replace hf := ite_f c9 hf
      have q9 := f_X7_letter_J12_l  _ hf
      omega
set_option maxRecDepth 100000 in
theorem w_X7_letter (l : Launch) (V : Ev) (A : Nat → Prop) (ad : Nat → Nat) {st : St} {a1 : Int32} {res : (Int32 × St)} (hf : f_X7_letter st a1 = some res) : Cn l yX7_letter cX7_letter 2 (some .int) 1 21 0 0 V A (WdC V ad A) st [.ref (ad 0), .int a1] (Qwi A (WdC V ad A) res.1 res.2) := by
  refine cn_of RX7 (by decide) rfl (fun p e s m below meth c ls X hr hlk hW hS hl => ?_) (Nat.le_of_ble_eq_true rfl)
  have hl : lv_has ls 2 [(0, .ref (ad 0)), (1, .int a1)] := hl
  unfold f_X7_letter at hf
  refine lv_iload_n X.hx X.hb dX7_letter_0 rfl (lv_at hl 1 rfl) ?_
  refine lv_bipush (v := 32) X.hx X.hb dX7_letter_1 (by decide) ?_
  refine lv_icmp_lt (tgt := 12) X.hx X.hb dX7_letter_3 (by decide) (fun c3 => ?_) (fun c3 => ?_)
  · replace hf := ite_t c3 hf
    exact f_X7_letter_J12_w X hr hlk _ _ _ _  hf hW hS (lv_sub hl [] rfl)
  · replace hf := ite_f c3 hf
    refine lv_iload_n X.hx X.hb dX7_letter_6 rfl (lv_at hl 1 rfl) ?_
    refine lv_bipush (v := 126) X.hx X.hb dX7_letter_7 (by decide) ?_
    refine lv_icmp_le (tgt := 15) X.hx X.hb dX7_letter_9 (by decide) (fun c9 => ?_) (fun c9 => ?_)
    · replace hf := ite_t c9 hf
      refine lv_aload_n X.hx X.hb dX7_letter_15 rfl (lv_at hl 0 rfl) ?_
      refine gX7_text X hW dX7_letter_16 ?_
      obtain ⟨b19, h19, hf⟩ := bnd hf
      refine cl_i (run_V (As := []) (rest := []) X (w_X5_size l V A ad h19) mw_X5_size ln_X7_57 (rcX5 X hW) hW hS rfl hl.1 rfl (Nat.le_of_ble_eq_true rfl) ⟨Nat.le_of_ble_eq_true rfl, Nat.le_of_ble_eq_true rfl⟩ ⟨Nat.le_refl _, Nat.le_refl _⟩ dX7_letter_19) hS (fun H locs hW hS => ?_)
      refine lv_bipush (v := 60) X.hx X.hb dX7_letter_22 (by decide) ?_
      refine lv_icmp_lt (tgt := 30) X.hx X.hb dX7_letter_24 (by decide) (fun c24 => ?_) (fun c24 => ?_)
      · replace hf := ite_t c24 hf
        refine lv_aload_n X.hx X.hb dX7_letter_30 rfl (lv_at hl 0 rfl) ?_
        refine gX7_text X hW dX7_letter_31 ?_
        refine lv_iload_n X.hx X.hb dX7_letter_34 rfl (lv_at hl 1 rfl) ?_
        obtain ⟨b35, h35, hf⟩ := bnd hf
        refine cl_v (run_V (As := [.int a1]) (rest := []) X (w_X5_append l V A ad h35) mw_X5_append ln_X7_61 (rcX5 X hW) hW hS rfl hl.1 rfl (Nat.le_of_ble_eq_true rfl) ⟨Nat.le_of_ble_eq_true rfl, Nat.le_of_ble_eq_true rfl⟩ ⟨Nat.le_refl _, Nat.le_refl _⟩ dX7_letter_35) hS (fun H locs hW hS => ?_)
        refine lv_aload_n X.hx X.hb dX7_letter_38 rfl (lv_at hl 0 rfl) ?_
        refine gX7_text X hW dX7_letter_39 ?_
        obtain ⟨b42, h42, hf⟩ := bnd hf
        refine cl_i (run_V (As := []) (rest := []) X (w_X5_size l V A ad h42) mw_X5_size ln_X7_57 (rcX5 X hW) hW hS rfl hl.1 rfl (Nat.le_of_ble_eq_true rfl) ⟨Nat.le_of_ble_eq_true rfl, Nat.le_of_ble_eq_true rfl⟩ ⟨Nat.le_refl _, Nat.le_refl _⟩ dX7_letter_42) hS (fun H locs hW hS => ?_)
        exact rt_i X hr hlk (by rw [← Option.some.inj hf]; exact hW) hS (by rw [← Option.some.inj hf]) (Nat.le_refl _) (Nat.le_refl _) dX7_letter_45
      · replace hf := ite_f c24 hf
        refine lv_bipush (v := (-104)) X.hx X.hb dX7_letter_27 (by decide) ?_
        exact rt_i X hr hlk (by rw [← Option.some.inj hf]; exact hW) hS (by rw [← Option.some.inj hf]) (Nat.le_refl _) (Nat.le_refl _) dX7_letter_29
    · replace hf := ite_f c9 hf
      exact f_X7_letter_J12_w X hr hlk _ _ _ _  hf hW hS (lv_sub hl [] rfl)
-- WordSquares.blank
noncomputable def f_X7_blank (st : St) : Option (Int32 × St) := (f_X5_size st).bind fun b4 => (f_X5_clear st).bind fun b12 => some (b4, b12)
theorem l_X7_blank {st : St} {res : (Int32 × St)} (hf : f_X7_blank st = some res) : phi res.2 = phi st := by
  unfold f_X7_blank at hf
  obtain ⟨b4, h4, hf⟩ := bnd hf
  obtain ⟨b12, h12, hf⟩ := bnd hf
  have p12 := l_X5_clear h12
  have q9 := congrArg (fun z => phi z.2) (Option.some.inj hf)
  dsimp only at q9
  omega
set_option maxRecDepth 100000 in
theorem w_X7_blank (l : Launch) (V : Ev) (A : Nat → Prop) (ad : Nat → Nat) {st : St} {res : (Int32 × St)} (hf : f_X7_blank st = some res) : Cn l yX7_blank cX7_blank 2 (some .int) 1 20 0 0 V A (WdC V ad A) st [.ref (ad 0)] (Qwi A (WdC V ad A) res.1 res.2) := by
  refine cn_of RX7 (by decide) rfl (fun p e s m below meth c ls X hr hlk hW hS hl => ?_) (Nat.le_of_ble_eq_true rfl)
  have hl : lv_has ls 2 [(0, .ref (ad 0))] := hl
  unfold f_X7_blank at hf
  refine lv_aload_n X.hx X.hb dX7_blank_0 rfl (lv_at hl 0 rfl) ?_
  refine gX7_text X hW dX7_blank_1 ?_
  obtain ⟨b4, h4, hf⟩ := bnd hf
  refine cl_i (run_V (As := []) (rest := []) X (w_X5_size l V A ad h4) mw_X5_size ln_X7_57 (rcX5 X hW) hW hS rfl hl.1 rfl (Nat.le_of_ble_eq_true rfl) ⟨Nat.le_of_ble_eq_true rfl, Nat.le_of_ble_eq_true rfl⟩ ⟨Nat.le_refl _, Nat.le_refl _⟩ dX7_blank_4) hS (fun H locs hW hS => ?_)
  refine lv_istore_n (lv' := [(1, .int b4), (0, .ref (ad 0))]) X.hx X.hb dX7_blank_7 rfl hl (by decide) rfl (fun ls hl => ?_)
  refine lv_aload_n X.hx X.hb dX7_blank_8 rfl (lv_at hl 1 rfl) ?_
  refine gX7_text X hW dX7_blank_9 ?_
  obtain ⟨b12, h12, hf⟩ := bnd hf
  refine cl_v (run_V (As := []) (rest := []) X (w_X5_clear l V A ad h12) mw_X5_clear ln_X7_65 (rcX5 X hW) hW hS rfl hl.1 rfl (Nat.le_of_ble_eq_true rfl) ⟨Nat.le_of_ble_eq_true rfl, Nat.le_of_ble_eq_true rfl⟩ ⟨Nat.le_refl _, Nat.le_refl _⟩ dX7_blank_12) hS (fun H locs hW hS => ?_)
  refine lv_iload_n X.hx X.hb dX7_blank_15 rfl (lv_at hl 0 rfl) ?_
  exact rt_i X hr hlk (by rw [← Option.some.inj hf]; exact hW) hS (by rw [← Option.some.inj hf]) (Nat.le_refl _) (Nat.le_refl _) dX7_blank_16
-- WordSquares.fault
noncomputable def f_X7_fault (st : St) : Option Int32 := (f_X5_firstFault st).bind fun b4 => some b4
set_option maxRecDepth 100000 in
theorem w_X7_fault (l : Launch) (V : Ev) (A : Nat → Prop) (ad : Nat → Nat) {st : St} {res : Int32} (hf : f_X7_fault st = some res) : Cn l yX7_fault cX7_fault 1 (some .int) 4 94 0 0 V A (WdC V ad A) st [.ref (ad 0)] (Qwi A (WdC V ad A) res st) := by
  refine cn_of RX7 (by decide) rfl (fun p e s m below meth c ls X hr hlk hW hS hl => ?_) (Nat.le_of_ble_eq_true rfl)
  have hl : lv_has ls 1 [(0, .ref (ad 0))] := hl
  unfold f_X7_fault at hf
  refine lv_aload_n X.hx X.hb dX7_fault_0 rfl (lv_at hl 0 rfl) ?_
  refine gX7_text X hW dX7_fault_1 ?_
  obtain ⟨b4, h4, hf⟩ := bnd hf
  refine cl_i (run_V (As := []) (rest := []) X (w_X5_firstFault l V A ad h4) mw_X5_firstFault ln_X7_68 (rcX5 X hW) hW hS rfl hl.1 rfl (Nat.le_of_ble_eq_true rfl) ⟨Nat.le_of_ble_eq_true rfl, Nat.le_of_ble_eq_true rfl⟩ ⟨Nat.le_refl _, Nat.le_refl _⟩ dX7_fault_4) hS (fun H locs hW hS => ?_)
  exact rt_i X hr hlk hW hS (Option.some.inj hf) (Nat.le_refl _) (Nat.le_refl _) dX7_fault_7
-- WordSquares.renew
noncomputable def f_X7_renew_J7 (st : St) : Option St := (f_X0_clear st).bind fun b11 => lt (sI b11 0 0) fun s16 => lt (sI s16 1 0) fun s21 => some s21
theorem f_X7_renew_J7_l {res : St} (st : St) (hf : f_X7_renew_J7 st = some res) : phi st ≤ phi res := by
  unfold f_X7_renew_J7 at hf
  obtain ⟨b11, h11, hf⟩ := bnd hf
  have p11 := l_X0_clear h11
  obtain ⟨s16, e16, hf⟩ := lt_e hf
  have p16 : phi s16 = phi b11 := by rw [e16]; rfl
  obtain ⟨s21, e21, hf⟩ := lt_e hf
  have p21 : phi s21 = phi s16 := by rw [e21]; rfl
  have q9 := congrArg phi (Option.some.inj hf)
  omega
set_option maxRecDepth 100000 in
theorem f_X7_renew_J7_w {s0 : St} {res : St} (X : Cx V A cX7_renew 1 RX7 p m c s args) (hr : meth.sig.returnType = none) (hlk : meth.locks = false)  (st : St) (H : Heap) (locs : List Loc) (ls : Array Slot)  (hf : f_X7_renew_J7 st = some res) (hW : (WdC V ad A) st H) (hS : va_S A s.heap H locs) (hl : lv_has ls 1 [(0, .ref (ad 0))]) (h0 : phi s0 ≤ phi st) : W p l e (rmF 13 333 (dc s0 res) (ds s0 res)) s m args below meth c H locs (dc s0 st) (ds s0 st) (MQ below (Qwv A (WdC V ad A) res) args s (dc s0 res) (ds s0 res) A) (F0 m 7 ls []) := by
  have hm := f_X7_renew_J7_l  _ hf
  unfold f_X7_renew_J7 at hf
  refine lv_aload_n X.hx X.hb dX7_renew_7 rfl (lv_at hl 0 rfl) ?_
  refine gX7_table X hW dX7_renew_8 ?_
  obtain ⟨b11, h11, hf⟩ := bnd hf
  have p11 := l_X0_clear h11
  refine cl_v (run_V (As := []) (rest := []) X (w_X0_clear l V A ad h11) mw_X0_clear ln_X7_282 (rcX0 X hW) hW hS rfl hl.1 rfl (Nat.le_of_ble_eq_true rfl) ⟨Nat.le_of_ble_eq_true rfl, Nat.le_of_ble_eq_true rfl⟩ ⟨by simp only [dc, ds, rmF]; omega, by simp only [dc, ds, rmF]; omega⟩ dX7_renew_11) hS (fun H locs hW hS => ?_)
  refine W.widen (k := dc s0 b11) (n := ds s0 b11) (by simp only [dc, ds]; omega) (by simp only [dc, ds]; omega) ?_
  refine lv_aload_n X.hx X.hb dX7_renew_14 rfl (lv_at hl 0 rfl) ?_
  refine lv_iconst (v := 0) X.hx X.hb dX7_renew_15 (by decide) ?_
  obtain ⟨s16, e16, hf⟩ := lt_e hf
  refine pX7_compared X hW hS (Or.inl rfl) dX7_renew_16 (fun H locs hW hS => ?_)
  rw [← e16] at hW
  have p16 : phi s16 = phi b11 := by rw [e16]; rfl
  refine W.widen (k := dc s0 s16) (n := ds s0 s16) (by simp only [dc, ds]; omega) (by simp only [dc, ds]; omega) ?_
  refine lv_aload_n X.hx X.hb dX7_renew_19 rfl (lv_at hl 0 rfl) ?_
  refine lv_iconst (v := 0) X.hx X.hb dX7_renew_20 (by decide) ?_
  obtain ⟨s21, e21, hf⟩ := lt_e hf
  refine pX7_looked X hW hS (Or.inl rfl) dX7_renew_21 (fun H locs hW hS => ?_)
  rw [← e21] at hW
  have p21 : phi s21 = phi s16 := by rw [e21]; rfl
  refine W.widen (k := dc s0 s21) (n := ds s0 s21) (by simp only [dc, ds]; omega) (by simp only [dc, ds]; omega) ?_
  exact rt_v X hr hlk (by rw [← Option.some.inj hf]; exact hW) hS (by rw [← Option.some.inj hf]; exact Nat.le_refl _) (by rw [← Option.some.inj hf]; exact Nat.le_refl _) dX7_renew_24
noncomputable def f_X7_renew (st : St) : Option St := (f_X2_run st).bind fun b4 => f_X7_renew_J7 b4
theorem l_X7_renew {st : St} {res : St} (hf : f_X7_renew st = some res) : phi st ≤ phi res := by
  unfold f_X7_renew at hf
  obtain ⟨b4, h4, hf⟩ := bnd hf
  have p4 := l_X2_run h4
  have q9 := f_X7_renew_J7_l  _ hf
  omega
set_option maxRecDepth 100000 in
theorem w_X7_renew (l : Launch) (V : Ev) (A : Nat → Prop) (ad : Nat → Nat) {st : St} {res : St} (hf : f_X7_renew st = some res) : Cn l yX7_renew cX7_renew 1 none 13 333 (dc st res) (ds st res) V A (WdC V ad A) st [.ref (ad 0)] (Qwv A (WdC V ad A) res) := by
  refine cn_of RX7 (by decide) rfl (fun p e s m below meth c ls X hr hlk hW hS hl => ?_) (Nat.le_of_ble_eq_true rfl)
  have hl : lv_has ls 1 [(0, .ref (ad 0))] := hl
  have hm := l_X7_renew hf
  obtain ⟨s0, e0⟩ : ∃ z, z = st := ⟨_, rfl⟩
  refine W.widen (k := dc s0 st) (n := ds s0 st) (Nat.zero_le _) (Nat.zero_le _) ?_
  have h0 : phi s0 ≤ phi st := by rw [e0]; exact Nat.le_refl _
  have e1 : dc st res = dc s0 res := by rw [e0]
  have e2 : ds st res = ds s0 res := by rw [e0]
  rw [e1, e2]
  unfold f_X7_renew at hf
  refine lv_aload_n X.hx X.hb dX7_renew_0 rfl (lv_at hl 0 rfl) ?_
  refine gX7_finder X hW dX7_renew_1 ?_
  obtain ⟨b4, h4, hf⟩ := bnd hf
  have q9 := f_X7_renew_J7_l  _ hf
  have p4 := l_X2_run h4
  refine cl_v (run_V (As := []) (rest := []) X (w_X2_run l V A ad h4) mw_X2_run ln_X7_279 (rcX2 X hW) hW hS rfl hl.1 rfl (Nat.le_of_ble_eq_true rfl) ⟨Nat.le_of_ble_eq_true rfl, Nat.le_of_ble_eq_true rfl⟩ ⟨by simp only [dc, ds, rmF]; omega, by simp only [dc, ds, rmF]; omega⟩ dX7_renew_4) hS (fun H locs hW hS => ?_)
  refine W.widen (k := dc s0 b4) (n := ds s0 b4) (by simp only [dc, ds]; omega) (by simp only [dc, ds]; omega) ?_
  exact f_X7_renew_J7_w X hr hlk _ _ _ _  hf hW hS (lv_sub hl [0] rfl) (by omega)
-- WordSquares.words
noncomputable def f_X7_words_J23 (st : St) : Option (Int32 × St) := some ((-103), st)
theorem f_X7_words_J23_l {res : (Int32 × St)} (st : St) (hf : f_X7_words_J23 st = some res) : phi st ≤ phi res.2 := by
  unfold f_X7_words_J23 at hf
  have q9 := congrArg (fun z => phi z.2) (Option.some.inj hf)
  dsimp only at q9
  omega
set_option maxRecDepth 100000 in
theorem f_X7_words_J23_w {s0 : St} {res : (Int32 × St)} (X : Cx V A cX7_words 4 RX7 p m c s args) (hr : meth.sig.returnType = (some .int)) (hlk : meth.locks = false)  (st : St) (H : Heap) (locs : List Loc) (ls : Array Slot)  (hf : f_X7_words_J23 st = some res) (hW : (WdC V ad A) st H) (hS : va_S A s.heap H locs) (hl : lv_has ls 4 []) (h0 : phi s0 ≤ phi st) : W p l e (rmF 14 353 (dc s0 res.2) (ds s0 res.2)) s m args below meth c H locs (dc s0 st) (ds s0 st) (MQ below (Qwi A (WdC V ad A) res.1 res.2) args s (dc s0 res.2) (ds s0 res.2) A) (F0 m 23 ls []) := by
  have hm := f_X7_words_J23_l  _ hf
  unfold f_X7_words_J23 at hf
  refine lv_bipush (v := (-103)) X.hx X.hb dX7_words_23 (by decide) ?_
  exact rt_i X hr hlk (by rw [← Option.some.inj hf]; exact hW) hS (by rw [← Option.some.inj hf]) (by rw [← Option.some.inj hf]; exact Nat.le_refl _) (by rw [← Option.some.inj hf]; exact Nat.le_refl _) dX7_words_25
noncomputable def f_X7_words_J139 (st : St) (x2 : Int32) : Option (Int32 × St) := some (x2, st)
theorem f_X7_words_J139_l {res : (Int32 × St)} (st : St) (x2 : Int32) (hf : f_X7_words_J139 st x2 = some res) : phi st ≤ phi res.2 := by
  unfold f_X7_words_J139 at hf
  have q9 := congrArg (fun z => phi z.2) (Option.some.inj hf)
  dsimp only at q9
  omega
set_option maxRecDepth 100000 in
theorem f_X7_words_J139_w {s0 : St} {res : (Int32 × St)} (X : Cx V A cX7_words 4 RX7 p m c s args) (hr : meth.sig.returnType = (some .int)) (hlk : meth.locks = false)  (st : St) (x2 : Int32) (H : Heap) (locs : List Loc) (ls : Array Slot)  (hf : f_X7_words_J139 st x2 = some res) (hW : (WdC V ad A) st H) (hS : va_S A s.heap H locs) (hl : lv_has ls 4 [(2, .int x2)]) (h0 : phi s0 ≤ phi st) : W p l e (rmF 14 353 (dc s0 res.2) (ds s0 res.2)) s m args below meth c H locs (dc s0 st) (ds s0 st) (MQ below (Qwi A (WdC V ad A) res.1 res.2) args s (dc s0 res.2) (ds s0 res.2) A) (F0 m 139 ls []) := by
  have hm := f_X7_words_J139_l  _ _ hf
  unfold f_X7_words_J139 at hf
  refine lv_iload_n X.hx X.hb dX7_words_139 rfl (lv_at hl 0 rfl) ?_
  exact rt_i X hr hlk (by rw [← Option.some.inj hf]; exact hW) hS (by rw [← Option.some.inj hf]) (by rw [← Option.some.inj hf]; exact Nat.le_refl _) (by rw [← Option.some.inj hf]; exact Nat.le_refl _) dX7_words_140
noncomputable def f_X7_words_L90 : Nat → St → Int32 → Int32 → Int32 → Option (Int32 × St)
  | 0, _, _, _, _ => none
  | fu + 1, st, x1, x2, x3 => if x2 ≤ x3 then (f_X5_clear st).bind fun b122 => lt (sI b122 2 ((b122.1 2) + 1)) fun s132 => (f_X7_renew s132).bind fun b136 => f_X7_words_J139 b136 x2 else (f_X5_codeOf st x3 x1).bind fun b105 => (f_X6_insert st b105 x1).bind fun b109 => lt (x3 + 1) fun w112 => (f_X7_words_L90 fu) b109 x1 x2 w112
theorem f_X7_words_L90_l {res : (Int32 × St)} : ∀ (n9 : Nat) (st : St) (x1 : Int32) (x2 : Int32) (x3 : Int32), f_X7_words_L90 n9 st x1 x2 x3 = some res → phi st ≤ phi res.2 := by
  intro n9
  induction n9 with
  | zero =>
    intro st x1 x2 x3 hf
    exact absurd hf (by unfold f_X7_words_L90; exact fun h => by cases h)
  | succ n9 hq90 =>
    intro st x1 x2 x3 hf
    unfold f_X7_words_L90 at hf
    by_cases c92 : x2 ≤ x3
    · replace hf := ite_t c92 hf
      obtain ⟨b122, h122, hf⟩ := bnd hf
      have p122 := l_X5_clear h122
      obtain ⟨s132, e132, hf⟩ := lt_e hf
      have p132 : phi s132 = phi b122 := by rw [e132]; rfl
      obtain ⟨b136, h136, hf⟩ := bnd hf
      have p136 := l_X7_renew h136
      have q9 := f_X7_words_J139_l  _ _ hf
      omega
    · replace hf := ite_f c92 hf
      obtain ⟨b105, h105, hf⟩ := bnd hf
      obtain ⟨b109, h109, hf⟩ := bnd hf
      have p109 := l_X6_insert h109
      obtain ⟨w112, e112, hf⟩ := lt_e hf
      have q9 := hq90 _ _ _ _ hf
      omega
set_option maxRecDepth 100000 in
theorem f_X7_words_L90_w {s0 : St} {res : (Int32 × St)} (X : Cx V A cX7_words 4 RX7 p m c s args) (hr : meth.sig.returnType = (some .int)) (hlk : meth.locks = false)  : ∀ (n9 : Nat) (st : St) (x1 : Int32) (x2 : Int32) (x3 : Int32) (H : Heap) (locs : List Loc) (ls : Array Slot), f_X7_words_L90 n9 st x1 x2 x3 = some res → (WdC V ad A) st H → va_S A s.heap H locs → lv_has ls 4 [(0, .ref (ad 0)), (1, .int x1), (2, .int x2), (3, .int x3)] → phi s0 ≤ phi st → W p l e (rmF 14 353 (dc s0 res.2) (ds s0 res.2)) s m args below meth c H locs (dc s0 st) (ds s0 st) (MQ below (Qwi A (WdC V ad A) res.1 res.2) args s (dc s0 res.2) (ds s0 res.2) A) (F0 m 90 ls []) := by
  intro n9
  induction n9 with
  | zero =>
    intro st x1 x2 x3 H locs ls hf
    exact absurd hf (by unfold f_X7_words_L90; exact fun h => by cases h)
  | succ n9 hr90 =>
    have hq90 := f_X7_words_L90_l (res := res)  n9
    intro st x1 x2 x3 H locs ls hf hW hS hl h0
    have hm := f_X7_words_L90_l  _ _ _ _ _ hf
    unfold f_X7_words_L90 at hf
    refine lv_iload_n X.hx X.hb dX7_words_90 rfl (lv_at hl 3 rfl) ?_
    refine lv_iload_n X.hx X.hb dX7_words_91 rfl (lv_at hl 2 rfl) ?_
    refine lv_icmp_ge (tgt := 118) X.hx X.hb dX7_words_92 (by decide) (fun c92 => ?_) (fun c92 => ?_)
    · replace hf := ite_t c92 hf
      refine lv_aload_n X.hx X.hb dX7_words_118 rfl (lv_at hl 0 rfl) ?_
      refine gX7_text X hW dX7_words_119 ?_
      obtain ⟨b122, h122, hf⟩ := bnd hf
      have p122 := l_X5_clear h122
      refine cl_v (run_V (As := []) (rest := []) X (w_X5_clear l V A ad h122) mw_X5_clear ln_X7_65 (rcX5 X hW) hW hS rfl hl.1 rfl (Nat.le_of_ble_eq_true rfl) ⟨Nat.le_of_ble_eq_true rfl, Nat.le_of_ble_eq_true rfl⟩ ⟨by simp only [dc, ds, rmF]; omega, by simp only [dc, ds, rmF]; omega⟩ dX7_words_122) hS (fun H locs hW hS => ?_)
      refine W.widen (k := dc s0 b122) (n := ds s0 b122) (by simp only [dc, ds]; omega) (by simp only [dc, ds]; omega) ?_
      refine lv_aload_n X.hx X.hb dX7_words_125 rfl (lv_at hl 0 rfl) ?_
      refine lv_dup X.hx X.hb dX7_words_126 rfl ?_
      refine gX7_additions X hW dX7_words_127 ?_
      refine lv_iconst (v := 1) X.hx X.hb dX7_words_130 (by decide) ?_
      refine lv_iadd X.hx X.hb dX7_words_131 ?_
      obtain ⟨s132, e132, hf⟩ := lt_e hf
      refine pX7_additions X hW hS dX7_words_132 (fun H locs hW hS => ?_)
      rw [← e132] at hW
      have p132 : phi s132 = phi b122 := by rw [e132]; rfl
      refine W.widen (k := dc s0 s132) (n := ds s0 s132) (by simp only [dc, ds]; omega) (by simp only [dc, ds]; omega) ?_
      refine lv_aload_n X.hx X.hb dX7_words_135 rfl (lv_at hl 0 rfl) ?_
      obtain ⟨b136, h136, hf⟩ := bnd hf
      have q9 := f_X7_words_J139_l  _ _ hf
      have p136 := l_X7_renew h136
      refine cl_v (run_V (As := []) (rest := []) X (w_X7_renew l V A ad h136) mw_X7_renew ln_X7_94 (rcX7 X hW) hW hS rfl hl.1 rfl (Nat.le_of_ble_eq_true rfl) ⟨Nat.le_of_ble_eq_true rfl, Nat.le_of_ble_eq_true rfl⟩ ⟨by simp only [dc, ds, rmF]; omega, by simp only [dc, ds, rmF]; omega⟩ dX7_words_136) hS (fun H locs hW hS => ?_)
      refine W.widen (k := dc s0 b136) (n := ds s0 b136) (by simp only [dc, ds]; omega) (by simp only [dc, ds]; omega) ?_
      exact f_X7_words_J139_w X hr hlk _ _ _ _ _  hf hW hS (lv_sub hl [2] rfl) (by omega)
    · replace hf := ite_f c92 hf
      refine lv_aload_n X.hx X.hb dX7_words_95 rfl (lv_at hl 0 rfl) ?_
      refine gX7_list X hW dX7_words_96 ?_
      refine lv_aload_n X.hx X.hb dX7_words_99 rfl (lv_at hl 0 rfl) ?_
      refine gX7_text X hW dX7_words_100 ?_
      refine lv_iload_n X.hx X.hb dX7_words_103 rfl (lv_at hl 3 rfl) ?_
      refine lv_iload_n X.hx X.hb dX7_words_104 rfl (lv_at hl 1 rfl) ?_
      obtain ⟨b105, h105, hf⟩ := bnd hf
      refine cl_i (run_V (As := [.int x3, .int x1]) (rest := [.ref (ad 2)]) X (w_X5_codeOf l V A ad h105) mw_X5_codeOf ln_X7_82 (rcX5 X hW) hW hS rfl hl.1 rfl (Nat.le_of_ble_eq_true rfl) ⟨Nat.le_of_ble_eq_true rfl, Nat.le_of_ble_eq_true rfl⟩ ⟨by simp only [dc, ds, rmF]; omega, by simp only [dc, ds, rmF]; omega⟩ dX7_words_105) hS (fun H locs hW hS => ?_)
      refine lv_iload_n X.hx X.hb dX7_words_108 rfl (lv_at hl 1 rfl) ?_
      obtain ⟨b109, h109, hf⟩ := bnd hf
      have p109 := l_X6_insert h109
      refine cl_v (run_V (As := [.int b105, .int x1]) (rest := []) X (w_X6_insert l V A ad h109) mw_X6_insert ln_X7_90 (rcX6 X hW) hW hS rfl hl.1 rfl (Nat.le_of_ble_eq_true rfl) ⟨Nat.le_of_ble_eq_true rfl, Nat.le_of_ble_eq_true rfl⟩ ⟨by simp only [dc, ds, rmF]; omega, by simp only [dc, ds, rmF]; omega⟩ dX7_words_109) hS (fun H locs hW hS => ?_)
      refine W.widen (k := dc s0 b109) (n := ds s0 b109) (by simp only [dc, ds]; omega) (by simp only [dc, ds]; omega) ?_
      obtain ⟨w112, e112, hf⟩ := lt_e hf
      refine lv_iinc (v := w112) (lv' := [(3, .int w112), (0, .ref (ad 0)), (1, .int x1), (2, .int x2)]) X.hx X.hb dX7_words_112 hl (k := 3) rfl (by rw [e112]; rfl) (by decide) rfl (fun ls hl => ?_)
      refine lv_goto (tgt := 90) X.hx X.hb dX7_words_115 (by decide) ?_
      exact hr90 _ _ _ _ _ _ _  hf hW hS (lv_sub hl [1, 2, 3, 0] rfl) (by omega)
noncomputable def f_X7_words_L37 : Nat → St → Int32 → Int32 → Int32 → Option (Int32 × St)
  | 0, _, _, _, _ => none
  | fu + 1, st, x1, x2, x3 => if x2 ≤ x3 then (f_X6_size st).bind fun b75 => if (b75 + x2) ≤ 12 then f_X7_words_L90 FU st x1 x2 0 else some ((-104), st) else (f_X5_codeOf st x3 x1).bind fun b52 => (f_X6_find st b52).bind fun b55 => if b55 = (-1) then lt (x3 + 1) fun w65 => (f_X7_words_L37 fu) st x1 x2 w65 else some ((-103), st)
theorem f_X7_words_L37_l {res : (Int32 × St)} : ∀ (n9 : Nat) (st : St) (x1 : Int32) (x2 : Int32) (x3 : Int32), f_X7_words_L37 n9 st x1 x2 x3 = some res → phi st ≤ phi res.2 := by
  intro n9
  induction n9 with
  | zero =>
    intro st x1 x2 x3 hf
    exact absurd hf (by unfold f_X7_words_L37; exact fun h => by cases h)
  | succ n9 hq37 =>
    intro st x1 x2 x3 hf
    unfold f_X7_words_L37 at hf
    by_cases c39 : x2 ≤ x3
    · replace hf := ite_t c39 hf
      obtain ⟨b75, h75, hf⟩ := bnd hf
      by_cases c82 : (b75 + x2) ≤ 12
      · replace hf := ite_t c82 hf
        have q9 := f_X7_words_L90_l  FU _ _ _ _ hf
        omega
      · replace hf := ite_f c82 hf
        have q9 := congrArg (fun z => phi z.2) (Option.some.inj hf)
        dsimp only at q9
        omega
    · replace hf := ite_f c39 hf
      obtain ⟨b52, h52, hf⟩ := bnd hf
      obtain ⟨b55, h55, hf⟩ := bnd hf
      by_cases c59 : b55 = (-1)
      · replace hf := ite_t c59 hf
        obtain ⟨w65, e65, hf⟩ := lt_e hf
        have q9 := hq37 _ _ _ _ hf
        omega
      · replace hf := ite_f c59 hf
        have q9 := congrArg (fun z => phi z.2) (Option.some.inj hf)
        dsimp only at q9
        omega
set_option maxRecDepth 100000 in
theorem f_X7_words_L37_w {s0 : St} {res : (Int32 × St)} (X : Cx V A cX7_words 4 RX7 p m c s args) (hr : meth.sig.returnType = (some .int)) (hlk : meth.locks = false)  : ∀ (n9 : Nat) (st : St) (x1 : Int32) (x2 : Int32) (x3 : Int32) (H : Heap) (locs : List Loc) (ls : Array Slot), f_X7_words_L37 n9 st x1 x2 x3 = some res → (WdC V ad A) st H → va_S A s.heap H locs → lv_has ls 4 [(0, .ref (ad 0)), (1, .int x1), (2, .int x2), (3, .int x3)] → phi s0 ≤ phi st → W p l e (rmF 14 353 (dc s0 res.2) (ds s0 res.2)) s m args below meth c H locs (dc s0 st) (ds s0 st) (MQ below (Qwi A (WdC V ad A) res.1 res.2) args s (dc s0 res.2) (ds s0 res.2) A) (F0 m 37 ls []) := by
  intro n9
  induction n9 with
  | zero =>
    intro st x1 x2 x3 H locs ls hf
    exact absurd hf (by unfold f_X7_words_L37; exact fun h => by cases h)
  | succ n9 hr37 =>
    have hq37 := f_X7_words_L37_l (res := res)  n9
    intro st x1 x2 x3 H locs ls hf hW hS hl h0
    have hm := f_X7_words_L37_l  _ _ _ _ _ hf
    unfold f_X7_words_L37 at hf
    refine lv_iload_n X.hx X.hb dX7_words_37 rfl (lv_at hl 3 rfl) ?_
    refine lv_iload_n X.hx X.hb dX7_words_38 rfl (lv_at hl 2 rfl) ?_
    refine lv_icmp_ge (tgt := 71) X.hx X.hb dX7_words_39 (by decide) (fun c39 => ?_) (fun c39 => ?_)
    · replace hf := ite_t c39 hf
      refine lv_aload_n X.hx X.hb dX7_words_71 rfl (lv_at hl 0 rfl) ?_
      refine gX7_list X hW dX7_words_72 ?_
      obtain ⟨b75, h75, hf⟩ := bnd hf
      refine cl_i (run_V (As := []) (rest := []) X (w_X6_size l V A ad h75) mw_X6_size ln_X7_89 (rcX6 X hW) hW hS rfl hl.1 rfl (Nat.le_of_ble_eq_true rfl) ⟨Nat.le_of_ble_eq_true rfl, Nat.le_of_ble_eq_true rfl⟩ ⟨by simp only [dc, ds, rmF]; omega, by simp only [dc, ds, rmF]; omega⟩ dX7_words_75) hS (fun H locs hW hS => ?_)
      refine lv_iload_n X.hx X.hb dX7_words_78 rfl (lv_at hl 2 rfl) ?_
      refine lv_iadd X.hx X.hb dX7_words_79 ?_
      refine lv_bipush (v := 12) X.hx X.hb dX7_words_80 (by decide) ?_
      refine lv_icmp_le (tgt := 88) X.hx X.hb dX7_words_82 (by decide) (fun c82 => ?_) (fun c82 => ?_)
      · replace hf := ite_t c82 hf
        refine lv_iconst (v := 0) X.hx X.hb dX7_words_88 (by decide) ?_
        refine lv_istore_n (lv' := [(3, .int 0), (0, .ref (ad 0)), (1, .int x1), (2, .int x2)]) X.hx X.hb dX7_words_89 rfl hl (by decide) rfl (fun ls hl => ?_)
        exact f_X7_words_L90_w X hr hlk FU _ _ _ _ _ _ _  hf hW hS (lv_sub hl [1, 2, 3, 0] rfl) (by omega)
      · replace hf := ite_f c82 hf
        refine lv_bipush (v := (-104)) X.hx X.hb dX7_words_85 (by decide) ?_
        exact rt_i X hr hlk (by rw [← Option.some.inj hf]; exact hW) hS (by rw [← Option.some.inj hf]) (by rw [← Option.some.inj hf]; exact Nat.le_refl _) (by rw [← Option.some.inj hf]; exact Nat.le_refl _) dX7_words_87
    · replace hf := ite_f c39 hf
      refine lv_aload_n X.hx X.hb dX7_words_42 rfl (lv_at hl 0 rfl) ?_
      refine gX7_list X hW dX7_words_43 ?_
      refine lv_aload_n X.hx X.hb dX7_words_46 rfl (lv_at hl 0 rfl) ?_
      refine gX7_text X hW dX7_words_47 ?_
      refine lv_iload_n X.hx X.hb dX7_words_50 rfl (lv_at hl 3 rfl) ?_
      refine lv_iload_n X.hx X.hb dX7_words_51 rfl (lv_at hl 1 rfl) ?_
      obtain ⟨b52, h52, hf⟩ := bnd hf
      refine cl_i (run_V (As := [.int x3, .int x1]) (rest := [.ref (ad 2)]) X (w_X5_codeOf l V A ad h52) mw_X5_codeOf ln_X7_82 (rcX5 X hW) hW hS rfl hl.1 rfl (Nat.le_of_ble_eq_true rfl) ⟨Nat.le_of_ble_eq_true rfl, Nat.le_of_ble_eq_true rfl⟩ ⟨by simp only [dc, ds, rmF]; omega, by simp only [dc, ds, rmF]; omega⟩ dX7_words_52) hS (fun H locs hW hS => ?_)
      obtain ⟨b55, h55, hf⟩ := bnd hf
      refine cl_i (run_V (As := [.int b52]) (rest := []) X (w_X6_find l V A ad h55) mw_X6_find ln_X7_86 (rcX6 X hW) hW hS rfl hl.1 rfl (Nat.le_of_ble_eq_true rfl) ⟨Nat.le_of_ble_eq_true rfl, Nat.le_of_ble_eq_true rfl⟩ ⟨by simp only [dc, ds, rmF]; omega, by simp only [dc, ds, rmF]; omega⟩ dX7_words_55) hS (fun H locs hW hS => ?_)
      refine lv_iconst (v := (-1)) X.hx X.hb dX7_words_58 (by decide) ?_
      refine lv_icmp_eq (tgt := 65) X.hx X.hb dX7_words_59 (by decide) (fun c59 => ?_) (fun c59 => ?_)
      · replace hf := ite_t c59 hf
        obtain ⟨w65, e65, hf⟩ := lt_e hf
        refine lv_iinc (v := w65) (lv' := [(3, .int w65), (0, .ref (ad 0)), (1, .int x1), (2, .int x2)]) X.hx X.hb dX7_words_65 hl (k := 3) rfl (by rw [e65]; rfl) (by decide) rfl (fun ls hl => ?_)
        refine lv_goto (tgt := 37) X.hx X.hb dX7_words_68 (by decide) ?_
        exact hr37 _ _ _ _ _ _ _  hf hW hS (lv_sub hl [1, 2, 3, 0] rfl) (by omega)
      · replace hf := ite_f c59 hf
        refine lv_bipush (v := (-103)) X.hx X.hb dX7_words_62 (by decide) ?_
        exact rt_i X hr hlk (by rw [← Option.some.inj hf]; exact hW) hS (by rw [← Option.some.inj hf]) (by rw [← Option.some.inj hf]; exact Nat.le_refl _) (by rw [← Option.some.inj hf]; exact Nat.le_refl _) dX7_words_64
noncomputable def f_X7_words (st : St) : Option (Int32 × St) := (f_X5_lengthOfWords st).bind fun b4 => if b4 = 0 then f_X7_words_J23 st else (f_X6_takesLength st b4).bind fun b17 => if b17 = 0 then f_X7_words_J23 st else (f_X5_numberOfWords st b4).bind fun b31 => f_X7_words_L37 FU st b4 b31 0
theorem l_X7_words {st : St} {res : (Int32 × St)} (hf : f_X7_words st = some res) : phi st ≤ phi res.2 := by
  unfold f_X7_words at hf
  obtain ⟨b4, h4, hf⟩ := bnd hf
  by_cases c9 : b4 = 0
  · replace hf := ite_t c9 hf
    have q9 := f_X7_words_J23_l  _ hf
    omega
  · replace hf := ite_f c9 hf
    obtain ⟨b17, h17, hf⟩ := bnd hf
    by_cases c20 : b17 = 0
    · replace hf := ite_t c20 hf
      have q9 := f_X7_words_J23_l  _ hf
      omega
    · replace hf := ite_f c20 hf
      obtain ⟨b31, h31, hf⟩ := bnd hf
      have q9 := f_X7_words_L37_l  FU _ _ _ _ hf
      omega
set_option maxRecDepth 100000 in
theorem w_X7_words (l : Launch) (V : Ev) (A : Nat → Prop) (ad : Nat → Nat) {st : St} {res : (Int32 × St)} (hf : f_X7_words st = some res) : Cn l yX7_words cX7_words 4 (some .int) 14 353 (dc st res.2) (ds st res.2) V A (WdC V ad A) st [.ref (ad 0)] (Qwi A (WdC V ad A) res.1 res.2) := by
  refine cn_of RX7 (by decide) rfl (fun p e s m below meth c ls X hr hlk hW hS hl => ?_) (Nat.le_of_ble_eq_true rfl)
  have hl : lv_has ls 4 [(0, .ref (ad 0))] := hl
  have hm := l_X7_words hf
  obtain ⟨s0, e0⟩ : ∃ z, z = st := ⟨_, rfl⟩
  refine W.widen (k := dc s0 st) (n := ds s0 st) (Nat.zero_le _) (Nat.zero_le _) ?_
  have h0 : phi s0 ≤ phi st := by rw [e0]; exact Nat.le_refl _
  have e1 : dc st res.2 = dc s0 res.2 := by rw [e0]
  have e2 : ds st res.2 = ds s0 res.2 := by rw [e0]
  rw [e1, e2]
  unfold f_X7_words at hf
  refine lv_aload_n X.hx X.hb dX7_words_0 rfl (lv_at hl 0 rfl) ?_
  refine gX7_text X hW dX7_words_1 ?_
  obtain ⟨b4, h4, hf⟩ := bnd hf
  refine cl_i (run_V (As := []) (rest := []) X (w_X5_lengthOfWords l V A ad h4) mw_X5_lengthOfWords ln_X7_71 (rcX5 X hW) hW hS rfl hl.1 rfl (Nat.le_of_ble_eq_true rfl) ⟨Nat.le_of_ble_eq_true rfl, Nat.le_of_ble_eq_true rfl⟩ ⟨by simp only [dc, ds, rmF]; omega, by simp only [dc, ds, rmF]; omega⟩ dX7_words_4) hS (fun H locs hW hS => ?_)
  refine lv_istore_n (lv' := [(1, .int b4), (0, .ref (ad 0))]) X.hx X.hb dX7_words_7 rfl hl (by decide) rfl (fun ls hl => ?_)
  refine lv_iload_n X.hx X.hb dX7_words_8 rfl (lv_at hl 0 rfl) ?_
  refine lv_if_eq (tgt := 23) X.hx X.hb dX7_words_9 (by decide) (fun c9 => ?_) (fun c9 => ?_)
  · replace hf := ite_t c9 hf
    exact f_X7_words_J23_w X hr hlk _ _ _ _  hf hW hS (lv_sub hl [] rfl) (by omega)
  · replace hf := ite_f c9 hf
    refine lv_aload_n X.hx X.hb dX7_words_12 rfl (lv_at hl 1 rfl) ?_
    refine gX7_list X hW dX7_words_13 ?_
    refine lv_iload_n X.hx X.hb dX7_words_16 rfl (lv_at hl 0 rfl) ?_
    obtain ⟨b17, h17, hf⟩ := bnd hf
    refine cl_i (run_V (As := [.int b4]) (rest := []) X (w_X6_takesLength l V A ad h17) mw_X6_takesLength ln_X7_74 (rcX6 X hW) hW hS rfl hl.1 rfl (Nat.le_of_ble_eq_true rfl) ⟨Nat.le_of_ble_eq_true rfl, Nat.le_of_ble_eq_true rfl⟩ ⟨by simp only [dc, ds, rmF]; omega, by simp only [dc, ds, rmF]; omega⟩ dX7_words_17) hS (fun H locs hW hS => ?_)
    refine lv_if_ne (tgt := 26) X.hx X.hb dX7_words_20 (by decide) (fun c20 => ?_) (fun c20 => ?_)
    · replace hf := ite_f c20 hf
      refine lv_aload_n X.hx X.hb dX7_words_26 rfl (lv_at hl 1 rfl) ?_
      refine gX7_text X hW dX7_words_27 ?_
      refine lv_iload_n X.hx X.hb dX7_words_30 rfl (lv_at hl 0 rfl) ?_
      obtain ⟨b31, h31, hf⟩ := bnd hf
      refine cl_i (run_V (As := [.int b4]) (rest := []) X (w_X5_numberOfWords l V A ad h31) mw_X5_numberOfWords ln_X7_78 (rcX5 X hW) hW hS rfl hl.1 rfl (Nat.le_of_ble_eq_true rfl) ⟨Nat.le_of_ble_eq_true rfl, Nat.le_of_ble_eq_true rfl⟩ ⟨by simp only [dc, ds, rmF]; omega, by simp only [dc, ds, rmF]; omega⟩ dX7_words_31) hS (fun H locs hW hS => ?_)
      refine lv_istore_n (lv' := [(2, .int b31), (1, .int b4), (0, .ref (ad 0))]) X.hx X.hb dX7_words_34 rfl hl (by decide) rfl (fun ls hl => ?_)
      refine lv_iconst (v := 0) X.hx X.hb dX7_words_35 (by decide) ?_
      refine lv_istore_n (lv' := [(3, .int 0), (2, .int b31), (1, .int b4), (0, .ref (ad 0))]) X.hx X.hb dX7_words_36 rfl hl (by decide) rfl (fun ls hl => ?_)
      exact f_X7_words_L37_w X hr hlk FU _ _ _ _ _ _ _  hf hW hS (lv_sub hl [3, 2, 1, 0] rfl) (by omega)
    · replace hf := ite_t c20 hf
      exact f_X7_words_J23_w X hr hlk _ _ _ _  hf hW hS (lv_sub hl [] rfl) (by omega)
-- WordSquares.strike
noncomputable def f_X7_strike_J36 (st : St) : Option (Int32 × St) := (f_X6_size st).bind fun b40 => some (b40, st)
theorem f_X7_strike_J36_l {res : (Int32 × St)} (st : St) (hf : f_X7_strike_J36 st = some res) : phi st ≤ phi res.2 := by
  unfold f_X7_strike_J36 at hf
  obtain ⟨b40, h40, hf⟩ := bnd hf
  have q9 := congrArg (fun z => phi z.2) (Option.some.inj hf)
  dsimp only at q9
  omega
set_option maxRecDepth 100000 in
theorem f_X7_strike_J36_w {s0 : St} {res : (Int32 × St)} (X : Cx V A cX7_strike 2 RX7 p m c s args) (hr : meth.sig.returnType = (some .int)) (hlk : meth.locks = false)  (st : St) (H : Heap) (locs : List Loc) (ls : Array Slot)  (hf : f_X7_strike_J36 st = some res) (hW : (WdC V ad A) st H) (hS : va_S A s.heap H locs) (hl : lv_has ls 2 [(0, .ref (ad 0))]) (h0 : phi s0 ≤ phi st) : W p l e (rmF 14 353 (dc s0 res.2) (ds s0 res.2)) s m args below meth c H locs (dc s0 st) (ds s0 st) (MQ below (Qwi A (WdC V ad A) res.1 res.2) args s (dc s0 res.2) (ds s0 res.2) A) (F0 m 36 ls []) := by
  have hm := f_X7_strike_J36_l  _ hf
  unfold f_X7_strike_J36 at hf
  refine lv_aload_n X.hx X.hb dX7_strike_36 rfl (lv_at hl 0 rfl) ?_
  refine gX7_list X hW dX7_strike_37 ?_
  obtain ⟨b40, h40, hf⟩ := bnd hf
  refine cl_i (run_V (As := []) (rest := []) X (w_X6_size l V A ad h40) mw_X6_size ln_X7_89 (rcX6 X hW) hW hS rfl hl.1 rfl (Nat.le_of_ble_eq_true rfl) ⟨Nat.le_of_ble_eq_true rfl, Nat.le_of_ble_eq_true rfl⟩ ⟨by simp only [dc, ds, rmF]; omega, by simp only [dc, ds, rmF]; omega⟩ dX7_strike_40) hS (fun H locs hW hS => ?_)
  exact rt_i X hr hlk (by rw [← Option.some.inj hf]; exact hW) hS (by rw [← Option.some.inj hf]) (by rw [← Option.some.inj hf]; exact Nat.le_refl _) (by rw [← Option.some.inj hf]; exact Nat.le_refl _) dX7_strike_43
noncomputable def f_X7_strike (st : St) (a1 : Int32) : Option (Int32 × St) := (f_X6_has st a1).bind fun b5 => if b5 = 0 then some ((-101), st) else (f_X6_delete st a1).bind fun b19 => lt (sI b19 3 ((b19.1 3) + 1)) fun s29 => (f_X7_renew s29).bind fun b33 => f_X7_strike_J36 b33
theorem l_X7_strike {st : St} {a1 : Int32} {res : (Int32 × St)} (hf : f_X7_strike st a1 = some res) : phi st ≤ phi res.2 := by
  unfold f_X7_strike at hf
  obtain ⟨b5, h5, hf⟩ := bnd hf
  by_cases c8 : b5 = 0
  · replace hf := ite_t c8 hf
    have q9 := congrArg (fun z => phi z.2) (Option.some.inj hf)
    dsimp only at q9
    omega
  · replace hf := ite_f c8 hf
    obtain ⟨b19, h19, hf⟩ := bnd hf
    have p19 := l_X6_delete h19
    obtain ⟨s29, e29, hf⟩ := lt_e hf
    have p29 : phi s29 = phi b19 := by rw [e29]; rfl
    obtain ⟨b33, h33, hf⟩ := bnd hf
    have p33 := l_X7_renew h33
    have q9 := f_X7_strike_J36_l  _ hf
    omega
set_option maxRecDepth 100000 in
theorem w_X7_strike (l : Launch) (V : Ev) (A : Nat → Prop) (ad : Nat → Nat) {st : St} {a1 : Int32} {res : (Int32 × St)} (hf : f_X7_strike st a1 = some res) : Cn l yX7_strike cX7_strike 2 (some .int) 14 353 (dc st res.2) (ds st res.2) V A (WdC V ad A) st [.ref (ad 0), .int a1] (Qwi A (WdC V ad A) res.1 res.2) := by
  refine cn_of RX7 (by decide) rfl (fun p e s m below meth c ls X hr hlk hW hS hl => ?_) (Nat.le_of_ble_eq_true rfl)
  have hl : lv_has ls 2 [(0, .ref (ad 0)), (1, .int a1)] := hl
  have hm := l_X7_strike hf
  obtain ⟨s0, e0⟩ : ∃ z, z = st := ⟨_, rfl⟩
  refine W.widen (k := dc s0 st) (n := ds s0 st) (Nat.zero_le _) (Nat.zero_le _) ?_
  have h0 : phi s0 ≤ phi st := by rw [e0]; exact Nat.le_refl _
  have e1 : dc st res.2 = dc s0 res.2 := by rw [e0]
  have e2 : ds st res.2 = ds s0 res.2 := by rw [e0]
  rw [e1, e2]
  unfold f_X7_strike at hf
  refine lv_aload_n X.hx X.hb dX7_strike_0 rfl (lv_at hl 0 rfl) ?_
  refine gX7_list X hW dX7_strike_1 ?_
  refine lv_iload_n X.hx X.hb dX7_strike_4 rfl (lv_at hl 1 rfl) ?_
  obtain ⟨b5, h5, hf⟩ := bnd hf
  refine cl_i (run_V (As := [.int a1]) (rest := []) X (w_X6_has l V A ad h5) mw_X6_has ln_X7_97 (rcX6 X hW) hW hS rfl hl.1 rfl (Nat.le_of_ble_eq_true rfl) ⟨Nat.le_of_ble_eq_true rfl, Nat.le_of_ble_eq_true rfl⟩ ⟨by simp only [dc, ds, rmF]; omega, by simp only [dc, ds, rmF]; omega⟩ dX7_strike_5) hS (fun H locs hW hS => ?_)
  refine lv_if_ne (tgt := 14) X.hx X.hb dX7_strike_8 (by decide) (fun c8 => ?_) (fun c8 => ?_)
  · replace hf := ite_f c8 hf
    refine lv_aload_n X.hx X.hb dX7_strike_14 rfl (lv_at hl 0 rfl) ?_
    refine gX7_list X hW dX7_strike_15 ?_
    refine lv_iload_n X.hx X.hb dX7_strike_18 rfl (lv_at hl 1 rfl) ?_
    obtain ⟨b19, h19, hf⟩ := bnd hf
    have p19 := l_X6_delete h19
    refine cl_v (run_V (As := [.int a1]) (rest := []) X (w_X6_delete l V A ad h19) mw_X6_delete ln_X7_100 (rcX6 X hW) hW hS rfl hl.1 rfl (Nat.le_of_ble_eq_true rfl) ⟨Nat.le_of_ble_eq_true rfl, Nat.le_of_ble_eq_true rfl⟩ ⟨by simp only [dc, ds, rmF]; omega, by simp only [dc, ds, rmF]; omega⟩ dX7_strike_19) hS (fun H locs hW hS => ?_)
    refine W.widen (k := dc s0 b19) (n := ds s0 b19) (by simp only [dc, ds]; omega) (by simp only [dc, ds]; omega) ?_
    refine lv_aload_n X.hx X.hb dX7_strike_22 rfl (lv_at hl 0 rfl) ?_
    refine lv_dup X.hx X.hb dX7_strike_23 rfl ?_
    refine gX7_removals X hW dX7_strike_24 ?_
    refine lv_iconst (v := 1) X.hx X.hb dX7_strike_27 (by decide) ?_
    refine lv_iadd X.hx X.hb dX7_strike_28 ?_
    obtain ⟨s29, e29, hf⟩ := lt_e hf
    refine pX7_removals X hW hS dX7_strike_29 (fun H locs hW hS => ?_)
    rw [← e29] at hW
    have p29 : phi s29 = phi b19 := by rw [e29]; rfl
    refine W.widen (k := dc s0 s29) (n := ds s0 s29) (by simp only [dc, ds]; omega) (by simp only [dc, ds]; omega) ?_
    refine lv_aload_n X.hx X.hb dX7_strike_32 rfl (lv_at hl 0 rfl) ?_
    obtain ⟨b33, h33, hf⟩ := bnd hf
    have q9 := f_X7_strike_J36_l  _ hf
    have p33 := l_X7_renew h33
    refine cl_v (run_V (As := []) (rest := []) X (w_X7_renew l V A ad h33) mw_X7_renew ln_X7_94 (rcX7 X hW) hW hS rfl hl.1 rfl (Nat.le_of_ble_eq_true rfl) ⟨Nat.le_of_ble_eq_true rfl, Nat.le_of_ble_eq_true rfl⟩ ⟨by simp only [dc, ds, rmF]; omega, by simp only [dc, ds, rmF]; omega⟩ dX7_strike_33) hS (fun H locs hW hS => ?_)
    refine W.widen (k := dc s0 b33) (n := ds s0 b33) (by simp only [dc, ds]; omega) (by simp only [dc, ds]; omega) ?_
    exact f_X7_strike_J36_w X hr hlk _ _ _ _  hf hW hS (lv_sub hl [0] rfl) (by omega)
  · replace hf := ite_t c8 hf
    refine lv_bipush (v := (-101)) X.hx X.hb dX7_strike_11 (by decide) ?_
    exact rt_i X hr hlk (by rw [← Option.some.inj hf]; exact hW) hS (by rw [← Option.some.inj hf]) (by rw [← Option.some.inj hf]; exact Nat.le_refl _) (by rw [← Option.some.inj hf]; exact Nat.le_refl _) dX7_strike_13
-- WordSquares.weigh
noncomputable def f_X7_weigh_J25 (st : St) : Option (Int32 × St) := some ((-102), st)
theorem f_X7_weigh_J25_l {res : (Int32 × St)} (st : St) (hf : f_X7_weigh_J25 st = some res) : phi res.2 = phi st := by
  unfold f_X7_weigh_J25 at hf
  have q9 := congrArg (fun z => phi z.2) (Option.some.inj hf)
  dsimp only at q9
  omega
set_option maxRecDepth 100000 in
theorem f_X7_weigh_J25_w {res : (Int32 × St)} (X : Cx V A cX7_weigh 4 RX7 p m c s args) (hr : meth.sig.returnType = (some .int)) (hlk : meth.locks = false)  (st : St) (H : Heap) (locs : List Loc) (ls : Array Slot)  (hf : f_X7_weigh_J25 st = some res) (hW : (WdC V ad A) st H) (hS : va_S A s.heap H locs) (hl : lv_has ls 4 []) : W p l e (rmF 1 22 0 0) s m args below meth c H locs 0 0 (MQ below (Qwi A (WdC V ad A) res.1 res.2) args s 0 0 A) (F0 m 25 ls []) := by
  
  unfold f_X7_weigh_J25 at hf
  refine lv_bipush (v := (-102)) X.hx X.hb dX7_weigh_25 (by decide) ?_
  exact rt_i X hr hlk (by rw [← Option.some.inj hf]; exact hW) hS (by rw [← Option.some.inj hf]) (Nat.le_refl _) (Nat.le_refl _) dX7_weigh_27
noncomputable def f_X7_weigh (st : St) (a1 : Int32) (a2 : Int32) : Option (Int32 × St) := (f_X6_has st a1).bind fun b5 => if b5 = 0 then some ((-101), st) else if a2 < 1 then f_X7_weigh_J25 st else if a2 ≤ 9 then (f_X6_weightOf st a1).bind fun b33 => (f_X6_setWeight st a1 a2).bind fun b43 => lt (sI b43 0 0) fun s48 => some (b33, s48) else f_X7_weigh_J25 st
theorem l_X7_weigh {st : St} {a1 : Int32} {a2 : Int32} {res : (Int32 × St)} (hf : f_X7_weigh st a1 a2 = some res) : phi res.2 = phi st := by
  unfold f_X7_weigh at hf
  obtain ⟨b5, h5, hf⟩ := bnd hf
  by_cases c8 : b5 = 0
  · replace hf := ite_t c8 hf
    have q9 := congrArg (fun z => phi z.2) (Option.some.inj hf)
    dsimp only at q9
    omega
  · replace hf := ite_f c8 hf
    by_cases c16 : a2 < 1
    · replace hf := ite_t c16 hf
      have q9 := f_X7_weigh_J25_l  _ hf
      omega
    · replace hf := ite_f c16 hf
      by_cases c22 : a2 ≤ 9
      · replace hf := ite_t c22 hf
        obtain ⟨b33, h33, hf⟩ := bnd hf
        obtain ⟨b43, h43, hf⟩ := bnd hf
        have p43 := l_X6_setWeight h43
        obtain ⟨s48, e48, hf⟩ := lt_e hf
        have p48 : phi s48 = phi b43 := by rw [e48]; rfl
        have q9 := congrArg (fun z => phi z.2) (Option.some.inj hf)
        dsimp only at q9
        omega
      · replace hf := ite_f c22 hf
        have q9 := f_X7_weigh_J25_l  _ hf
        omega
set_option maxRecDepth 100000 in
theorem w_X7_weigh (l : Launch) (V : Ev) (A : Nat → Prop) (ad : Nat → Nat) {st : St} {a1 : Int32} {a2 : Int32} {res : (Int32 × St)} (hf : f_X7_weigh st a1 a2 = some res) : Cn l yX7_weigh cX7_weigh 4 (some .int) 1 22 0 0 V A (WdC V ad A) st [.ref (ad 0), .int a1, .int a2] (Qwi A (WdC V ad A) res.1 res.2) := by
  refine cn_of RX7 (by decide) rfl (fun p e s m below meth c ls X hr hlk hW hS hl => ?_) (Nat.le_of_ble_eq_true rfl)
  have hl : lv_has ls 4 [(0, .ref (ad 0)), (1, .int a1), (2, .int a2)] := hl
  unfold f_X7_weigh at hf
  refine lv_aload_n X.hx X.hb dX7_weigh_0 rfl (lv_at hl 0 rfl) ?_
  refine gX7_list X hW dX7_weigh_1 ?_
  refine lv_iload_n X.hx X.hb dX7_weigh_4 rfl (lv_at hl 1 rfl) ?_
  obtain ⟨b5, h5, hf⟩ := bnd hf
  refine cl_i (run_V (As := [.int a1]) (rest := []) X (w_X6_has l V A ad h5) mw_X6_has ln_X7_97 (rcX6 X hW) hW hS rfl hl.1 rfl (Nat.le_of_ble_eq_true rfl) ⟨Nat.le_of_ble_eq_true rfl, Nat.le_of_ble_eq_true rfl⟩ ⟨Nat.le_refl _, Nat.le_refl _⟩ dX7_weigh_5) hS (fun H locs hW hS => ?_)
  refine lv_if_ne (tgt := 14) X.hx X.hb dX7_weigh_8 (by decide) (fun c8 => ?_) (fun c8 => ?_)
  · replace hf := ite_f c8 hf
    refine lv_iload_n X.hx X.hb dX7_weigh_14 rfl (lv_at hl 2 rfl) ?_
    refine lv_iconst (v := 1) X.hx X.hb dX7_weigh_15 (by decide) ?_
    refine lv_icmp_lt (tgt := 25) X.hx X.hb dX7_weigh_16 (by decide) (fun c16 => ?_) (fun c16 => ?_)
    · replace hf := ite_t c16 hf
      exact f_X7_weigh_J25_w X hr hlk _ _ _ _  hf hW hS (lv_sub hl [] rfl)
    · replace hf := ite_f c16 hf
      refine lv_iload_n X.hx X.hb dX7_weigh_19 rfl (lv_at hl 2 rfl) ?_
      refine lv_bipush (v := 9) X.hx X.hb dX7_weigh_20 (by decide) ?_
      refine lv_icmp_le (tgt := 28) X.hx X.hb dX7_weigh_22 (by decide) (fun c22 => ?_) (fun c22 => ?_)
      · replace hf := ite_t c22 hf
        refine lv_aload_n X.hx X.hb dX7_weigh_28 rfl (lv_at hl 0 rfl) ?_
        refine gX7_list X hW dX7_weigh_29 ?_
        refine lv_iload_n X.hx X.hb dX7_weigh_32 rfl (lv_at hl 1 rfl) ?_
        obtain ⟨b33, h33, hf⟩ := bnd hf
        refine cl_i (run_V (As := [.int a1]) (rest := []) X (w_X6_weightOf l V A ad h33) mw_X6_weightOf ln_X7_103 (rcX6 X hW) hW hS rfl hl.1 rfl (Nat.le_of_ble_eq_true rfl) ⟨Nat.le_of_ble_eq_true rfl, Nat.le_of_ble_eq_true rfl⟩ ⟨Nat.le_refl _, Nat.le_refl _⟩ dX7_weigh_33) hS (fun H locs hW hS => ?_)
        refine lv_istore_n (lv' := [(3, .int b33), (0, .ref (ad 0)), (1, .int a1), (2, .int a2)]) X.hx X.hb dX7_weigh_36 rfl hl (by decide) rfl (fun ls hl => ?_)
        refine lv_aload_n X.hx X.hb dX7_weigh_37 rfl (lv_at hl 1 rfl) ?_
        refine gX7_list X hW dX7_weigh_38 ?_
        refine lv_iload_n X.hx X.hb dX7_weigh_41 rfl (lv_at hl 2 rfl) ?_
        refine lv_iload_n X.hx X.hb dX7_weigh_42 rfl (lv_at hl 3 rfl) ?_
        obtain ⟨b43, h43, hf⟩ := bnd hf
        refine cl_v (run_V (As := [.int a1, .int a2]) (rest := []) X (w_X6_setWeight l V A ad h43) mw_X6_setWeight ln_X7_106 (rcX6 X hW) hW hS rfl hl.1 rfl (Nat.le_of_ble_eq_true rfl) ⟨Nat.le_of_ble_eq_true rfl, Nat.le_of_ble_eq_true rfl⟩ ⟨Nat.le_refl _, Nat.le_refl _⟩ dX7_weigh_43) hS (fun H locs hW hS => ?_)
        refine lv_aload_n X.hx X.hb dX7_weigh_46 rfl (lv_at hl 1 rfl) ?_
        refine lv_iconst (v := 0) X.hx X.hb dX7_weigh_47 (by decide) ?_
        obtain ⟨s48, e48, hf⟩ := lt_e hf
        refine pX7_compared X hW hS (Or.inl rfl) dX7_weigh_48 (fun H locs hW hS => ?_)
        rw [← e48] at hW
        refine lv_iload_n X.hx X.hb dX7_weigh_51 rfl (lv_at hl 0 rfl) ?_
        exact rt_i X hr hlk (by rw [← Option.some.inj hf]; exact hW) hS (by rw [← Option.some.inj hf]) (Nat.le_refl _) (Nat.le_refl _) dX7_weigh_52
      · replace hf := ite_f c22 hf
        exact f_X7_weigh_J25_w X hr hlk _ _ _ _  hf hW hS (lv_sub hl [] rfl)
  · replace hf := ite_t c8 hf
    refine lv_bipush (v := (-101)) X.hx X.hb dX7_weigh_11 (by decide) ?_
    exact rt_i X hr hlk (by rw [← Option.some.inj hf]; exact hW) hS (by rw [← Option.some.inj hf]) (Nat.le_refl _) (Nat.le_refl _) dX7_weigh_13
-- WordSquares.about
noncomputable def f_X7_about (st : St) (a1 : Int32) : Option Int32 := if a1 = 0 then (f_X6_length st).bind fun b44 => some b44 else if a1 = 1 then (f_X6_size st).bind fun b52 => some b52 else if a1 = 2 then (f_X6_numberOfPrefixes st).bind fun b60 => some b60 else if a1 = 3 then (f_X6_numberOfLetters st).bind fun b68 => some b68 else if a1 = 4 then (f_X6_sumOfWeights st).bind fun b76 => some b76 else if a1 = 5 then (f_X6_numberOfReversible st).bind fun b84 => some b84 else some (-102)
set_option maxRecDepth 100000 in
theorem w_X7_about (l : Launch) (V : Ev) (A : Nat → Prop) (ad : Nat → Nat) {st : St} {a1 : Int32} {res : Int32} (hf : f_X7_about st a1 = some res) : Cn l yX7_about cX7_about 2 (some .int) 3 67 0 0 V A (WdC V ad A) st [.ref (ad 0), .int a1] (Qwi A (WdC V ad A) res st) := by
  refine cn_of RX7 (by decide) rfl (fun p e s m below meth c ls X hr hlk hW hS hl => ?_) (Nat.le_of_ble_eq_true rfl)
  have hl : lv_has ls 2 [(0, .ref (ad 0)), (1, .int a1)] := hl
  unfold f_X7_about at hf
  refine lv_iload_n X.hx X.hb dX7_about_0 rfl (lv_at hl 1 rfl) ?_
  by_cases c1_0 : a1 = 0
  · replace hf := ite_t c1_0 hf
    refine lv_tableIn (tgt := 40) X.hx X.hb dX7_about_1 (by rw [c1_0]; decide) (by rw [c1_0]; decide) (by rw [c1_0]; rfl) (by decide) ?_
    refine lv_aload_n X.hx X.hb dX7_about_40 rfl (lv_at hl 0 rfl) ?_
    refine gX7_list X hW dX7_about_41 ?_
    obtain ⟨b44, h44, hf⟩ := bnd hf
    refine cl_i (run_V (As := []) (rest := []) X (w_X6_length l V A ad h44) mw_X6_length ln_X7_109 (rcX6 X hW) hW hS rfl hl.1 rfl (Nat.le_of_ble_eq_true rfl) ⟨Nat.le_of_ble_eq_true rfl, Nat.le_of_ble_eq_true rfl⟩ ⟨Nat.le_refl _, Nat.le_refl _⟩ dX7_about_44) hS (fun H locs hW hS => ?_)
    exact rt_i X hr hlk hW hS (Option.some.inj hf) (Nat.le_refl _) (Nat.le_refl _) dX7_about_47
  replace hf := ite_f c1_0 hf
  by_cases c1_1 : a1 = 1
  · replace hf := ite_t c1_1 hf
    refine lv_tableIn (tgt := 48) X.hx X.hb dX7_about_1 (by rw [c1_1]; decide) (by rw [c1_1]; decide) (by rw [c1_1]; rfl) (by decide) ?_
    refine lv_aload_n X.hx X.hb dX7_about_48 rfl (lv_at hl 0 rfl) ?_
    refine gX7_list X hW dX7_about_49 ?_
    obtain ⟨b52, h52, hf⟩ := bnd hf
    refine cl_i (run_V (As := []) (rest := []) X (w_X6_size l V A ad h52) mw_X6_size ln_X7_89 (rcX6 X hW) hW hS rfl hl.1 rfl (Nat.le_of_ble_eq_true rfl) ⟨Nat.le_of_ble_eq_true rfl, Nat.le_of_ble_eq_true rfl⟩ ⟨Nat.le_refl _, Nat.le_refl _⟩ dX7_about_52) hS (fun H locs hW hS => ?_)
    exact rt_i X hr hlk hW hS (Option.some.inj hf) (Nat.le_refl _) (Nat.le_refl _) dX7_about_55
  replace hf := ite_f c1_1 hf
  by_cases c1_2 : a1 = 2
  · replace hf := ite_t c1_2 hf
    refine lv_tableIn (tgt := 56) X.hx X.hb dX7_about_1 (by rw [c1_2]; decide) (by rw [c1_2]; decide) (by rw [c1_2]; rfl) (by decide) ?_
    refine lv_aload_n X.hx X.hb dX7_about_56 rfl (lv_at hl 0 rfl) ?_
    refine gX7_list X hW dX7_about_57 ?_
    obtain ⟨b60, h60, hf⟩ := bnd hf
    refine cl_i (run_V (As := []) (rest := []) X (w_X6_numberOfPrefixes l V A ad h60) mw_X6_numberOfPrefixes ln_X7_112 (rcX6 X hW) hW hS rfl hl.1 rfl (Nat.le_of_ble_eq_true rfl) ⟨Nat.le_of_ble_eq_true rfl, Nat.le_of_ble_eq_true rfl⟩ ⟨Nat.le_refl _, Nat.le_refl _⟩ dX7_about_60) hS (fun H locs hW hS => ?_)
    exact rt_i X hr hlk hW hS (Option.some.inj hf) (Nat.le_refl _) (Nat.le_refl _) dX7_about_63
  replace hf := ite_f c1_2 hf
  by_cases c1_3 : a1 = 3
  · replace hf := ite_t c1_3 hf
    refine lv_tableIn (tgt := 64) X.hx X.hb dX7_about_1 (by rw [c1_3]; decide) (by rw [c1_3]; decide) (by rw [c1_3]; rfl) (by decide) ?_
    refine lv_aload_n X.hx X.hb dX7_about_64 rfl (lv_at hl 0 rfl) ?_
    refine gX7_list X hW dX7_about_65 ?_
    obtain ⟨b68, h68, hf⟩ := bnd hf
    refine cl_i (run_V (As := []) (rest := []) X (w_X6_numberOfLetters l V A ad h68) mw_X6_numberOfLetters ln_X7_115 (rcX6 X hW) hW hS rfl hl.1 rfl (Nat.le_of_ble_eq_true rfl) ⟨Nat.le_of_ble_eq_true rfl, Nat.le_of_ble_eq_true rfl⟩ ⟨Nat.le_refl _, Nat.le_refl _⟩ dX7_about_68) hS (fun H locs hW hS => ?_)
    exact rt_i X hr hlk hW hS (Option.some.inj hf) (Nat.le_refl _) (Nat.le_refl _) dX7_about_71
  replace hf := ite_f c1_3 hf
  by_cases c1_4 : a1 = 4
  · replace hf := ite_t c1_4 hf
    refine lv_tableIn (tgt := 72) X.hx X.hb dX7_about_1 (by rw [c1_4]; decide) (by rw [c1_4]; decide) (by rw [c1_4]; rfl) (by decide) ?_
    refine lv_aload_n X.hx X.hb dX7_about_72 rfl (lv_at hl 0 rfl) ?_
    refine gX7_list X hW dX7_about_73 ?_
    obtain ⟨b76, h76, hf⟩ := bnd hf
    refine cl_i (run_V (As := []) (rest := []) X (w_X6_sumOfWeights l V A ad h76) mw_X6_sumOfWeights ln_X7_118 (rcX6 X hW) hW hS rfl hl.1 rfl (Nat.le_of_ble_eq_true rfl) ⟨Nat.le_of_ble_eq_true rfl, Nat.le_of_ble_eq_true rfl⟩ ⟨Nat.le_refl _, Nat.le_refl _⟩ dX7_about_76) hS (fun H locs hW hS => ?_)
    exact rt_i X hr hlk hW hS (Option.some.inj hf) (Nat.le_refl _) (Nat.le_refl _) dX7_about_79
  replace hf := ite_f c1_4 hf
  by_cases c1_5 : a1 = 5
  · replace hf := ite_t c1_5 hf
    refine lv_tableIn (tgt := 80) X.hx X.hb dX7_about_1 (by rw [c1_5]; decide) (by rw [c1_5]; decide) (by rw [c1_5]; rfl) (by decide) ?_
    refine lv_aload_n X.hx X.hb dX7_about_80 rfl (lv_at hl 0 rfl) ?_
    refine gX7_list X hW dX7_about_81 ?_
    obtain ⟨b84, h84, hf⟩ := bnd hf
    refine cl_i (run_V (As := []) (rest := []) X (w_X6_numberOfReversible l V A ad h84) mw_X6_numberOfReversible ln_X7_121 (rcX6 X hW) hW hS rfl hl.1 rfl (Nat.le_of_ble_eq_true rfl) ⟨Nat.le_of_ble_eq_true rfl, Nat.le_of_ble_eq_true rfl⟩ ⟨Nat.le_refl _, Nat.le_refl _⟩ dX7_about_84) hS (fun H locs hW hS => ?_)
    exact rt_i X hr hlk hW hS (Option.some.inj hf) (Nat.le_refl _) (Nat.le_refl _) dX7_about_87
  replace hf := ite_f c1_5 hf
  have n1 : (a1).toInt < 0 ∨ 5 < (a1).toInt := by
    have q0 := lv_neT (a := 0) c1_0 (by decide)
    have q1 := lv_neT (a := 1) c1_1 (by decide)
    have q2 := lv_neT (a := 2) c1_2 (by decide)
    have q3 := lv_neT (a := 3) c1_3 (by decide)
    have q4 := lv_neT (a := 4) c1_4 (by decide)
    have q5 := lv_neT (a := 5) c1_5 (by decide)
    omega
  refine lv_tableOut (tgt := 88) X.hx X.hb dX7_about_1 n1 (by decide) ?_
  refine lv_bipush (v := (-102)) X.hx X.hb dX7_about_88 (by decide) ?_
  exact rt_i X hr hlk hW hS (Option.some.inj hf) (Nat.le_refl _) (Nat.le_refl _) dX7_about_90
-- WordSquares.word
noncomputable def f_X7_word (st : St) (a1 : Int32) (a2 : Int32) : Option Int32 := (f_X6_has st a1).bind fun b5 => if b5 = 0 then some (-101) else if a2 = 0 then (f_X6_weightOf st a1).bind fun b53 => some b53 else if a2 = 1 then (f_X6_reversalOf st a1).bind fun b66 => (f_X6_find st b66).bind fun b69 => some b69 else if a2 = 2 then (f_X2_timesInRows st a1).bind fun b78 => some b78 else if a2 = 3 then (f_X2_timesInColumns st a1).bind fun b87 => some b87 else if a2 = 4 then (f_X2_timesInSymmetric st a1).bind fun b96 => some b96 else some (-102)
set_option maxRecDepth 100000 in
theorem w_X7_word (l : Launch) (V : Ev) (A : Nat → Prop) (ad : Nat → Nat) {st : St} {a1 : Int32} {a2 : Int32} {res : Int32} (hf : f_X7_word st a1 a2 = some res) : Cn l yX7_word cX7_word 3 (some .int) 2 45 0 0 V A (WdC V ad A) st [.ref (ad 0), .int a1, .int a2] (Qwi A (WdC V ad A) res st) := by
  refine cn_of RX7 (by decide) rfl (fun p e s m below meth c ls X hr hlk hW hS hl => ?_) (Nat.le_of_ble_eq_true rfl)
  have hl : lv_has ls 3 [(0, .ref (ad 0)), (1, .int a1), (2, .int a2)] := hl
  unfold f_X7_word at hf
  refine lv_aload_n X.hx X.hb dX7_word_0 rfl (lv_at hl 0 rfl) ?_
  refine gX7_list X hW dX7_word_1 ?_
  refine lv_iload_n X.hx X.hb dX7_word_4 rfl (lv_at hl 1 rfl) ?_
  obtain ⟨b5, h5, hf⟩ := bnd hf
  refine cl_i (run_V (As := [.int a1]) (rest := []) X (w_X6_has l V A ad h5) mw_X6_has ln_X7_97 (rcX6 X hW) hW hS rfl hl.1 rfl (Nat.le_of_ble_eq_true rfl) ⟨Nat.le_of_ble_eq_true rfl, Nat.le_of_ble_eq_true rfl⟩ ⟨Nat.le_refl _, Nat.le_refl _⟩ dX7_word_5) hS (fun H locs hW hS => ?_)
  refine lv_if_ne (tgt := 14) X.hx X.hb dX7_word_8 (by decide) (fun c8 => ?_) (fun c8 => ?_)
  · replace hf := ite_f c8 hf
    refine lv_iload_n X.hx X.hb dX7_word_14 rfl (lv_at hl 2 rfl) ?_
    by_cases c15_0 : a2 = 0
    · replace hf := ite_t c15_0 hf
      refine lv_tableIn (tgt := 48) X.hx X.hb dX7_word_15 (by rw [c15_0]; decide) (by rw [c15_0]; decide) (by rw [c15_0]; rfl) (by decide) ?_
      refine lv_aload_n X.hx X.hb dX7_word_48 rfl (lv_at hl 0 rfl) ?_
      refine gX7_list X hW dX7_word_49 ?_
      refine lv_iload_n X.hx X.hb dX7_word_52 rfl (lv_at hl 1 rfl) ?_
      obtain ⟨b53, h53, hf⟩ := bnd hf
      refine cl_i (run_V (As := [.int a1]) (rest := []) X (w_X6_weightOf l V A ad h53) mw_X6_weightOf ln_X7_103 (rcX6 X hW) hW hS rfl hl.1 rfl (Nat.le_of_ble_eq_true rfl) ⟨Nat.le_of_ble_eq_true rfl, Nat.le_of_ble_eq_true rfl⟩ ⟨Nat.le_refl _, Nat.le_refl _⟩ dX7_word_53) hS (fun H locs hW hS => ?_)
      exact rt_i X hr hlk hW hS (Option.some.inj hf) (Nat.le_refl _) (Nat.le_refl _) dX7_word_56
    replace hf := ite_f c15_0 hf
    by_cases c15_1 : a2 = 1
    · replace hf := ite_t c15_1 hf
      refine lv_tableIn (tgt := 57) X.hx X.hb dX7_word_15 (by rw [c15_1]; decide) (by rw [c15_1]; decide) (by rw [c15_1]; rfl) (by decide) ?_
      refine lv_aload_n X.hx X.hb dX7_word_57 rfl (lv_at hl 0 rfl) ?_
      refine gX7_list X hW dX7_word_58 ?_
      refine lv_aload_n X.hx X.hb dX7_word_61 rfl (lv_at hl 0 rfl) ?_
      refine gX7_list X hW dX7_word_62 ?_
      refine lv_iload_n X.hx X.hb dX7_word_65 rfl (lv_at hl 1 rfl) ?_
      obtain ⟨b66, h66, hf⟩ := bnd hf
      refine cl_i (run_V (As := [.int a1]) (rest := [.ref (ad 2)]) X (w_X6_reversalOf l V A ad h66) mw_X6_reversalOf ln_X7_124 (rcX6 X hW) hW hS rfl hl.1 rfl (Nat.le_of_ble_eq_true rfl) ⟨Nat.le_of_ble_eq_true rfl, Nat.le_of_ble_eq_true rfl⟩ ⟨Nat.le_refl _, Nat.le_refl _⟩ dX7_word_66) hS (fun H locs hW hS => ?_)
      obtain ⟨b69, h69, hf⟩ := bnd hf
      refine cl_i (run_V (As := [.int b66]) (rest := []) X (w_X6_find l V A ad h69) mw_X6_find ln_X7_86 (rcX6 X hW) hW hS rfl hl.1 rfl (Nat.le_of_ble_eq_true rfl) ⟨Nat.le_of_ble_eq_true rfl, Nat.le_of_ble_eq_true rfl⟩ ⟨Nat.le_refl _, Nat.le_refl _⟩ dX7_word_69) hS (fun H locs hW hS => ?_)
      exact rt_i X hr hlk hW hS (Option.some.inj hf) (Nat.le_refl _) (Nat.le_refl _) dX7_word_72
    replace hf := ite_f c15_1 hf
    by_cases c15_2 : a2 = 2
    · replace hf := ite_t c15_2 hf
      refine lv_tableIn (tgt := 73) X.hx X.hb dX7_word_15 (by rw [c15_2]; decide) (by rw [c15_2]; decide) (by rw [c15_2]; rfl) (by decide) ?_
      refine lv_aload_n X.hx X.hb dX7_word_73 rfl (lv_at hl 0 rfl) ?_
      refine gX7_finder X hW dX7_word_74 ?_
      refine lv_iload_n X.hx X.hb dX7_word_77 rfl (lv_at hl 1 rfl) ?_
      obtain ⟨b78, h78, hf⟩ := bnd hf
      refine cl_i (run_V (As := [.int a1]) (rest := []) X (w_X2_timesInRows l V A ad h78) mw_X2_timesInRows ln_X7_127 (rcX2 X hW) hW hS rfl hl.1 rfl (Nat.le_of_ble_eq_true rfl) ⟨Nat.le_of_ble_eq_true rfl, Nat.le_of_ble_eq_true rfl⟩ ⟨Nat.le_refl _, Nat.le_refl _⟩ dX7_word_78) hS (fun H locs hW hS => ?_)
      exact rt_i X hr hlk hW hS (Option.some.inj hf) (Nat.le_refl _) (Nat.le_refl _) dX7_word_81
    replace hf := ite_f c15_2 hf
    by_cases c15_3 : a2 = 3
    · replace hf := ite_t c15_3 hf
      refine lv_tableIn (tgt := 82) X.hx X.hb dX7_word_15 (by rw [c15_3]; decide) (by rw [c15_3]; decide) (by rw [c15_3]; rfl) (by decide) ?_
      refine lv_aload_n X.hx X.hb dX7_word_82 rfl (lv_at hl 0 rfl) ?_
      refine gX7_finder X hW dX7_word_83 ?_
      refine lv_iload_n X.hx X.hb dX7_word_86 rfl (lv_at hl 1 rfl) ?_
      obtain ⟨b87, h87, hf⟩ := bnd hf
      refine cl_i (run_V (As := [.int a1]) (rest := []) X (w_X2_timesInColumns l V A ad h87) mw_X2_timesInColumns ln_X7_130 (rcX2 X hW) hW hS rfl hl.1 rfl (Nat.le_of_ble_eq_true rfl) ⟨Nat.le_of_ble_eq_true rfl, Nat.le_of_ble_eq_true rfl⟩ ⟨Nat.le_refl _, Nat.le_refl _⟩ dX7_word_87) hS (fun H locs hW hS => ?_)
      exact rt_i X hr hlk hW hS (Option.some.inj hf) (Nat.le_refl _) (Nat.le_refl _) dX7_word_90
    replace hf := ite_f c15_3 hf
    by_cases c15_4 : a2 = 4
    · replace hf := ite_t c15_4 hf
      refine lv_tableIn (tgt := 91) X.hx X.hb dX7_word_15 (by rw [c15_4]; decide) (by rw [c15_4]; decide) (by rw [c15_4]; rfl) (by decide) ?_
      refine lv_aload_n X.hx X.hb dX7_word_91 rfl (lv_at hl 0 rfl) ?_
      refine gX7_finder X hW dX7_word_92 ?_
      refine lv_iload_n X.hx X.hb dX7_word_95 rfl (lv_at hl 1 rfl) ?_
      obtain ⟨b96, h96, hf⟩ := bnd hf
      refine cl_i (run_V (As := [.int a1]) (rest := []) X (w_X2_timesInSymmetric l V A ad h96) mw_X2_timesInSymmetric ln_X7_133 (rcX2 X hW) hW hS rfl hl.1 rfl (Nat.le_of_ble_eq_true rfl) ⟨Nat.le_of_ble_eq_true rfl, Nat.le_of_ble_eq_true rfl⟩ ⟨Nat.le_refl _, Nat.le_refl _⟩ dX7_word_96) hS (fun H locs hW hS => ?_)
      exact rt_i X hr hlk hW hS (Option.some.inj hf) (Nat.le_refl _) (Nat.le_refl _) dX7_word_99
    replace hf := ite_f c15_4 hf
    have n15 : (a2).toInt < 0 ∨ 4 < (a2).toInt := by
      have q0 := lv_neT (a := 0) c15_0 (by decide)
      have q1 := lv_neT (a := 1) c15_1 (by decide)
      have q2 := lv_neT (a := 2) c15_2 (by decide)
      have q3 := lv_neT (a := 3) c15_3 (by decide)
      have q4 := lv_neT (a := 4) c15_4 (by decide)
      omega
    refine lv_tableOut (tgt := 100) X.hx X.hb dX7_word_15 n15 (by decide) ?_
    refine lv_bipush (v := (-102)) X.hx X.hb dX7_word_100 (by decide) ?_
    exact rt_i X hr hlk hW hS (Option.some.inj hf) (Nat.le_refl _) (Nat.le_refl _) dX7_word_102
  · replace hf := ite_t c8 hf
    refine lv_bipush (v := (-101)) X.hx X.hb dX7_word_11 (by decide) ?_
    exact rt_i X hr hlk hW hS (Option.some.inj hf) (Nat.le_refl _) (Nat.le_refl _) dX7_word_13
-- WordSquares.sign
noncomputable def f_X7_sign_J22 (st : St) : Option Int32 := some (-101)
set_option maxRecDepth 100000 in
theorem f_X7_sign_J22_w {st : St} {res : Int32} (X : Cx V A cX7_sign 3 RX7 p m c s args) (hr : meth.sig.returnType = (some .int)) (hlk : meth.locks = false)  (H : Heap) (locs : List Loc) (ls : Array Slot)  (hf : f_X7_sign_J22 st  = some res) (hW : (WdC V ad A) st H) (hS : va_S A s.heap H locs) (hl : lv_has ls 3 []) : W p l e (rmF 1 22 0 0) s m args below meth c H locs 0 0 (MQ below (Qwi A (WdC V ad A) res st) args s 0 0 A) (F0 m 22 ls []) := by
  
  unfold f_X7_sign_J22 at hf
  refine lv_bipush (v := (-101)) X.hx X.hb dX7_sign_22 (by decide) ?_
  exact rt_i X hr hlk hW hS (Option.some.inj hf) (Nat.le_refl _) (Nat.le_refl _) dX7_sign_24
noncomputable def f_X7_sign (st : St) (a1 : Int32) (a2 : Int32) : Option Int32 := (f_X6_has st a1).bind fun b5 => if b5 = 0 then f_X7_sign_J22 st else (f_X6_hasPlace st a2).bind fun b16 => if b16 = 0 then f_X7_sign_J22 st else (f_X6_letterAt st a1 a2).bind fun b33 => some (97 + b33)
set_option maxRecDepth 100000 in
theorem w_X7_sign (l : Launch) (V : Ev) (A : Nat → Prop) (ad : Nat → Nat) {st : St} {a1 : Int32} {a2 : Int32} {res : Int32} (hf : f_X7_sign st a1 a2 = some res) : Cn l yX7_sign cX7_sign 3 (some .int) 1 22 0 0 V A (WdC V ad A) st [.ref (ad 0), .int a1, .int a2] (Qwi A (WdC V ad A) res st) := by
  refine cn_of RX7 (by decide) rfl (fun p e s m below meth c ls X hr hlk hW hS hl => ?_) (Nat.le_of_ble_eq_true rfl)
  have hl : lv_has ls 3 [(0, .ref (ad 0)), (1, .int a1), (2, .int a2)] := hl
  unfold f_X7_sign at hf
  refine lv_aload_n X.hx X.hb dX7_sign_0 rfl (lv_at hl 0 rfl) ?_
  refine gX7_list X hW dX7_sign_1 ?_
  refine lv_iload_n X.hx X.hb dX7_sign_4 rfl (lv_at hl 1 rfl) ?_
  obtain ⟨b5, h5, hf⟩ := bnd hf
  refine cl_i (run_V (As := [.int a1]) (rest := []) X (w_X6_has l V A ad h5) mw_X6_has ln_X7_97 (rcX6 X hW) hW hS rfl hl.1 rfl (Nat.le_of_ble_eq_true rfl) ⟨Nat.le_of_ble_eq_true rfl, Nat.le_of_ble_eq_true rfl⟩ ⟨Nat.le_refl _, Nat.le_refl _⟩ dX7_sign_5) hS (fun H locs hW hS => ?_)
  refine lv_if_eq (tgt := 22) X.hx X.hb dX7_sign_8 (by decide) (fun c8 => ?_) (fun c8 => ?_)
  · replace hf := ite_t c8 hf
    exact f_X7_sign_J22_w X hr hlk  _ _ _  hf hW hS (lv_sub hl [] rfl)
  · replace hf := ite_f c8 hf
    refine lv_aload_n X.hx X.hb dX7_sign_11 rfl (lv_at hl 0 rfl) ?_
    refine gX7_list X hW dX7_sign_12 ?_
    refine lv_iload_n X.hx X.hb dX7_sign_15 rfl (lv_at hl 2 rfl) ?_
    obtain ⟨b16, h16, hf⟩ := bnd hf
    refine cl_i (run_V (As := [.int a2]) (rest := []) X (w_X6_hasPlace l V A ad h16) mw_X6_hasPlace ln_X7_136 (rcX6 X hW) hW hS rfl hl.1 rfl (Nat.le_of_ble_eq_true rfl) ⟨Nat.le_of_ble_eq_true rfl, Nat.le_of_ble_eq_true rfl⟩ ⟨Nat.le_refl _, Nat.le_refl _⟩ dX7_sign_16) hS (fun H locs hW hS => ?_)
    refine lv_if_ne (tgt := 25) X.hx X.hb dX7_sign_19 (by decide) (fun c19 => ?_) (fun c19 => ?_)
    · replace hf := ite_f c19 hf
      refine lv_bipush (v := 97) X.hx X.hb dX7_sign_25 (by decide) ?_
      refine lv_aload_n X.hx X.hb dX7_sign_27 rfl (lv_at hl 0 rfl) ?_
      refine gX7_list X hW dX7_sign_28 ?_
      refine lv_iload_n X.hx X.hb dX7_sign_31 rfl (lv_at hl 1 rfl) ?_
      refine lv_iload_n X.hx X.hb dX7_sign_32 rfl (lv_at hl 2 rfl) ?_
      obtain ⟨b33, h33, hf⟩ := bnd hf
      refine cl_i (run_V (As := [.int a1, .int a2]) (rest := [.int 97]) X (w_X6_letterAt l V A ad h33) mw_X6_letterAt ln_X7_139 (rcX6 X hW) hW hS rfl hl.1 rfl (Nat.le_of_ble_eq_true rfl) ⟨Nat.le_of_ble_eq_true rfl, Nat.le_of_ble_eq_true rfl⟩ ⟨Nat.le_refl _, Nat.le_refl _⟩ dX7_sign_33) hS (fun H locs hW hS => ?_)
      refine lv_iadd X.hx X.hb dX7_sign_36 ?_
      exact rt_i X hr hlk hW hS (Option.some.inj hf) (Nat.le_refl _) (Nat.le_refl _) dX7_sign_37
    · replace hf := ite_t c19 hf
      exact f_X7_sign_J22_w X hr hlk  _ _ _  hf hW hS (lv_sub hl [] rfl)
-- WordSquares.begins
noncomputable def f_X7_begins_J29 (st : St) : Option Int32 := some (-102)
set_option maxRecDepth 100000 in
theorem f_X7_begins_J29_w {st : St} {res : Int32} (X : Cx V A cX7_begins 3 RX7 p m c s args) (hr : meth.sig.returnType = (some .int)) (hlk : meth.locks = false)  (H : Heap) (locs : List Loc) (ls : Array Slot)  (hf : f_X7_begins_J29 st  = some res) (hW : (WdC V ad A) st H) (hS : va_S A s.heap H locs) (hl : lv_has ls 3 []) : W p l e (rmF 2 46 0 0) s m args below meth c H locs 0 0 (MQ below (Qwi A (WdC V ad A) res st) args s 0 0 A) (F0 m 29 ls []) := by
  
  unfold f_X7_begins_J29 at hf
  refine lv_bipush (v := (-102)) X.hx X.hb dX7_begins_29 (by decide) ?_
  exact rt_i X hr hlk hW hS (Option.some.inj hf) (Nat.le_refl _) (Nat.le_refl _) dX7_begins_31
noncomputable def f_X7_begins (st : St) (a1 : Int32) (a2 : Int32) : Option Int32 := (f_X6_has st a1).bind fun b5 => if b5 = 0 then some (-101) else if a2 < 0 then f_X7_begins_J29 st else (f_X6_length st).bind fun b23 => if a2 ≤ b23 then (f_X6_prefixOf st a1 a2).bind fun b42 => (f_X6_numberWithPrefix st b42 a2).bind fun b46 => some b46 else f_X7_begins_J29 st
set_option maxRecDepth 100000 in
theorem w_X7_begins (l : Launch) (V : Ev) (A : Nat → Prop) (ad : Nat → Nat) {st : St} {a1 : Int32} {a2 : Int32} {res : Int32} (hf : f_X7_begins st a1 a2 = some res) : Cn l yX7_begins cX7_begins 3 (some .int) 2 46 0 0 V A (WdC V ad A) st [.ref (ad 0), .int a1, .int a2] (Qwi A (WdC V ad A) res st) := by
  refine cn_of RX7 (by decide) rfl (fun p e s m below meth c ls X hr hlk hW hS hl => ?_) (Nat.le_of_ble_eq_true rfl)
  have hl : lv_has ls 3 [(0, .ref (ad 0)), (1, .int a1), (2, .int a2)] := hl
  unfold f_X7_begins at hf
  refine lv_aload_n X.hx X.hb dX7_begins_0 rfl (lv_at hl 0 rfl) ?_
  refine gX7_list X hW dX7_begins_1 ?_
  refine lv_iload_n X.hx X.hb dX7_begins_4 rfl (lv_at hl 1 rfl) ?_
  obtain ⟨b5, h5, hf⟩ := bnd hf
  refine cl_i (run_V (As := [.int a1]) (rest := []) X (w_X6_has l V A ad h5) mw_X6_has ln_X7_97 (rcX6 X hW) hW hS rfl hl.1 rfl (Nat.le_of_ble_eq_true rfl) ⟨Nat.le_of_ble_eq_true rfl, Nat.le_of_ble_eq_true rfl⟩ ⟨Nat.le_refl _, Nat.le_refl _⟩ dX7_begins_5) hS (fun H locs hW hS => ?_)
  refine lv_if_ne (tgt := 14) X.hx X.hb dX7_begins_8 (by decide) (fun c8 => ?_) (fun c8 => ?_)
  · replace hf := ite_f c8 hf
    refine lv_iload_n X.hx X.hb dX7_begins_14 rfl (lv_at hl 2 rfl) ?_
    refine lv_if_lt (tgt := 29) X.hx X.hb dX7_begins_15 (by decide) (fun c15 => ?_) (fun c15 => ?_)
    · replace hf := ite_t c15 hf
      exact f_X7_begins_J29_w X hr hlk  _ _ _  hf hW hS (lv_sub hl [] rfl)
    · replace hf := ite_f c15 hf
      refine lv_iload_n X.hx X.hb dX7_begins_18 rfl (lv_at hl 2 rfl) ?_
      refine lv_aload_n X.hx X.hb dX7_begins_19 rfl (lv_at hl 0 rfl) ?_
      refine gX7_list X hW dX7_begins_20 ?_
      obtain ⟨b23, h23, hf⟩ := bnd hf
      refine cl_i (run_V (As := []) (rest := [.int a2]) X (w_X6_length l V A ad h23) mw_X6_length ln_X7_109 (rcX6 X hW) hW hS rfl hl.1 rfl (Nat.le_of_ble_eq_true rfl) ⟨Nat.le_of_ble_eq_true rfl, Nat.le_of_ble_eq_true rfl⟩ ⟨Nat.le_refl _, Nat.le_refl _⟩ dX7_begins_23) hS (fun H locs hW hS => ?_)
      refine lv_icmp_le (tgt := 32) X.hx X.hb dX7_begins_26 (by decide) (fun c26 => ?_) (fun c26 => ?_)
      · replace hf := ite_t c26 hf
        refine lv_aload_n X.hx X.hb dX7_begins_32 rfl (lv_at hl 0 rfl) ?_
        refine gX7_list X hW dX7_begins_33 ?_
        refine lv_aload_n X.hx X.hb dX7_begins_36 rfl (lv_at hl 0 rfl) ?_
        refine gX7_list X hW dX7_begins_37 ?_
        refine lv_iload_n X.hx X.hb dX7_begins_40 rfl (lv_at hl 1 rfl) ?_
        refine lv_iload_n X.hx X.hb dX7_begins_41 rfl (lv_at hl 2 rfl) ?_
        obtain ⟨b42, h42, hf⟩ := bnd hf
        refine cl_i (run_V (As := [.int a1, .int a2]) (rest := [.ref (ad 2)]) X (w_X6_prefixOf l V A ad h42) mw_X6_prefixOf ln_X7_142 (rcX6 X hW) hW hS rfl hl.1 rfl (Nat.le_of_ble_eq_true rfl) ⟨Nat.le_of_ble_eq_true rfl, Nat.le_of_ble_eq_true rfl⟩ ⟨Nat.le_refl _, Nat.le_refl _⟩ dX7_begins_42) hS (fun H locs hW hS => ?_)
        refine lv_iload_n X.hx X.hb dX7_begins_45 rfl (lv_at hl 2 rfl) ?_
        obtain ⟨b46, h46, hf⟩ := bnd hf
        refine cl_i (run_V (As := [.int b42, .int a2]) (rest := []) X (w_X6_numberWithPrefix l V A ad h46) mw_X6_numberWithPrefix ln_X7_145 (rcX6 X hW) hW hS rfl hl.1 rfl (Nat.le_of_ble_eq_true rfl) ⟨Nat.le_of_ble_eq_true rfl, Nat.le_of_ble_eq_true rfl⟩ ⟨Nat.le_refl _, Nat.le_refl _⟩ dX7_begins_46) hS (fun H locs hW hS => ?_)
        exact rt_i X hr hlk hW hS (Option.some.inj hf) (Nat.le_refl _) (Nat.le_refl _) dX7_begins_49
      · replace hf := ite_f c26 hf
        exact f_X7_begins_J29_w X hr hlk  _ _ _  hf hW hS (lv_sub hl [] rfl)
  · replace hf := ite_t c8 hf
    refine lv_bipush (v := (-101)) X.hx X.hb dX7_begins_11 (by decide) ?_
    exact rt_i X hr hlk hW hS (Option.some.inj hf) (Nat.le_refl _) (Nat.le_refl _) dX7_begins_13
-- WordSquares.squares
noncomputable def f_X7_squares (st : St) (a1 : Int32) : Option Int32 := (f_X7_isKind a1).bind fun b1 => if b1 = 0 then some (-102) else (f_X2_ofKind st a1).bind fun b15 => (f_X4_size st b15).bind fun b18 => some b18
set_option maxRecDepth 100000 in
theorem w_X7_squares (l : Launch) (V : Ev) (A : Nat → Prop) (ad : Nat → Nat) {st : St} {a1 : Int32} {res : Int32} (hf : f_X7_squares st a1 = some res) : Cn l yX7_squares cX7_squares 2 (some .int) 1 21 0 0 V A (WdC V ad A) st [.ref (ad 0), .int a1] (Qwi A (WdC V ad A) res st) := by
  refine cn_of RX7 (by decide) rfl (fun p e s m below meth c ls X hr hlk hW hS hl => ?_) (Nat.le_of_ble_eq_true rfl)
  have hl : lv_has ls 2 [(0, .ref (ad 0)), (1, .int a1)] := hl
  unfold f_X7_squares at hf
  refine lv_iload_n X.hx X.hb dX7_squares_0 rfl (lv_at hl 1 rfl) ?_
  obtain ⟨b1, h1, hf⟩ := bnd hf
  refine cl_i (run_S (As := [.int a1]) (rest := []) X (w_X7_isKind l V A (WdC V ad A) st h1) mw_X7_isKind ln_X7_148 hW hS rfl hl.1 rfl (Nat.le_of_ble_eq_true rfl) ⟨Nat.le_of_ble_eq_true rfl, Nat.le_of_ble_eq_true rfl⟩ ⟨Nat.le_refl _, Nat.le_refl _⟩ dX7_squares_1) hS (fun H locs hW hS => ?_)
  refine lv_if_ne (tgt := 10) X.hx X.hb dX7_squares_4 (by decide) (fun c4 => ?_) (fun c4 => ?_)
  · replace hf := ite_f c4 hf
    refine lv_aload_n X.hx X.hb dX7_squares_10 rfl (lv_at hl 0 rfl) ?_
    refine gX7_finder X hW dX7_squares_11 ?_
    refine lv_iload_n X.hx X.hb dX7_squares_14 rfl (lv_at hl 1 rfl) ?_
    obtain ⟨b15, h15, hf⟩ := bnd hf
    have k15 := X2_ofKind_lt h15
    refine cl_r (run_V (As := [.int a1]) (rest := []) X (w_X2_ofKind l V A ad h15) mw_X2_ofKind ln_X7_151 (rcX2 X hW) hW hS rfl hl.1 rfl (Nat.le_of_ble_eq_true rfl) ⟨Nat.le_of_ble_eq_true rfl, Nat.le_of_ble_eq_true rfl⟩ ⟨Nat.le_refl _, Nat.le_refl _⟩ dX7_squares_15) hS (fun H locs hW hS => ?_)
    obtain ⟨b18, h18, hf⟩ := bnd hf
    refine cl_i (run_V (As := []) (rest := []) X (w_X4_size l V A ad k15 h18) mw_X4_size ln_X7_155 (rcX4 X k15 hW) hW hS rfl hl.1 rfl (Nat.le_of_ble_eq_true rfl) ⟨Nat.le_of_ble_eq_true rfl, Nat.le_of_ble_eq_true rfl⟩ ⟨Nat.le_refl _, Nat.le_refl _⟩ dX7_squares_18) hS (fun H locs hW hS => ?_)
    exact rt_i X hr hlk hW hS (Option.some.inj hf) (Nat.le_refl _) (Nat.le_refl _) dX7_squares_21
  · replace hf := ite_t c4 hf
    refine lv_bipush (v := (-102)) X.hx X.hb dX7_squares_7 (by decide) ?_
    exact rt_i X hr hlk hW hS (Option.some.inj hf) (Nat.le_refl _) (Nat.le_refl _) dX7_squares_9
-- WordSquares.row
noncomputable def f_X7_row_J40 (st : St) : Option Int32 := some (-101)
set_option maxRecDepth 100000 in
theorem f_X7_row_J40_w {st : St} {res : Int32} (X : Cx V A cX7_row 5 RX7 p m c s args) (hr : meth.sig.returnType = (some .int)) (hlk : meth.locks = false)  (H : Heap) (locs : List Loc) (ls : Array Slot)  (hf : f_X7_row_J40 st  = some res) (hW : (WdC V ad A) st H) (hS : va_S A s.heap H locs) (hl : lv_has ls 5 []) : W p l e (rmF 2 42 0 0) s m args below meth c H locs 0 0 (MQ below (Qwi A (WdC V ad A) res st) args s 0 0 A) (F0 m 40 ls []) := by
  
  unfold f_X7_row_J40 at hf
  refine lv_bipush (v := (-101)) X.hx X.hb dX7_row_40 (by decide) ?_
  exact rt_i X hr hlk hW hS (Option.some.inj hf) (Nat.le_refl _) (Nat.le_refl _) dX7_row_42
noncomputable def f_X7_row (st : St) (a1 : Int32) (a2 : Int32) (a3 : Int32) : Option Int32 := (f_X7_isKind a1).bind fun b1 => if b1 = 0 then some (-102) else (f_X2_ofKind st a1).bind fun b15 => (f_X4_has st b15 a2).bind fun b23 => if b23 = 0 then f_X7_row_J40 st else (f_X6_hasPlace st a3).bind fun b34 => if b34 = 0 then f_X7_row_J40 st else (f_X4_rowsOf st b15 a2).bind fun b46 => (f_X6_length st).bind fun b54 => (f_X7_packedWord b46 a3 b54).bind fun b57 => some b57
set_option maxRecDepth 100000 in
theorem w_X7_row (l : Launch) (V : Ev) (A : Nat → Prop) (ad : Nat → Nat) {st : St} {a1 : Int32} {a2 : Int32} {a3 : Int32} {res : Int32} (hf : f_X7_row st a1 a2 a3 = some res) : Cn l yX7_row cX7_row 5 (some .int) 2 42 0 0 V A (WdC V ad A) st [.ref (ad 0), .int a1, .int a2, .int a3] (Qwi A (WdC V ad A) res st) := by
  refine cn_of RX7 (by decide) rfl (fun p e s m below meth c ls X hr hlk hW hS hl => ?_) (Nat.le_of_ble_eq_true rfl)
  have hl : lv_has ls 5 [(0, .ref (ad 0)), (1, .int a1), (2, .int a2), (3, .int a3)] := hl
  unfold f_X7_row at hf
  refine lv_iload_n X.hx X.hb dX7_row_0 rfl (lv_at hl 1 rfl) ?_
  obtain ⟨b1, h1, hf⟩ := bnd hf
  refine cl_i (run_S (As := [.int a1]) (rest := []) X (w_X7_isKind l V A (WdC V ad A) st h1) mw_X7_isKind ln_X7_148 hW hS rfl hl.1 rfl (Nat.le_of_ble_eq_true rfl) ⟨Nat.le_of_ble_eq_true rfl, Nat.le_of_ble_eq_true rfl⟩ ⟨Nat.le_refl _, Nat.le_refl _⟩ dX7_row_1) hS (fun H locs hW hS => ?_)
  refine lv_if_ne (tgt := 10) X.hx X.hb dX7_row_4 (by decide) (fun c4 => ?_) (fun c4 => ?_)
  · replace hf := ite_f c4 hf
    refine lv_aload_n X.hx X.hb dX7_row_10 rfl (lv_at hl 0 rfl) ?_
    refine gX7_finder X hW dX7_row_11 ?_
    refine lv_iload_n X.hx X.hb dX7_row_14 rfl (lv_at hl 1 rfl) ?_
    obtain ⟨b15, h15, hf⟩ := bnd hf
    have k15 := X2_ofKind_lt h15
    refine cl_r (run_V (As := [.int a1]) (rest := []) X (w_X2_ofKind l V A ad h15) mw_X2_ofKind ln_X7_151 (rcX2 X hW) hW hS rfl hl.1 rfl (Nat.le_of_ble_eq_true rfl) ⟨Nat.le_of_ble_eq_true rfl, Nat.le_of_ble_eq_true rfl⟩ ⟨Nat.le_refl _, Nat.le_refl _⟩ dX7_row_15) hS (fun H locs hW hS => ?_)
    refine lv_astore (lv' := [(4, .ref (ad (7 + b15))), (0, .ref (ad 0)), (1, .int a1), (2, .int a2), (3, .int a3)]) X.hx X.hb dX7_row_18 hl (by decide) rfl (fun ls hl => ?_)
    refine lv_aload X.hx X.hb dX7_row_20 (lv_at hl 0 rfl) ?_
    refine lv_iload_n X.hx X.hb dX7_row_22 rfl (lv_at hl 3 rfl) ?_
    obtain ⟨b23, h23, hf⟩ := bnd hf
    refine cl_i (run_V (As := [.int a2]) (rest := []) X (w_X4_has l V A ad k15 h23) mw_X4_has ln_X7_158 (rcX4 X k15 hW) hW hS rfl hl.1 rfl (Nat.le_of_ble_eq_true rfl) ⟨Nat.le_of_ble_eq_true rfl, Nat.le_of_ble_eq_true rfl⟩ ⟨Nat.le_refl _, Nat.le_refl _⟩ dX7_row_23) hS (fun H locs hW hS => ?_)
    refine lv_if_eq (tgt := 40) X.hx X.hb dX7_row_26 (by decide) (fun c26 => ?_) (fun c26 => ?_)
    · replace hf := ite_t c26 hf
      exact f_X7_row_J40_w X hr hlk  _ _ _  hf hW hS (lv_sub hl [] rfl)
    · replace hf := ite_f c26 hf
      refine lv_aload_n X.hx X.hb dX7_row_29 rfl (lv_at hl 1 rfl) ?_
      refine gX7_list X hW dX7_row_30 ?_
      refine lv_iload_n X.hx X.hb dX7_row_33 rfl (lv_at hl 4 rfl) ?_
      obtain ⟨b34, h34, hf⟩ := bnd hf
      refine cl_i (run_V (As := [.int a3]) (rest := []) X (w_X6_hasPlace l V A ad h34) mw_X6_hasPlace ln_X7_136 (rcX6 X hW) hW hS rfl hl.1 rfl (Nat.le_of_ble_eq_true rfl) ⟨Nat.le_of_ble_eq_true rfl, Nat.le_of_ble_eq_true rfl⟩ ⟨Nat.le_refl _, Nat.le_refl _⟩ dX7_row_34) hS (fun H locs hW hS => ?_)
      refine lv_if_ne (tgt := 43) X.hx X.hb dX7_row_37 (by decide) (fun c37 => ?_) (fun c37 => ?_)
      · replace hf := ite_f c37 hf
        refine lv_aload X.hx X.hb dX7_row_43 (lv_at hl 0 rfl) ?_
        refine lv_iload_n X.hx X.hb dX7_row_45 rfl (lv_at hl 3 rfl) ?_
        obtain ⟨b46, h46, hf⟩ := bnd hf
        refine cl_i (run_V (As := [.int a2]) (rest := []) X (w_X4_rowsOf l V A ad k15 h46) mw_X4_rowsOf ln_X7_159 (rcX4 X k15 hW) hW hS rfl hl.1 rfl (Nat.le_of_ble_eq_true rfl) ⟨Nat.le_of_ble_eq_true rfl, Nat.le_of_ble_eq_true rfl⟩ ⟨Nat.le_refl _, Nat.le_refl _⟩ dX7_row_46) hS (fun H locs hW hS => ?_)
        refine lv_iload_n X.hx X.hb dX7_row_49 rfl (lv_at hl 4 rfl) ?_
        refine lv_aload_n X.hx X.hb dX7_row_50 rfl (lv_at hl 1 rfl) ?_
        refine gX7_list X hW dX7_row_51 ?_
        obtain ⟨b54, h54, hf⟩ := bnd hf
        refine cl_i (run_V (As := []) (rest := [.int a3, .int b46]) X (w_X6_length l V A ad h54) mw_X6_length ln_X7_109 (rcX6 X hW) hW hS rfl hl.1 rfl (Nat.le_of_ble_eq_true rfl) ⟨Nat.le_of_ble_eq_true rfl, Nat.le_of_ble_eq_true rfl⟩ ⟨Nat.le_refl _, Nat.le_refl _⟩ dX7_row_54) hS (fun H locs hW hS => ?_)
        obtain ⟨b57, h57, hf⟩ := bnd hf
        refine cl_i (run_S (As := [.int b46, .int a3, .int b54]) (rest := []) X (w_X7_packedWord l V A (WdC V ad A) st h57) mw_X7_packedWord ln_X7_162 hW hS rfl hl.1 rfl (Nat.le_of_ble_eq_true rfl) ⟨Nat.le_of_ble_eq_true rfl, Nat.le_of_ble_eq_true rfl⟩ ⟨Nat.le_refl _, Nat.le_refl _⟩ dX7_row_57) hS (fun H locs hW hS => ?_)
        exact rt_i X hr hlk hW hS (Option.some.inj hf) (Nat.le_refl _) (Nat.le_refl _) dX7_row_60
      · replace hf := ite_t c37 hf
        exact f_X7_row_J40_w X hr hlk  _ _ _  hf hW hS (lv_sub hl [] rfl)
  · replace hf := ite_t c4 hf
    refine lv_bipush (v := (-102)) X.hx X.hb dX7_row_7 (by decide) ?_
    exact rt_i X hr hlk hW hS (Option.some.inj hf) (Nat.le_refl _) (Nat.le_refl _) dX7_row_9
-- WordSquares.turned
noncomputable def f_X7_turned (st : St) (a1 : Int32) : Option Int32 := (f_X2_ofKind st 0).bind fun b5 => (f_X4_has st b5 a1).bind fun b11 => if b11 = 0 then some (-101) else (f_X4_columnsOf st b5 a1).bind fun b23 => (f_X4_withRows st b5 b23).bind fun b26 => some b26
set_option maxRecDepth 100000 in
theorem w_X7_turned (l : Launch) (V : Ev) (A : Nat → Prop) (ad : Nat → Nat) {st : St} {a1 : Int32} {res : Int32} (hf : f_X7_turned st a1 = some res) : Cn l yX7_turned cX7_turned 3 (some .int) 3 65 0 0 V A (WdC V ad A) st [.ref (ad 0), .int a1] (Qwi A (WdC V ad A) res st) := by
  refine cn_of RX7 (by decide) rfl (fun p e s m below meth c ls X hr hlk hW hS hl => ?_) (Nat.le_of_ble_eq_true rfl)
  have hl : lv_has ls 3 [(0, .ref (ad 0)), (1, .int a1)] := hl
  unfold f_X7_turned at hf
  refine lv_aload_n X.hx X.hb dX7_turned_0 rfl (lv_at hl 0 rfl) ?_
  refine gX7_finder X hW dX7_turned_1 ?_
  refine lv_iconst (v := 0) X.hx X.hb dX7_turned_4 (by decide) ?_
  obtain ⟨b5, h5, hf⟩ := bnd hf
  have k5 := X2_ofKind_lt h5
  refine cl_r (run_V (As := [.int 0]) (rest := []) X (w_X2_ofKind l V A ad h5) mw_X2_ofKind ln_X7_151 (rcX2 X hW) hW hS rfl hl.1 rfl (Nat.le_of_ble_eq_true rfl) ⟨Nat.le_of_ble_eq_true rfl, Nat.le_of_ble_eq_true rfl⟩ ⟨Nat.le_refl _, Nat.le_refl _⟩ dX7_turned_5) hS (fun H locs hW hS => ?_)
  refine lv_astore_n (lv' := [(2, .ref (ad (7 + b5))), (0, .ref (ad 0)), (1, .int a1)]) X.hx X.hb dX7_turned_8 rfl hl (by decide) rfl (fun ls hl => ?_)
  refine lv_aload_n X.hx X.hb dX7_turned_9 rfl (lv_at hl 0 rfl) ?_
  refine lv_iload_n X.hx X.hb dX7_turned_10 rfl (lv_at hl 2 rfl) ?_
  obtain ⟨b11, h11, hf⟩ := bnd hf
  refine cl_i (run_V (As := [.int a1]) (rest := []) X (w_X4_has l V A ad k5 h11) mw_X4_has ln_X7_158 (rcX4 X k5 hW) hW hS rfl hl.1 rfl (Nat.le_of_ble_eq_true rfl) ⟨Nat.le_of_ble_eq_true rfl, Nat.le_of_ble_eq_true rfl⟩ ⟨Nat.le_refl _, Nat.le_refl _⟩ dX7_turned_11) hS (fun H locs hW hS => ?_)
  refine lv_if_ne (tgt := 20) X.hx X.hb dX7_turned_14 (by decide) (fun c14 => ?_) (fun c14 => ?_)
  · replace hf := ite_f c14 hf
    refine lv_aload_n X.hx X.hb dX7_turned_20 rfl (lv_at hl 0 rfl) ?_
    refine lv_aload_n X.hx X.hb dX7_turned_21 rfl (lv_at hl 0 rfl) ?_
    refine lv_iload_n X.hx X.hb dX7_turned_22 rfl (lv_at hl 2 rfl) ?_
    obtain ⟨b23, h23, hf⟩ := bnd hf
    refine cl_i (run_V (As := [.int a1]) (rest := [.ref (ad (7 + b5))]) X (w_X4_columnsOf l V A ad k5 h23) mw_X4_columnsOf ln_X7_166 (rcX4 X k5 hW) hW hS rfl hl.1 rfl (Nat.le_of_ble_eq_true rfl) ⟨Nat.le_of_ble_eq_true rfl, Nat.le_of_ble_eq_true rfl⟩ ⟨Nat.le_refl _, Nat.le_refl _⟩ dX7_turned_23) hS (fun H locs hW hS => ?_)
    obtain ⟨b26, h26, hf⟩ := bnd hf
    refine cl_i (run_V (As := [.int b23]) (rest := []) X (w_X4_withRows l V A ad k5 h26) mw_X4_withRows ln_X7_169 (rcX4 X k5 hW) hW hS rfl hl.1 rfl (Nat.le_of_ble_eq_true rfl) ⟨Nat.le_of_ble_eq_true rfl, Nat.le_of_ble_eq_true rfl⟩ ⟨Nat.le_refl _, Nat.le_refl _⟩ dX7_turned_26) hS (fun H locs hW hS => ?_)
    exact rt_i X hr hlk hW hS (Option.some.inj hf) (Nat.le_refl _) (Nat.le_refl _) dX7_turned_29
  · replace hf := ite_t c14 hf
    refine lv_bipush (v := (-101)) X.hx X.hb dX7_turned_17 (by decide) ?_
    exact rt_i X hr hlk hW hS (Option.some.inj hf) (Nat.le_refl _) (Nat.le_refl _) dX7_turned_19
-- WordSquares.weightOfSquare
noncomputable def f_X7_weightOfSquare_L19 (st : St) : Nat → Int32 → Int32 → Int32 → Int32 → Option Int32
  | 0, _, _, _, _ => none
  | fu + 1, x3, x4, x5, x6 => (f_X6_length st).bind fun b25 => if b25 ≤ x6 then some x5 else (f_X6_weightOf st (x3 &&& 15)).bind fun b41 => (f_X6_weightOf st (x4 &&& 15)).bind fun b53 => lt (x5 + (b41 + b53)) fun w58 => lt (x3 >>> (4 &&& 31)) fun w63 => lt (x4 >>> (4 &&& 31)) fun w68 => lt (x6 + 1) fun w70 => (f_X7_weightOfSquare_L19 st fu) w63 w68 w58 w70
set_option maxRecDepth 100000 in
theorem f_X7_weightOfSquare_L19_w {st : St} {res : Int32} (X : Cx V A cX7_weightOfSquare 7 RX7 p m c s args) (hr : meth.sig.returnType = (some .int)) (hlk : meth.locks = false)  : ∀ (n9 : Nat) (x3 : Int32) (x4 : Int32) (x5 : Int32) (x6 : Int32) (H : Heap) (locs : List Loc) (ls : Array Slot), f_X7_weightOfSquare_L19 st n9 x3 x4 x5 x6 = some res → (WdC V ad A) st H → va_S A s.heap H locs → lv_has ls 7 [(0, .ref (ad 0)), (3, .int x3), (4, .int x4), (5, .int x5), (6, .int x6)] → W p l e (rmF 2 42 0 0) s m args below meth c H locs 0 0 (MQ below (Qwi A (WdC V ad A) res st) args s 0 0 A) (F0 m 19 ls []) := by
  intro n9
  induction n9 with
  | zero =>
    intro x3 x4 x5 x6 H locs ls hf
    exact absurd hf (by unfold f_X7_weightOfSquare_L19; exact fun h => by cases h)
  | succ n9 hr19 =>
    intro x3 x4 x5 x6 H locs ls hf hW hS hl
    
    unfold f_X7_weightOfSquare_L19 at hf
    refine lv_iload X.hx X.hb dX7_weightOfSquare_19 (lv_at hl 4 rfl) ?_
    refine lv_aload_n X.hx X.hb dX7_weightOfSquare_21 rfl (lv_at hl 0 rfl) ?_
    refine gX7_list X hW dX7_weightOfSquare_22 ?_
    obtain ⟨b25, h25, hf⟩ := bnd hf
    refine cl_i (run_V (As := []) (rest := [.int x6]) X (w_X6_length l V A ad h25) mw_X6_length ln_X7_109 (rcX6 X hW) hW hS rfl hl.1 rfl (Nat.le_of_ble_eq_true rfl) ⟨Nat.le_of_ble_eq_true rfl, Nat.le_of_ble_eq_true rfl⟩ ⟨Nat.le_refl _, Nat.le_refl _⟩ dX7_weightOfSquare_25) hS (fun H locs hW hS => ?_)
    refine lv_icmp_ge (tgt := 76) X.hx X.hb dX7_weightOfSquare_28 (by decide) (fun c28 => ?_) (fun c28 => ?_)
    · replace hf := ite_t c28 hf
      refine lv_iload X.hx X.hb dX7_weightOfSquare_76 (lv_at hl 3 rfl) ?_
      exact rt_i X hr hlk hW hS (Option.some.inj hf) (Nat.le_refl _) (Nat.le_refl _) dX7_weightOfSquare_78
    · replace hf := ite_f c28 hf
      refine lv_iload X.hx X.hb dX7_weightOfSquare_31 (lv_at hl 3 rfl) ?_
      refine lv_aload_n X.hx X.hb dX7_weightOfSquare_33 rfl (lv_at hl 0 rfl) ?_
      refine gX7_list X hW dX7_weightOfSquare_34 ?_
      refine lv_iload_n X.hx X.hb dX7_weightOfSquare_37 rfl (lv_at hl 1 rfl) ?_
      refine lv_bipush (v := 15) X.hx X.hb dX7_weightOfSquare_38 (by decide) ?_
      refine lv_iand X.hx X.hb dX7_weightOfSquare_40 ?_
      obtain ⟨b41, h41, hf⟩ := bnd hf
      refine cl_i (run_V (As := [.int (x3 &&& 15)]) (rest := [.int x5]) X (w_X6_weightOf l V A ad h41) mw_X6_weightOf ln_X7_103 (rcX6 X hW) hW hS rfl hl.1 rfl (Nat.le_of_ble_eq_true rfl) ⟨Nat.le_of_ble_eq_true rfl, Nat.le_of_ble_eq_true rfl⟩ ⟨Nat.le_refl _, Nat.le_refl _⟩ dX7_weightOfSquare_41) hS (fun H locs hW hS => ?_)
      refine lv_aload_n X.hx X.hb dX7_weightOfSquare_44 rfl (lv_at hl 0 rfl) ?_
      refine gX7_list X hW dX7_weightOfSquare_45 ?_
      refine lv_iload X.hx X.hb dX7_weightOfSquare_48 (lv_at hl 2 rfl) ?_
      refine lv_bipush (v := 15) X.hx X.hb dX7_weightOfSquare_50 (by decide) ?_
      refine lv_iand X.hx X.hb dX7_weightOfSquare_52 ?_
      obtain ⟨b53, h53, hf⟩ := bnd hf
      refine cl_i (run_V (As := [.int (x4 &&& 15)]) (rest := [.int b41, .int x5]) X (w_X6_weightOf l V A ad h53) mw_X6_weightOf ln_X7_103 (rcX6 X hW) hW hS rfl hl.1 rfl (Nat.le_of_ble_eq_true rfl) ⟨Nat.le_of_ble_eq_true rfl, Nat.le_of_ble_eq_true rfl⟩ ⟨Nat.le_refl _, Nat.le_refl _⟩ dX7_weightOfSquare_53) hS (fun H locs hW hS => ?_)
      refine lv_iadd X.hx X.hb dX7_weightOfSquare_56 ?_
      refine lv_iadd X.hx X.hb dX7_weightOfSquare_57 ?_
      obtain ⟨w58, e58, hf⟩ := lt_e hf
      refine lv_nm e58 ?_
      refine lv_istore (lv' := [(5, .int w58), (0, .ref (ad 0)), (3, .int x3), (4, .int x4), (6, .int x6)]) X.hx X.hb dX7_weightOfSquare_58 hl (by decide) rfl (fun ls hl => ?_)
      refine lv_iload_n X.hx X.hb dX7_weightOfSquare_60 rfl (lv_at hl 2 rfl) ?_
      refine lv_iconst (v := 4) X.hx X.hb dX7_weightOfSquare_61 (by decide) ?_
      refine lv_ishr X.hx X.hb dX7_weightOfSquare_62 ?_
      obtain ⟨w63, e63, hf⟩ := lt_e hf
      refine lv_nm e63 ?_
      refine lv_istore_n (lv' := [(3, .int w63), (5, .int w58), (0, .ref (ad 0)), (4, .int x4), (6, .int x6)]) X.hx X.hb dX7_weightOfSquare_63 rfl hl (by decide) rfl (fun ls hl => ?_)
      refine lv_iload X.hx X.hb dX7_weightOfSquare_64 (lv_at hl 3 rfl) ?_
      refine lv_iconst (v := 4) X.hx X.hb dX7_weightOfSquare_66 (by decide) ?_
      refine lv_ishr X.hx X.hb dX7_weightOfSquare_67 ?_
      obtain ⟨w68, e68, hf⟩ := lt_e hf
      refine lv_nm e68 ?_
      refine lv_istore (lv' := [(4, .int w68), (3, .int w63), (5, .int w58), (0, .ref (ad 0)), (6, .int x6)]) X.hx X.hb dX7_weightOfSquare_68 hl (by decide) rfl (fun ls hl => ?_)
      obtain ⟨w70, e70, hf⟩ := lt_e hf
      refine lv_iinc (v := w70) (lv' := [(6, .int w70), (4, .int w68), (3, .int w63), (5, .int w58), (0, .ref (ad 0))]) X.hx X.hb dX7_weightOfSquare_70 hl (k := 4) rfl (by rw [e70]; rfl) (by decide) rfl (fun ls hl => ?_)
      refine lv_goto (tgt := 19) X.hx X.hb dX7_weightOfSquare_73 (by decide) ?_
      exact hr19 _ _ _ _ _ _ _  hf hW hS (lv_sub hl [4, 2, 1, 3, 0] rfl)
noncomputable def f_X7_weightOfSquare (st : St) (a1 : Nat) (a2 : Int32) : Option Int32 := (f_X4_rowsOf st a1 a2).bind fun b2 => (f_X4_columnsOf st a1 a2).bind fun b8 => f_X7_weightOfSquare_L19 st FU b2 b8 0 0
set_option maxRecDepth 100000 in
theorem w_X7_weightOfSquare (l : Launch) (V : Ev) (A : Nat → Prop) (ad : Nat → Nat) {st : St} {a1 : Nat} {a2 : Int32} {res : Int32} (ha1 : a1 < 3) (hf : f_X7_weightOfSquare st a1 a2 = some res) : Cn l yX7_weightOfSquare cX7_weightOfSquare 7 (some .int) 2 42 0 0 V A (WdC V ad A) st [.ref (ad 0), .ref (ad (7 + a1)), .int a2] (Qwi A (WdC V ad A) res st) := by
  refine cn_of RX7 (by decide) rfl (fun p e s m below meth c ls X hr hlk hW hS hl => ?_) (Nat.le_of_ble_eq_true rfl)
  have hl : lv_has ls 7 [(0, .ref (ad 0)), (1, .ref (ad (7 + a1))), (2, .int a2)] := hl
  unfold f_X7_weightOfSquare at hf
  refine lv_aload_n X.hx X.hb dX7_weightOfSquare_0 rfl (lv_at hl 1 rfl) ?_
  refine lv_iload_n X.hx X.hb dX7_weightOfSquare_1 rfl (lv_at hl 2 rfl) ?_
  obtain ⟨b2, h2, hf⟩ := bnd hf
  refine cl_i (run_V (As := [.int a2]) (rest := []) X (w_X4_rowsOf l V A ad ha1 h2) mw_X4_rowsOf ln_X7_159 (rcX4 X ha1 hW) hW hS rfl hl.1 rfl (Nat.le_of_ble_eq_true rfl) ⟨Nat.le_of_ble_eq_true rfl, Nat.le_of_ble_eq_true rfl⟩ ⟨Nat.le_refl _, Nat.le_refl _⟩ dX7_weightOfSquare_2) hS (fun H locs hW hS => ?_)
  refine lv_istore_n (lv' := [(3, .int b2), (0, .ref (ad 0)), (1, .ref (ad (7 + a1))), (2, .int a2)]) X.hx X.hb dX7_weightOfSquare_5 rfl hl (by decide) rfl (fun ls hl => ?_)
  refine lv_aload_n X.hx X.hb dX7_weightOfSquare_6 rfl (lv_at hl 2 rfl) ?_
  refine lv_iload_n X.hx X.hb dX7_weightOfSquare_7 rfl (lv_at hl 3 rfl) ?_
  obtain ⟨b8, h8, hf⟩ := bnd hf
  refine cl_i (run_V (As := [.int a2]) (rest := []) X (w_X4_columnsOf l V A ad ha1 h8) mw_X4_columnsOf ln_X7_166 (rcX4 X ha1 hW) hW hS rfl hl.1 rfl (Nat.le_of_ble_eq_true rfl) ⟨Nat.le_of_ble_eq_true rfl, Nat.le_of_ble_eq_true rfl⟩ ⟨Nat.le_refl _, Nat.le_refl _⟩ dX7_weightOfSquare_8) hS (fun H locs hW hS => ?_)
  refine lv_istore (lv' := [(4, .int b8), (3, .int b2), (0, .ref (ad 0)), (1, .ref (ad (7 + a1))), (2, .int a2)]) X.hx X.hb dX7_weightOfSquare_11 hl (by decide) rfl (fun ls hl => ?_)
  refine lv_iconst (v := 0) X.hx X.hb dX7_weightOfSquare_13 (by decide) ?_
  refine lv_istore (lv' := [(5, .int 0), (4, .int b8), (3, .int b2), (0, .ref (ad 0)), (1, .ref (ad (7 + a1))), (2, .int a2)]) X.hx X.hb dX7_weightOfSquare_14 hl (by decide) rfl (fun ls hl => ?_)
  refine lv_iconst (v := 0) X.hx X.hb dX7_weightOfSquare_16 (by decide) ?_
  refine lv_istore (lv' := [(6, .int 0), (5, .int 0), (4, .int b8), (3, .int b2), (0, .ref (ad 0)), (1, .ref (ad (7 + a1))), (2, .int a2)]) X.hx X.hb dX7_weightOfSquare_17 hl (by decide) rfl (fun ls hl => ?_)
  exact f_X7_weightOfSquare_L19_w X hr hlk FU _ _ _ _ _ _ _  hf hW hS (lv_sub hl [4, 3, 2, 1, 0] rfl)
-- WordSquares.greatestOf
noncomputable def f_X7_greatestOf_J37 (st : St) (r7 : Nat → Int32 → Int32 → Int32 → Option Int32) (x1 : Nat) (x2 : Int32) (x3 : Int32) (x4 : Int32) : Option Int32 := lt (x4 + 1) fun w37 => r7 x1 x2 x3 w37
set_option maxRecDepth 100000 in
theorem f_X7_greatestOf_J37_w {st : St} {r7 : Nat → Int32 → Int32 → Int32 → Option Int32} {res : Int32} (X : Cx V A cX7_greatestOf 6 RX7 p m c s args) (hr : meth.sig.returnType = (some .int)) (hlk : meth.locks = false) (hr7 : ∀ (x1 : Nat) (x2 : Int32) (x3 : Int32) (x4 : Int32) (H : Heap) (locs : List Loc) (ls : Array Slot), x1 < 3 → r7 x1 x2 x3 x4 = some res → (WdC V ad A) st H → va_S A s.heap H locs → lv_has ls 6 [(0, .ref (ad 0)), (1, .ref (ad (7 + x1))), (2, .int x2), (3, .int x3), (4, .int x4)] → W p l e (rmF 3 68 0 0) s m args below meth c H locs 0 0 (MQ below (Qwi A (WdC V ad A) res st) args s 0 0 A) (F0 m 7 ls [])) (x1 : Nat) (x2 : Int32) (x3 : Int32) (x4 : Int32) (H : Heap) (locs : List Loc) (ls : Array Slot) (hx1 : x1 < 3) (hf : f_X7_greatestOf_J37 st r7 x1 x2 x3 x4 = some res) (hW : (WdC V ad A) st H) (hS : va_S A s.heap H locs) (hl : lv_has ls 6 [(0, .ref (ad 0)), (1, .ref (ad (7 + x1))), (2, .int x2), (3, .int x3), (4, .int x4)]) : W p l e (rmF 3 68 0 0) s m args below meth c H locs 0 0 (MQ below (Qwi A (WdC V ad A) res st) args s 0 0 A) (F0 m 37 ls []) := by
  
  unfold f_X7_greatestOf_J37 at hf
  obtain ⟨w37, e37, hf⟩ := lt_e hf
  refine lv_iinc (v := w37) (lv' := [(4, .int w37), (0, .ref (ad 0)), (1, .ref (ad (7 + x1))), (2, .int x2), (3, .int x3)]) X.hx X.hb dX7_greatestOf_37 hl (k := 4) rfl (by rw [e37]; rfl) (by decide) rfl (fun ls hl => ?_)
  refine lv_goto (tgt := 7) X.hx X.hb dX7_greatestOf_40 (by decide) ?_
  exact hr7 _ _ _ _ _ _ _ hx1 hf hW hS (lv_sub hl [1, 2, 3, 4, 0] rfl)
noncomputable def f_X7_greatestOf_L7 (st : St) : Nat → Nat → Int32 → Int32 → Int32 → Option Int32
  | 0, _, _, _, _ => none
  | fu + 1, x1, x2, x3, x4 => (f_X4_size st x1).bind fun b10 => if b10 ≤ x4 then some x2 else (f_X7_weightOfSquare st x1 x4).bind fun b20 => if b20 ≤ x3 then f_X7_greatestOf_J37 st ((f_X7_greatestOf_L7 st fu)) x1 x2 x3 x4 else f_X7_greatestOf_J37 st ((f_X7_greatestOf_L7 st fu)) x1 x4 b20 x4
set_option maxRecDepth 100000 in
theorem f_X7_greatestOf_L7_w {st : St} {res : Int32} (X : Cx V A cX7_greatestOf 6 RX7 p m c s args) (hr : meth.sig.returnType = (some .int)) (hlk : meth.locks = false)  : ∀ (n9 : Nat) (x1 : Nat) (x2 : Int32) (x3 : Int32) (x4 : Int32) (H : Heap) (locs : List Loc) (ls : Array Slot), x1 < 3 → f_X7_greatestOf_L7 st n9 x1 x2 x3 x4 = some res → (WdC V ad A) st H → va_S A s.heap H locs → lv_has ls 6 [(0, .ref (ad 0)), (1, .ref (ad (7 + x1))), (2, .int x2), (3, .int x3), (4, .int x4)] → W p l e (rmF 3 68 0 0) s m args below meth c H locs 0 0 (MQ below (Qwi A (WdC V ad A) res st) args s 0 0 A) (F0 m 7 ls []) := by
  intro n9
  induction n9 with
  | zero =>
    intro x1 x2 x3 x4 H locs ls hx1 hf
    exact absurd hf (by unfold f_X7_greatestOf_L7; exact fun h => by cases h)
  | succ n9 hr7 =>
    intro x1 x2 x3 x4 H locs ls hx1 hf hW hS hl
    
    unfold f_X7_greatestOf_L7 at hf
    refine lv_iload X.hx X.hb dX7_greatestOf_7 (lv_at hl 4 rfl) ?_
    refine lv_aload_n X.hx X.hb dX7_greatestOf_9 rfl (lv_at hl 1 rfl) ?_
    obtain ⟨b10, h10, hf⟩ := bnd hf
    refine cl_i (run_V (As := []) (rest := [.int x4]) X (w_X4_size l V A ad hx1 h10) mw_X4_size ln_X7_155 (rcX4 X hx1 hW) hW hS rfl hl.1 rfl (Nat.le_of_ble_eq_true rfl) ⟨Nat.le_of_ble_eq_true rfl, Nat.le_of_ble_eq_true rfl⟩ ⟨Nat.le_refl _, Nat.le_refl _⟩ dX7_greatestOf_10) hS (fun H locs hW hS => ?_)
    refine lv_icmp_ge (tgt := 43) X.hx X.hb dX7_greatestOf_13 (by decide) (fun c13 => ?_) (fun c13 => ?_)
    · replace hf := ite_t c13 hf
      refine lv_iload_n X.hx X.hb dX7_greatestOf_43 rfl (lv_at hl 2 rfl) ?_
      exact rt_i X hr hlk hW hS (Option.some.inj hf) (Nat.le_refl _) (Nat.le_refl _) dX7_greatestOf_44
    · replace hf := ite_f c13 hf
      refine lv_aload_n X.hx X.hb dX7_greatestOf_16 rfl (lv_at hl 0 rfl) ?_
      refine lv_aload_n X.hx X.hb dX7_greatestOf_17 rfl (lv_at hl 1 rfl) ?_
      refine lv_iload X.hx X.hb dX7_greatestOf_18 (lv_at hl 4 rfl) ?_
      obtain ⟨b20, h20, hf⟩ := bnd hf
      refine cl_i (run_V (As := [.ref (ad (7 + x1)), .int x4]) (rest := []) X (w_X7_weightOfSquare l V A ad hx1 h20) mw_X7_weightOfSquare ln_X7_176 (rcX7 X hW) hW hS rfl hl.1 rfl (Nat.le_of_ble_eq_true rfl) ⟨Nat.le_of_ble_eq_true rfl, Nat.le_of_ble_eq_true rfl⟩ ⟨Nat.le_refl _, Nat.le_refl _⟩ dX7_greatestOf_20) hS (fun H locs hW hS => ?_)
      refine lv_istore (lv' := [(5, .int b20), (0, .ref (ad 0)), (1, .ref (ad (7 + x1))), (2, .int x2), (3, .int x3), (4, .int x4)]) X.hx X.hb dX7_greatestOf_23 hl (by decide) rfl (fun ls hl => ?_)
      refine lv_iload X.hx X.hb dX7_greatestOf_25 (lv_at hl 0 rfl) ?_
      refine lv_iload_n X.hx X.hb dX7_greatestOf_27 rfl (lv_at hl 4 rfl) ?_
      refine lv_icmp_le (tgt := 37) X.hx X.hb dX7_greatestOf_28 (by decide) (fun c28 => ?_) (fun c28 => ?_)
      · replace hf := ite_t c28 hf
        exact f_X7_greatestOf_J37_w X hr hlk hr7 _ _ _ _ _ _ _ hx1 hf hW hS (lv_sub hl [1, 2, 3, 4, 5] rfl)
      · replace hf := ite_f c28 hf
        refine lv_iload X.hx X.hb dX7_greatestOf_31 (lv_at hl 0 rfl) ?_
        refine lv_istore_n (lv' := [(3, .int b20), (5, .int b20), (0, .ref (ad 0)), (1, .ref (ad (7 + x1))), (2, .int x2), (4, .int x4)]) X.hx X.hb dX7_greatestOf_33 rfl hl (by decide) rfl (fun ls hl => ?_)
        refine lv_iload X.hx X.hb dX7_greatestOf_34 (lv_at hl 5 rfl) ?_
        refine lv_istore_n (lv' := [(2, .int x4), (3, .int b20), (5, .int b20), (0, .ref (ad 0)), (1, .ref (ad (7 + x1))), (4, .int x4)]) X.hx X.hb dX7_greatestOf_36 rfl hl (by decide) rfl (fun ls hl => ?_)
        exact f_X7_greatestOf_J37_w X hr hlk hr7 _ _ _ _ _ _ _ hx1 hf hW hS (lv_sub hl [3, 4, 0, 1, 5] rfl)
noncomputable def f_X7_greatestOf (st : St) (a1 : Nat) : Option Int32 := f_X7_greatestOf_L7 st FU a1 (-1) 0 0
set_option maxRecDepth 100000 in
theorem w_X7_greatestOf (l : Launch) (V : Ev) (A : Nat → Prop) (ad : Nat → Nat) {st : St} {a1 : Nat} {res : Int32} (ha1 : a1 < 3) (hf : f_X7_greatestOf st a1 = some res) : Cn l yX7_greatestOf cX7_greatestOf 6 (some .int) 3 68 0 0 V A (WdC V ad A) st [.ref (ad 0), .ref (ad (7 + a1))] (Qwi A (WdC V ad A) res st) := by
  refine cn_of RX7 (by decide) rfl (fun p e s m below meth c ls X hr hlk hW hS hl => ?_) (Nat.le_of_ble_eq_true rfl)
  have hl : lv_has ls 6 [(0, .ref (ad 0)), (1, .ref (ad (7 + a1)))] := hl
  unfold f_X7_greatestOf at hf
  refine lv_iconst (v := (-1)) X.hx X.hb dX7_greatestOf_0 (by decide) ?_
  refine lv_istore_n (lv' := [(2, .int (-1)), (0, .ref (ad 0)), (1, .ref (ad (7 + a1)))]) X.hx X.hb dX7_greatestOf_1 rfl hl (by decide) rfl (fun ls hl => ?_)
  refine lv_iconst (v := 0) X.hx X.hb dX7_greatestOf_2 (by decide) ?_
  refine lv_istore_n (lv' := [(3, .int 0), (2, .int (-1)), (0, .ref (ad 0)), (1, .ref (ad (7 + a1)))]) X.hx X.hb dX7_greatestOf_3 rfl hl (by decide) rfl (fun ls hl => ?_)
  refine lv_iconst (v := 0) X.hx X.hb dX7_greatestOf_4 (by decide) ?_
  refine lv_istore (lv' := [(4, .int 0), (3, .int 0), (2, .int (-1)), (0, .ref (ad 0)), (1, .ref (ad (7 + a1)))]) X.hx X.hb dX7_greatestOf_5 hl (by decide) rfl (fun ls hl => ?_)
  exact f_X7_greatestOf_L7_w X hr hlk FU _ _ _ _ _ _ _ ha1 hf hW hS (lv_sub hl [3, 4, 2, 1, 0] rfl)
-- WordSquares.heaviest
noncomputable def f_X7_heaviest_J53 (st : St) (x1 : Int32) : Option (Int32 × St) := if inb x1 3 = true then some (st.2.1 10 x1.toNatClampNeg, st) else none
theorem f_X7_heaviest_J53_l {res : (Int32 × St)} (st : St) (x1 : Int32) (hf : f_X7_heaviest_J53 st x1 = some res) : phi res.2 = phi st := by
  unfold f_X7_heaviest_J53 at hf
  obtain ⟨h58, hf⟩ := ite_n hf
  have q9 := congrArg (fun z => phi z.2) (Option.some.inj hf)
  dsimp only at q9
  omega
set_option maxRecDepth 100000 in
theorem f_X7_heaviest_J53_w {res : (Int32 × St)} (X : Cx V A cX7_heaviest 3 RX7 p m c s args) (hr : meth.sig.returnType = (some .int)) (hlk : meth.locks = false)  (st : St) (x1 : Int32) (H : Heap) (locs : List Loc) (ls : Array Slot)  (hf : f_X7_heaviest_J53 st x1 = some res) (hW : (WdC V ad A) st H) (hS : va_S A s.heap H locs) (hl : lv_has ls 3 [(0, .ref (ad 0)), (1, .int x1)]) : W p l e (rmF 4 93 0 0) s m args below meth c H locs 0 0 (MQ below (Qwi A (WdC V ad A) res.1 res.2) args s 0 0 A) (F0 m 53 ls []) := by
  
  unfold f_X7_heaviest_J53 at hf
  refine lv_aload_n X.hx X.hb dX7_heaviest_53 rfl (lv_at hl 0 rfl) ?_
  refine gX7_best X hW dX7_heaviest_54 ?_
  refine lv_iload_n X.hx X.hb dX7_heaviest_57 rfl (lv_at hl 1 rfl) ?_
  obtain ⟨h58, hf⟩ := ite_n hf
  refine aC_ld X hW isA_10 rfl h58 dX7_heaviest_58 ?_
  exact rt_i X hr hlk (by rw [← Option.some.inj hf]; exact hW) hS (by rw [← Option.some.inj hf]) (Nat.le_refl _) (Nat.le_refl _) dX7_heaviest_59
noncomputable def f_X7_heaviest_L19 : Nat → St → Int32 → Int32 → Option (Int32 × St)
  | 0, _, _, _ => none
  | fu + 1, st, x1, x2 => if 3 ≤ x2 then lt (sI st 0 1) fun s50 => f_X7_heaviest_J53 s50 x1 else (f_X2_ofKind st x2).bind fun b35 => (f_X7_greatestOf st b35).bind fun b38 => if inb x2 3 = true then lt (sA st 10 x2.toNatClampNeg b38) fun s41 => lt (x2 + 1) fun w42 => (f_X7_heaviest_L19 fu) s41 x1 w42 else none
theorem f_X7_heaviest_L19_l {res : (Int32 × St)} : ∀ (n9 : Nat) (st : St) (x1 : Int32) (x2 : Int32), f_X7_heaviest_L19 n9 st x1 x2 = some res → phi res.2 = phi st := by
  intro n9
  induction n9 with
  | zero =>
    intro st x1 x2 hf
    exact absurd hf (by unfold f_X7_heaviest_L19; exact fun h => by cases h)
  | succ n9 hq19 =>
    intro st x1 x2 hf
    unfold f_X7_heaviest_L19 at hf
    by_cases c21 : 3 ≤ x2
    · replace hf := ite_t c21 hf
      obtain ⟨s50, e50, hf⟩ := lt_e hf
      have p50 : phi s50 = phi st := by rw [e50]; rfl
      have q9 := f_X7_heaviest_J53_l  _ _ hf
      omega
    · replace hf := ite_f c21 hf
      obtain ⟨b35, h35, hf⟩ := bnd hf
      obtain ⟨b38, h38, hf⟩ := bnd hf
      obtain ⟨h41, hf⟩ := ite_n hf
      obtain ⟨s41, e41, hf⟩ := lt_e hf
      have p41 : phi s41 = phi st := by rw [e41]; rfl
      obtain ⟨w42, e42, hf⟩ := lt_e hf
      have q9 := hq19 _ _ _ hf
      omega
set_option maxRecDepth 100000 in
theorem f_X7_heaviest_L19_w {res : (Int32 × St)} (X : Cx V A cX7_heaviest 3 RX7 p m c s args) (hr : meth.sig.returnType = (some .int)) (hlk : meth.locks = false)  : ∀ (n9 : Nat) (st : St) (x1 : Int32) (x2 : Int32) (H : Heap) (locs : List Loc) (ls : Array Slot), f_X7_heaviest_L19 n9 st x1 x2 = some res → (WdC V ad A) st H → va_S A s.heap H locs → lv_has ls 3 [(0, .ref (ad 0)), (1, .int x1), (2, .int x2)] → W p l e (rmF 4 93 0 0) s m args below meth c H locs 0 0 (MQ below (Qwi A (WdC V ad A) res.1 res.2) args s 0 0 A) (F0 m 19 ls []) := by
  intro n9
  induction n9 with
  | zero =>
    intro st x1 x2 H locs ls hf
    exact absurd hf (by unfold f_X7_heaviest_L19; exact fun h => by cases h)
  | succ n9 hr19 =>
    intro st x1 x2 H locs ls hf hW hS hl
    
    unfold f_X7_heaviest_L19 at hf
    refine lv_iload_n X.hx X.hb dX7_heaviest_19 rfl (lv_at hl 2 rfl) ?_
    refine lv_iconst (v := 3) X.hx X.hb dX7_heaviest_20 (by decide) ?_
    refine lv_icmp_ge (tgt := 48) X.hx X.hb dX7_heaviest_21 (by decide) (fun c21 => ?_) (fun c21 => ?_)
    · replace hf := ite_t c21 hf
      refine lv_aload_n X.hx X.hb dX7_heaviest_48 rfl (lv_at hl 0 rfl) ?_
      refine lv_iconst (v := 1) X.hx X.hb dX7_heaviest_49 (by decide) ?_
      obtain ⟨s50, e50, hf⟩ := lt_e hf
      refine pX7_compared X hW hS (Or.inr rfl) dX7_heaviest_50 (fun H locs hW hS => ?_)
      rw [← e50] at hW
      exact f_X7_heaviest_J53_w X hr hlk _ _ _ _ _  hf hW hS (lv_sub hl [0, 1] rfl)
    · replace hf := ite_f c21 hf
      refine lv_aload_n X.hx X.hb dX7_heaviest_24 rfl (lv_at hl 0 rfl) ?_
      refine gX7_best X hW dX7_heaviest_25 ?_
      refine lv_iload_n X.hx X.hb dX7_heaviest_28 rfl (lv_at hl 2 rfl) ?_
      refine lv_aload_n X.hx X.hb dX7_heaviest_29 rfl (lv_at hl 0 rfl) ?_
      refine lv_aload_n X.hx X.hb dX7_heaviest_30 rfl (lv_at hl 0 rfl) ?_
      refine gX7_finder X hW dX7_heaviest_31 ?_
      refine lv_iload_n X.hx X.hb dX7_heaviest_34 rfl (lv_at hl 2 rfl) ?_
      obtain ⟨b35, h35, hf⟩ := bnd hf
      have k35 := X2_ofKind_lt h35
      refine cl_r (run_V (As := [.int x2]) (rest := [.ref (ad 0), .int x2, .ref (ad 10)]) X (w_X2_ofKind l V A ad h35) mw_X2_ofKind ln_X7_151 (rcX2 X hW) hW hS rfl hl.1 rfl (Nat.le_of_ble_eq_true rfl) ⟨Nat.le_of_ble_eq_true rfl, Nat.le_of_ble_eq_true rfl⟩ ⟨Nat.le_refl _, Nat.le_refl _⟩ dX7_heaviest_35) hS (fun H locs hW hS => ?_)
      obtain ⟨b38, h38, hf⟩ := bnd hf
      refine cl_i (run_V (As := [.ref (ad (7 + b35))]) (rest := [.int x2, .ref (ad 10)]) X (w_X7_greatestOf l V A ad k35 h38) mw_X7_greatestOf ln_X7_172 (rcX7 X hW) hW hS rfl hl.1 rfl (Nat.le_of_ble_eq_true rfl) ⟨Nat.le_of_ble_eq_true rfl, Nat.le_of_ble_eq_true rfl⟩ ⟨Nat.le_refl _, Nat.le_refl _⟩ dX7_heaviest_38) hS (fun H locs hW hS => ?_)
      obtain ⟨h41, hf⟩ := ite_n hf
      obtain ⟨s41, e41, hf⟩ := lt_e hf
      refine aC_st X hW hS isA_10 rfl h41 dX7_heaviest_41 (fun H locs hW hS => ?_)
      rw [← e41] at hW
      obtain ⟨w42, e42, hf⟩ := lt_e hf
      refine lv_iinc (v := w42) (lv' := [(2, .int w42), (0, .ref (ad 0)), (1, .int x1)]) X.hx X.hb dX7_heaviest_42 hl (k := 2) rfl (by rw [e42]; rfl) (by decide) rfl (fun ls hl => ?_)
      refine lv_goto (tgt := 19) X.hx X.hb dX7_heaviest_45 (by decide) ?_
      exact hr19 _ _ _ _ _ _  hf hW hS (lv_sub hl [1, 2, 0] rfl)
noncomputable def f_X7_heaviest (st : St) (a1 : Int32) : Option (Int32 × St) := (f_X7_isKind a1).bind fun b1 => if b1 = 0 then some ((-102), st) else if (st.1 0) = 0 then f_X7_heaviest_L19 FU st a1 0 else f_X7_heaviest_J53 st a1
theorem l_X7_heaviest {st : St} {a1 : Int32} {res : (Int32 × St)} (hf : f_X7_heaviest st a1 = some res) : phi res.2 = phi st := by
  unfold f_X7_heaviest at hf
  obtain ⟨b1, h1, hf⟩ := bnd hf
  by_cases c4 : b1 = 0
  · replace hf := ite_t c4 hf
    have q9 := congrArg (fun z => phi z.2) (Option.some.inj hf)
    dsimp only at q9
    omega
  · replace hf := ite_f c4 hf
    by_cases c14 : (st.1 0) = 0
    · replace hf := ite_t c14 hf
      have q9 := f_X7_heaviest_L19_l  FU _ _ _ hf
      omega
    · replace hf := ite_f c14 hf
      have q9 := f_X7_heaviest_J53_l  _ _ hf
      omega
set_option maxRecDepth 100000 in
theorem w_X7_heaviest (l : Launch) (V : Ev) (A : Nat → Prop) (ad : Nat → Nat) {st : St} {a1 : Int32} {res : (Int32 × St)} (hf : f_X7_heaviest st a1 = some res) : Cn l yX7_heaviest cX7_heaviest 3 (some .int) 4 93 0 0 V A (WdC V ad A) st [.ref (ad 0), .int a1] (Qwi A (WdC V ad A) res.1 res.2) := by
  refine cn_of RX7 (by decide) rfl (fun p e s m below meth c ls X hr hlk hW hS hl => ?_) (Nat.le_of_ble_eq_true rfl)
  have hl : lv_has ls 3 [(0, .ref (ad 0)), (1, .int a1)] := hl
  unfold f_X7_heaviest at hf
  refine lv_iload_n X.hx X.hb dX7_heaviest_0 rfl (lv_at hl 1 rfl) ?_
  obtain ⟨b1, h1, hf⟩ := bnd hf
  refine cl_i (run_S (As := [.int a1]) (rest := []) X (w_X7_isKind l V A (WdC V ad A) st h1) mw_X7_isKind ln_X7_148 hW hS rfl hl.1 rfl (Nat.le_of_ble_eq_true rfl) ⟨Nat.le_of_ble_eq_true rfl, Nat.le_of_ble_eq_true rfl⟩ ⟨Nat.le_refl _, Nat.le_refl _⟩ dX7_heaviest_1) hS (fun H locs hW hS => ?_)
  refine lv_if_ne (tgt := 10) X.hx X.hb dX7_heaviest_4 (by decide) (fun c4 => ?_) (fun c4 => ?_)
  · replace hf := ite_f c4 hf
    refine lv_aload_n X.hx X.hb dX7_heaviest_10 rfl (lv_at hl 0 rfl) ?_
    refine gX7_compared X hW dX7_heaviest_11 ?_
    refine lv_if_ne (tgt := 53) X.hx X.hb dX7_heaviest_14 (by decide) (fun c14 => ?_) (fun c14 => ?_)
    · replace hf := ite_f c14 hf
      exact f_X7_heaviest_J53_w X hr hlk _ _ _ _ _  hf hW hS (lv_sub hl [0, 1] rfl)
    · replace hf := ite_t c14 hf
      refine lv_iconst (v := 0) X.hx X.hb dX7_heaviest_17 (by decide) ?_
      refine lv_istore_n (lv' := [(2, .int 0), (0, .ref (ad 0)), (1, .int a1)]) X.hx X.hb dX7_heaviest_18 rfl hl (by decide) rfl (fun ls hl => ?_)
      exact f_X7_heaviest_L19_w X hr hlk FU _ _ _ _ _ _  hf hW hS (lv_sub hl [1, 2, 0] rfl)
  · replace hf := ite_t c4 hf
    refine lv_bipush (v := (-102)) X.hx X.hb dX7_heaviest_7 (by decide) ?_
    exact rt_i X hr hlk (by rw [← Option.some.inj hf]; exact hW) hS (by rw [← Option.some.inj hf]) (Nat.le_refl _) (Nat.le_refl _) dX7_heaviest_9
-- WordSquares.heavy
noncomputable def f_X7_heavy (st : St) (a1 : Int32) : Option Int32 := (f_X2_ofKind st 0).bind fun b5 => (f_X4_has st b5 a1).bind fun b11 => if b11 = 0 then some (-101) else (f_X7_weightOfSquare st b5 a1).bind fun b23 => some b23
set_option maxRecDepth 100000 in
theorem w_X7_heavy (l : Launch) (V : Ev) (A : Nat → Prop) (ad : Nat → Nat) {st : St} {a1 : Int32} {res : Int32} (hf : f_X7_heavy st a1 = some res) : Cn l yX7_heavy cX7_heavy 3 (some .int) 3 68 0 0 V A (WdC V ad A) st [.ref (ad 0), .int a1] (Qwi A (WdC V ad A) res st) := by
  refine cn_of RX7 (by decide) rfl (fun p e s m below meth c ls X hr hlk hW hS hl => ?_) (Nat.le_of_ble_eq_true rfl)
  have hl : lv_has ls 3 [(0, .ref (ad 0)), (1, .int a1)] := hl
  unfold f_X7_heavy at hf
  refine lv_aload_n X.hx X.hb dX7_heavy_0 rfl (lv_at hl 0 rfl) ?_
  refine gX7_finder X hW dX7_heavy_1 ?_
  refine lv_iconst (v := 0) X.hx X.hb dX7_heavy_4 (by decide) ?_
  obtain ⟨b5, h5, hf⟩ := bnd hf
  have k5 := X2_ofKind_lt h5
  refine cl_r (run_V (As := [.int 0]) (rest := []) X (w_X2_ofKind l V A ad h5) mw_X2_ofKind ln_X7_151 (rcX2 X hW) hW hS rfl hl.1 rfl (Nat.le_of_ble_eq_true rfl) ⟨Nat.le_of_ble_eq_true rfl, Nat.le_of_ble_eq_true rfl⟩ ⟨Nat.le_refl _, Nat.le_refl _⟩ dX7_heavy_5) hS (fun H locs hW hS => ?_)
  refine lv_astore_n (lv' := [(2, .ref (ad (7 + b5))), (0, .ref (ad 0)), (1, .int a1)]) X.hx X.hb dX7_heavy_8 rfl hl (by decide) rfl (fun ls hl => ?_)
  refine lv_aload_n X.hx X.hb dX7_heavy_9 rfl (lv_at hl 0 rfl) ?_
  refine lv_iload_n X.hx X.hb dX7_heavy_10 rfl (lv_at hl 2 rfl) ?_
  obtain ⟨b11, h11, hf⟩ := bnd hf
  refine cl_i (run_V (As := [.int a1]) (rest := []) X (w_X4_has l V A ad k5 h11) mw_X4_has ln_X7_158 (rcX4 X k5 hW) hW hS rfl hl.1 rfl (Nat.le_of_ble_eq_true rfl) ⟨Nat.le_of_ble_eq_true rfl, Nat.le_of_ble_eq_true rfl⟩ ⟨Nat.le_refl _, Nat.le_refl _⟩ dX7_heavy_11) hS (fun H locs hW hS => ?_)
  refine lv_if_ne (tgt := 20) X.hx X.hb dX7_heavy_14 (by decide) (fun c14 => ?_) (fun c14 => ?_)
  · replace hf := ite_f c14 hf
    refine lv_aload_n X.hx X.hb dX7_heavy_20 rfl (lv_at hl 1 rfl) ?_
    refine lv_aload_n X.hx X.hb dX7_heavy_21 rfl (lv_at hl 0 rfl) ?_
    refine lv_iload_n X.hx X.hb dX7_heavy_22 rfl (lv_at hl 2 rfl) ?_
    obtain ⟨b23, h23, hf⟩ := bnd hf
    refine cl_i (run_V (As := [.ref (ad (7 + b5)), .int a1]) (rest := []) X (w_X7_weightOfSquare l V A ad k5 h23) mw_X7_weightOfSquare ln_X7_176 (rcX7 X hW) hW hS rfl hl.1 rfl (Nat.le_of_ble_eq_true rfl) ⟨Nat.le_of_ble_eq_true rfl, Nat.le_of_ble_eq_true rfl⟩ ⟨Nat.le_refl _, Nat.le_refl _⟩ dX7_heavy_23) hS (fun H locs hW hS => ?_)
    exact rt_i X hr hlk hW hS (Option.some.inj hf) (Nat.le_refl _) (Nat.le_refl _) dX7_heavy_26
  · replace hf := ite_t c14 hf
    refine lv_bipush (v := (-101)) X.hx X.hb dX7_heavy_17 (by decide) ?_
    exact rt_i X hr hlk hW hS (Option.some.inj hf) (Nat.le_refl _) (Nat.le_refl _) dX7_heavy_19
-- WordSquares.put
noncomputable def f_X7_put_J22 (st : St) : Option (Int32 × St) := some ((-101), st)
theorem f_X7_put_J22_l {res : (Int32 × St)} (st : St) (hf : f_X7_put_J22 st = some res) : phi res.2 = phi st := by
  unfold f_X7_put_J22 at hf
  have q9 := congrArg (fun z => phi z.2) (Option.some.inj hf)
  dsimp only at q9
  omega
set_option maxRecDepth 100000 in
theorem f_X7_put_J22_w {res : (Int32 × St)} (X : Cx V A cX7_put 4 RX7 p m c s args) (hr : meth.sig.returnType = (some .int)) (hlk : meth.locks = false)  (st : St) (H : Heap) (locs : List Loc) (ls : Array Slot)  (hf : f_X7_put_J22 st = some res) (hW : (WdC V ad A) st H) (hS : va_S A s.heap H locs) (hl : lv_has ls 4 []) : W p l e (rmF 1 22 0 0) s m args below meth c H locs 0 0 (MQ below (Qwi A (WdC V ad A) res.1 res.2) args s 0 0 A) (F0 m 22 ls []) := by
  
  unfold f_X7_put_J22 at hf
  refine lv_bipush (v := (-101)) X.hx X.hb dX7_put_22 (by decide) ?_
  exact rt_i X hr hlk (by rw [← Option.some.inj hf]; exact hW) hS (by rw [← Option.some.inj hf]) (Nat.le_refl _) (Nat.le_refl _) dX7_put_24
noncomputable def f_X7_put (st : St) (a1 : Int32) (a2 : Int32) : Option (Int32 × St) := (f_X6_hasPlace st a1).bind fun b5 => if b5 = 0 then f_X7_put_J22 st else (f_X6_has st a2).bind fun b16 => if b16 = 0 then f_X7_put_J22 st else (f_X0_given st a1).bind fun b30 => (f_X0_give st a1 a2).bind fun b40 => lt (sI b40 1 0) fun s45 => some (b30, s45)
theorem l_X7_put {st : St} {a1 : Int32} {a2 : Int32} {res : (Int32 × St)} (hf : f_X7_put st a1 a2 = some res) : phi res.2 = phi st := by
  unfold f_X7_put at hf
  obtain ⟨b5, h5, hf⟩ := bnd hf
  by_cases c8 : b5 = 0
  · replace hf := ite_t c8 hf
    have q9 := f_X7_put_J22_l  _ hf
    omega
  · replace hf := ite_f c8 hf
    obtain ⟨b16, h16, hf⟩ := bnd hf
    by_cases c19 : b16 = 0
    · replace hf := ite_t c19 hf
      have q9 := f_X7_put_J22_l  _ hf
      omega
    · replace hf := ite_f c19 hf
      obtain ⟨b30, h30, hf⟩ := bnd hf
      obtain ⟨b40, h40, hf⟩ := bnd hf
      have p40 := l_X0_give h40
      obtain ⟨s45, e45, hf⟩ := lt_e hf
      have p45 : phi s45 = phi b40 := by rw [e45]; rfl
      have q9 := congrArg (fun z => phi z.2) (Option.some.inj hf)
      dsimp only at q9
      omega
set_option maxRecDepth 100000 in
theorem w_X7_put (l : Launch) (V : Ev) (A : Nat → Prop) (ad : Nat → Nat) {st : St} {a1 : Int32} {a2 : Int32} {res : (Int32 × St)} (hf : f_X7_put st a1 a2 = some res) : Cn l yX7_put cX7_put 4 (some .int) 1 22 0 0 V A (WdC V ad A) st [.ref (ad 0), .int a1, .int a2] (Qwi A (WdC V ad A) res.1 res.2) := by
  refine cn_of RX7 (by decide) rfl (fun p e s m below meth c ls X hr hlk hW hS hl => ?_) (Nat.le_of_ble_eq_true rfl)
  have hl : lv_has ls 4 [(0, .ref (ad 0)), (1, .int a1), (2, .int a2)] := hl
  unfold f_X7_put at hf
  refine lv_aload_n X.hx X.hb dX7_put_0 rfl (lv_at hl 0 rfl) ?_
  refine gX7_list X hW dX7_put_1 ?_
  refine lv_iload_n X.hx X.hb dX7_put_4 rfl (lv_at hl 1 rfl) ?_
  obtain ⟨b5, h5, hf⟩ := bnd hf
  refine cl_i (run_V (As := [.int a1]) (rest := []) X (w_X6_hasPlace l V A ad h5) mw_X6_hasPlace ln_X7_136 (rcX6 X hW) hW hS rfl hl.1 rfl (Nat.le_of_ble_eq_true rfl) ⟨Nat.le_of_ble_eq_true rfl, Nat.le_of_ble_eq_true rfl⟩ ⟨Nat.le_refl _, Nat.le_refl _⟩ dX7_put_5) hS (fun H locs hW hS => ?_)
  refine lv_if_eq (tgt := 22) X.hx X.hb dX7_put_8 (by decide) (fun c8 => ?_) (fun c8 => ?_)
  · replace hf := ite_t c8 hf
    exact f_X7_put_J22_w X hr hlk _ _ _ _  hf hW hS (lv_sub hl [] rfl)
  · replace hf := ite_f c8 hf
    refine lv_aload_n X.hx X.hb dX7_put_11 rfl (lv_at hl 0 rfl) ?_
    refine gX7_list X hW dX7_put_12 ?_
    refine lv_iload_n X.hx X.hb dX7_put_15 rfl (lv_at hl 2 rfl) ?_
    obtain ⟨b16, h16, hf⟩ := bnd hf
    refine cl_i (run_V (As := [.int a2]) (rest := []) X (w_X6_has l V A ad h16) mw_X6_has ln_X7_97 (rcX6 X hW) hW hS rfl hl.1 rfl (Nat.le_of_ble_eq_true rfl) ⟨Nat.le_of_ble_eq_true rfl, Nat.le_of_ble_eq_true rfl⟩ ⟨Nat.le_refl _, Nat.le_refl _⟩ dX7_put_16) hS (fun H locs hW hS => ?_)
    refine lv_if_ne (tgt := 25) X.hx X.hb dX7_put_19 (by decide) (fun c19 => ?_) (fun c19 => ?_)
    · replace hf := ite_f c19 hf
      refine lv_aload_n X.hx X.hb dX7_put_25 rfl (lv_at hl 0 rfl) ?_
      refine gX7_table X hW dX7_put_26 ?_
      refine lv_iload_n X.hx X.hb dX7_put_29 rfl (lv_at hl 1 rfl) ?_
      obtain ⟨b30, h30, hf⟩ := bnd hf
      refine cl_i (run_V (As := [.int a1]) (rest := []) X (w_X0_given l V A ad h30) mw_X0_given ln_X7_180 (rcX0 X hW) hW hS rfl hl.1 rfl (Nat.le_of_ble_eq_true rfl) ⟨Nat.le_of_ble_eq_true rfl, Nat.le_of_ble_eq_true rfl⟩ ⟨Nat.le_refl _, Nat.le_refl _⟩ dX7_put_30) hS (fun H locs hW hS => ?_)
      refine lv_istore_n (lv' := [(3, .int b30), (0, .ref (ad 0)), (1, .int a1), (2, .int a2)]) X.hx X.hb dX7_put_33 rfl hl (by decide) rfl (fun ls hl => ?_)
      refine lv_aload_n X.hx X.hb dX7_put_34 rfl (lv_at hl 1 rfl) ?_
      refine gX7_table X hW dX7_put_35 ?_
      refine lv_iload_n X.hx X.hb dX7_put_38 rfl (lv_at hl 2 rfl) ?_
      refine lv_iload_n X.hx X.hb dX7_put_39 rfl (lv_at hl 3 rfl) ?_
      obtain ⟨b40, h40, hf⟩ := bnd hf
      refine cl_v (run_V (As := [.int a1, .int a2]) (rest := []) X (w_X0_give l V A ad h40) mw_X0_give ln_X7_183 (rcX0 X hW) hW hS rfl hl.1 rfl (Nat.le_of_ble_eq_true rfl) ⟨Nat.le_of_ble_eq_true rfl, Nat.le_of_ble_eq_true rfl⟩ ⟨Nat.le_refl _, Nat.le_refl _⟩ dX7_put_40) hS (fun H locs hW hS => ?_)
      refine lv_aload_n X.hx X.hb dX7_put_43 rfl (lv_at hl 1 rfl) ?_
      refine lv_iconst (v := 0) X.hx X.hb dX7_put_44 (by decide) ?_
      obtain ⟨s45, e45, hf⟩ := lt_e hf
      refine pX7_looked X hW hS (Or.inl rfl) dX7_put_45 (fun H locs hW hS => ?_)
      rw [← e45] at hW
      refine lv_iload_n X.hx X.hb dX7_put_48 rfl (lv_at hl 0 rfl) ?_
      exact rt_i X hr hlk (by rw [← Option.some.inj hf]; exact hW) hS (by rw [← Option.some.inj hf]) (Nat.le_refl _) (Nat.le_refl _) dX7_put_49
    · replace hf := ite_t c19 hf
      exact f_X7_put_J22_w X hr hlk _ _ _ _  hf hW hS (lv_sub hl [] rfl)
-- WordSquares.lift
noncomputable def f_X7_lift (st : St) (a1 : Int32) : Option (Int32 × St) := (f_X6_hasPlace st a1).bind fun b5 => if b5 = 0 then some ((-101), st) else (f_X0_given st a1).bind fun b19 => if b19 = (-1) then some ((-103), st) else (f_X0_give st a1 (-1)).bind fun b37 => lt (sI b37 1 0) fun s42 => some (b19, s42)
theorem l_X7_lift {st : St} {a1 : Int32} {res : (Int32 × St)} (hf : f_X7_lift st a1 = some res) : phi res.2 = phi st := by
  unfold f_X7_lift at hf
  obtain ⟨b5, h5, hf⟩ := bnd hf
  by_cases c8 : b5 = 0
  · replace hf := ite_t c8 hf
    have q9 := congrArg (fun z => phi z.2) (Option.some.inj hf)
    dsimp only at q9
    omega
  · replace hf := ite_f c8 hf
    obtain ⟨b19, h19, hf⟩ := bnd hf
    by_cases c25 : b19 = (-1)
    · replace hf := ite_t c25 hf
      have q9 := congrArg (fun z => phi z.2) (Option.some.inj hf)
      dsimp only at q9
      omega
    · replace hf := ite_f c25 hf
      obtain ⟨b37, h37, hf⟩ := bnd hf
      have p37 := l_X0_give h37
      obtain ⟨s42, e42, hf⟩ := lt_e hf
      have p42 : phi s42 = phi b37 := by rw [e42]; rfl
      have q9 := congrArg (fun z => phi z.2) (Option.some.inj hf)
      dsimp only at q9
      omega
set_option maxRecDepth 100000 in
theorem w_X7_lift (l : Launch) (V : Ev) (A : Nat → Prop) (ad : Nat → Nat) {st : St} {a1 : Int32} {res : (Int32 × St)} (hf : f_X7_lift st a1 = some res) : Cn l yX7_lift cX7_lift 3 (some .int) 1 22 0 0 V A (WdC V ad A) st [.ref (ad 0), .int a1] (Qwi A (WdC V ad A) res.1 res.2) := by
  refine cn_of RX7 (by decide) rfl (fun p e s m below meth c ls X hr hlk hW hS hl => ?_) (Nat.le_of_ble_eq_true rfl)
  have hl : lv_has ls 3 [(0, .ref (ad 0)), (1, .int a1)] := hl
  unfold f_X7_lift at hf
  refine lv_aload_n X.hx X.hb dX7_lift_0 rfl (lv_at hl 0 rfl) ?_
  refine gX7_list X hW dX7_lift_1 ?_
  refine lv_iload_n X.hx X.hb dX7_lift_4 rfl (lv_at hl 1 rfl) ?_
  obtain ⟨b5, h5, hf⟩ := bnd hf
  refine cl_i (run_V (As := [.int a1]) (rest := []) X (w_X6_hasPlace l V A ad h5) mw_X6_hasPlace ln_X7_136 (rcX6 X hW) hW hS rfl hl.1 rfl (Nat.le_of_ble_eq_true rfl) ⟨Nat.le_of_ble_eq_true rfl, Nat.le_of_ble_eq_true rfl⟩ ⟨Nat.le_refl _, Nat.le_refl _⟩ dX7_lift_5) hS (fun H locs hW hS => ?_)
  refine lv_if_ne (tgt := 14) X.hx X.hb dX7_lift_8 (by decide) (fun c8 => ?_) (fun c8 => ?_)
  · replace hf := ite_f c8 hf
    refine lv_aload_n X.hx X.hb dX7_lift_14 rfl (lv_at hl 0 rfl) ?_
    refine gX7_table X hW dX7_lift_15 ?_
    refine lv_iload_n X.hx X.hb dX7_lift_18 rfl (lv_at hl 1 rfl) ?_
    obtain ⟨b19, h19, hf⟩ := bnd hf
    refine cl_i (run_V (As := [.int a1]) (rest := []) X (w_X0_given l V A ad h19) mw_X0_given ln_X7_180 (rcX0 X hW) hW hS rfl hl.1 rfl (Nat.le_of_ble_eq_true rfl) ⟨Nat.le_of_ble_eq_true rfl, Nat.le_of_ble_eq_true rfl⟩ ⟨Nat.le_refl _, Nat.le_refl _⟩ dX7_lift_19) hS (fun H locs hW hS => ?_)
    refine lv_istore_n (lv' := [(2, .int b19), (0, .ref (ad 0)), (1, .int a1)]) X.hx X.hb dX7_lift_22 rfl hl (by decide) rfl (fun ls hl => ?_)
    refine lv_iload_n X.hx X.hb dX7_lift_23 rfl (lv_at hl 0 rfl) ?_
    refine lv_iconst (v := (-1)) X.hx X.hb dX7_lift_24 (by decide) ?_
    refine lv_icmp_ne (tgt := 31) X.hx X.hb dX7_lift_25 (by decide) (fun c25 => ?_) (fun c25 => ?_)
    · replace hf := ite_f c25 hf
      refine lv_aload_n X.hx X.hb dX7_lift_31 rfl (lv_at hl 1 rfl) ?_
      refine gX7_table X hW dX7_lift_32 ?_
      refine lv_iload_n X.hx X.hb dX7_lift_35 rfl (lv_at hl 2 rfl) ?_
      refine lv_iconst (v := (-1)) X.hx X.hb dX7_lift_36 (by decide) ?_
      obtain ⟨b37, h37, hf⟩ := bnd hf
      refine cl_v (run_V (As := [.int a1, .int (-1)]) (rest := []) X (w_X0_give l V A ad h37) mw_X0_give ln_X7_183 (rcX0 X hW) hW hS rfl hl.1 rfl (Nat.le_of_ble_eq_true rfl) ⟨Nat.le_of_ble_eq_true rfl, Nat.le_of_ble_eq_true rfl⟩ ⟨Nat.le_refl _, Nat.le_refl _⟩ dX7_lift_37) hS (fun H locs hW hS => ?_)
      refine lv_aload_n X.hx X.hb dX7_lift_40 rfl (lv_at hl 1 rfl) ?_
      refine lv_iconst (v := 0) X.hx X.hb dX7_lift_41 (by decide) ?_
      obtain ⟨s42, e42, hf⟩ := lt_e hf
      refine pX7_looked X hW hS (Or.inl rfl) dX7_lift_42 (fun H locs hW hS => ?_)
      rw [← e42] at hW
      refine lv_iload_n X.hx X.hb dX7_lift_45 rfl (lv_at hl 0 rfl) ?_
      exact rt_i X hr hlk (by rw [← Option.some.inj hf]; exact hW) hS (by rw [← Option.some.inj hf]) (Nat.le_refl _) (Nat.le_refl _) dX7_lift_46
    · replace hf := ite_t c25 hf
      refine lv_bipush (v := (-103)) X.hx X.hb dX7_lift_28 (by decide) ?_
      exact rt_i X hr hlk (by rw [← Option.some.inj hf]; exact hW) hS (by rw [← Option.some.inj hf]) (Nat.le_refl _) (Nat.le_refl _) dX7_lift_30
  · replace hf := ite_t c8 hf
    refine lv_bipush (v := (-101)) X.hx X.hb dX7_lift_11 (by decide) ?_
    exact rt_i X hr hlk (by rw [← Option.some.inj hf]; exact hW) hS (by rw [← Option.some.inj hf]) (Nat.le_refl _) (Nat.le_refl _) dX7_lift_13
-- WordSquares.board
noncomputable def f_X7_board (st : St) (a1 : Int32) : Option Int32 := (f_X6_hasPlace st a1).bind fun b5 => if b5 = 0 then some (-101) else (f_X0_given st a1).bind fun b19 => some b19
set_option maxRecDepth 100000 in
theorem w_X7_board (l : Launch) (V : Ev) (A : Nat → Prop) (ad : Nat → Nat) {st : St} {a1 : Int32} {res : Int32} (hf : f_X7_board st a1 = some res) : Cn l yX7_board cX7_board 2 (some .int) 1 21 0 0 V A (WdC V ad A) st [.ref (ad 0), .int a1] (Qwi A (WdC V ad A) res st) := by
  refine cn_of RX7 (by decide) rfl (fun p e s m below meth c ls X hr hlk hW hS hl => ?_) (Nat.le_of_ble_eq_true rfl)
  have hl : lv_has ls 2 [(0, .ref (ad 0)), (1, .int a1)] := hl
  unfold f_X7_board at hf
  refine lv_aload_n X.hx X.hb dX7_board_0 rfl (lv_at hl 0 rfl) ?_
  refine gX7_list X hW dX7_board_1 ?_
  refine lv_iload_n X.hx X.hb dX7_board_4 rfl (lv_at hl 1 rfl) ?_
  obtain ⟨b5, h5, hf⟩ := bnd hf
  refine cl_i (run_V (As := [.int a1]) (rest := []) X (w_X6_hasPlace l V A ad h5) mw_X6_hasPlace ln_X7_136 (rcX6 X hW) hW hS rfl hl.1 rfl (Nat.le_of_ble_eq_true rfl) ⟨Nat.le_of_ble_eq_true rfl, Nat.le_of_ble_eq_true rfl⟩ ⟨Nat.le_refl _, Nat.le_refl _⟩ dX7_board_5) hS (fun H locs hW hS => ?_)
  refine lv_if_ne (tgt := 14) X.hx X.hb dX7_board_8 (by decide) (fun c8 => ?_) (fun c8 => ?_)
  · replace hf := ite_f c8 hf
    refine lv_aload_n X.hx X.hb dX7_board_14 rfl (lv_at hl 0 rfl) ?_
    refine gX7_table X hW dX7_board_15 ?_
    refine lv_iload_n X.hx X.hb dX7_board_18 rfl (lv_at hl 1 rfl) ?_
    obtain ⟨b19, h19, hf⟩ := bnd hf
    refine cl_i (run_V (As := [.int a1]) (rest := []) X (w_X0_given l V A ad h19) mw_X0_given ln_X7_180 (rcX0 X hW) hW hS rfl hl.1 rfl (Nat.le_of_ble_eq_true rfl) ⟨Nat.le_of_ble_eq_true rfl, Nat.le_of_ble_eq_true rfl⟩ ⟨Nat.le_refl _, Nat.le_refl _⟩ dX7_board_19) hS (fun H locs hW hS => ?_)
    exact rt_i X hr hlk hW hS (Option.some.inj hf) (Nat.le_refl _) (Nat.le_refl _) dX7_board_22
  · replace hf := ite_t c8 hf
    refine lv_bipush (v := (-101)) X.hx X.hb dX7_board_11 (by decide) ?_
    exact rt_i X hr hlk hW hS (Option.some.inj hf) (Nat.le_refl _) (Nat.le_refl _) dX7_board_13
-- WordSquares.lookedBoard
noncomputable def f_X7_lookedBoard_J34 (st : St) : Option St := some st
theorem f_X7_lookedBoard_J34_l {res : St} (st : St) (hf : f_X7_lookedBoard_J34 st = some res) : phi res = phi st := by
  unfold f_X7_lookedBoard_J34 at hf
  have q9 := congrArg phi (Option.some.inj hf)
  omega
set_option maxRecDepth 100000 in
theorem f_X7_lookedBoard_J34_w {res : St} (X : Cx V A cX7_lookedBoard 1 RX7 p m c s args) (hr : meth.sig.returnType = (some (.object "WordSquares$Board"))) (hlk : meth.locks = false)  (st : St) (H : Heap) (locs : List Loc) (ls : Array Slot)  (hf : f_X7_lookedBoard_J34 st = some res) (hW : (WdC V ad A) st H) (hS : va_S A s.heap H locs) (hl : lv_has ls 1 [(0, .ref (ad 0))]) : W p l e (rmF 3 71 0 0) s m args below meth c H locs 0 0 (MQ below (Qwr A (WdC V ad A) (ad 6) res) args s 0 0 A) (F0 m 34 ls []) := by
  
  unfold f_X7_lookedBoard_J34 at hf
  refine lv_aload_n X.hx X.hb dX7_lookedBoard_34 rfl (lv_at hl 0 rfl) ?_
  refine gX7_table X hW dX7_lookedBoard_35 ?_
  exact rt_r X hr hlk (by rw [← Option.some.inj hf]; exact hW) hS rfl (Nat.le_refl _) (Nat.le_refl _) dX7_lookedBoard_38
noncomputable def f_X7_lookedBoard (st : St) : Option St := if (st.1 1) = 0 then (f_X2_ofKind st 0).bind fun b16 => (f_X6_length st).bind fun b23 => (f_X0_look st b16 b23).bind fun b26 => lt (sI b26 1 1) fun s31 => f_X7_lookedBoard_J34 s31 else f_X7_lookedBoard_J34 st
theorem l_X7_lookedBoard {st : St} {res : St} (hf : f_X7_lookedBoard st = some res) : phi res = phi st := by
  unfold f_X7_lookedBoard at hf
  by_cases c4 : (st.1 1) = 0
  · replace hf := ite_t c4 hf
    obtain ⟨b16, h16, hf⟩ := bnd hf
    obtain ⟨b23, h23, hf⟩ := bnd hf
    obtain ⟨b26, h26, hf⟩ := bnd hf
    have p26 := l_X0_look h26
    obtain ⟨s31, e31, hf⟩ := lt_e hf
    have p31 : phi s31 = phi b26 := by rw [e31]; rfl
    have q9 := f_X7_lookedBoard_J34_l  _ hf
    omega
  · replace hf := ite_f c4 hf
    have q9 := f_X7_lookedBoard_J34_l  _ hf
    omega
set_option maxRecDepth 100000 in
theorem w_X7_lookedBoard (l : Launch) (V : Ev) (A : Nat → Prop) (ad : Nat → Nat) {st : St} {res : St} (hf : f_X7_lookedBoard st = some res) : Cn l yX7_lookedBoard cX7_lookedBoard 1 (some (.object "WordSquares$Board")) 3 71 0 0 V A (WdC V ad A) st [.ref (ad 0)] (Qwr A (WdC V ad A) (ad 6) res) := by
  refine cn_of RX7 (by decide) rfl (fun p e s m below meth c ls X hr hlk hW hS hl => ?_) (Nat.le_of_ble_eq_true rfl)
  have hl : lv_has ls 1 [(0, .ref (ad 0))] := hl
  unfold f_X7_lookedBoard at hf
  refine lv_aload_n X.hx X.hb dX7_lookedBoard_0 rfl (lv_at hl 0 rfl) ?_
  refine gX7_looked X hW dX7_lookedBoard_1 ?_
  refine lv_if_ne (tgt := 34) X.hx X.hb dX7_lookedBoard_4 (by decide) (fun c4 => ?_) (fun c4 => ?_)
  · replace hf := ite_f c4 hf
    exact f_X7_lookedBoard_J34_w X hr hlk _ _ _ _  hf hW hS (lv_sub hl [0] rfl)
  · replace hf := ite_t c4 hf
    refine lv_aload_n X.hx X.hb dX7_lookedBoard_7 rfl (lv_at hl 0 rfl) ?_
    refine gX7_table X hW dX7_lookedBoard_8 ?_
    refine lv_aload_n X.hx X.hb dX7_lookedBoard_11 rfl (lv_at hl 0 rfl) ?_
    refine gX7_finder X hW dX7_lookedBoard_12 ?_
    refine lv_iconst (v := 0) X.hx X.hb dX7_lookedBoard_15 (by decide) ?_
    obtain ⟨b16, h16, hf⟩ := bnd hf
    have k16 := X2_ofKind_lt h16
    refine cl_r (run_V (As := [.int 0]) (rest := [.ref (ad 6)]) X (w_X2_ofKind l V A ad h16) mw_X2_ofKind ln_X7_151 (rcX2 X hW) hW hS rfl hl.1 rfl (Nat.le_of_ble_eq_true rfl) ⟨Nat.le_of_ble_eq_true rfl, Nat.le_of_ble_eq_true rfl⟩ ⟨Nat.le_refl _, Nat.le_refl _⟩ dX7_lookedBoard_16) hS (fun H locs hW hS => ?_)
    refine lv_aload_n X.hx X.hb dX7_lookedBoard_19 rfl (lv_at hl 0 rfl) ?_
    refine gX7_list X hW dX7_lookedBoard_20 ?_
    obtain ⟨b23, h23, hf⟩ := bnd hf
    refine cl_i (run_V (As := []) (rest := [.ref (ad (7 + b16)), .ref (ad 6)]) X (w_X6_length l V A ad h23) mw_X6_length ln_X7_109 (rcX6 X hW) hW hS rfl hl.1 rfl (Nat.le_of_ble_eq_true rfl) ⟨Nat.le_of_ble_eq_true rfl, Nat.le_of_ble_eq_true rfl⟩ ⟨Nat.le_refl _, Nat.le_refl _⟩ dX7_lookedBoard_23) hS (fun H locs hW hS => ?_)
    obtain ⟨b26, h26, hf⟩ := bnd hf
    refine cl_v (run_V (As := [.ref (ad (7 + b16)), .int b23]) (rest := []) X (w_X0_look l V A ad k16 h26) mw_X0_look ln_X7_283 (rcX0 X hW) hW hS rfl hl.1 rfl (Nat.le_of_ble_eq_true rfl) ⟨Nat.le_of_ble_eq_true rfl, Nat.le_of_ble_eq_true rfl⟩ ⟨Nat.le_refl _, Nat.le_refl _⟩ dX7_lookedBoard_26) hS (fun H locs hW hS => ?_)
    refine lv_aload_n X.hx X.hb dX7_lookedBoard_29 rfl (lv_at hl 0 rfl) ?_
    refine lv_iconst (v := 1) X.hx X.hb dX7_lookedBoard_30 (by decide) ?_
    obtain ⟨s31, e31, hf⟩ := lt_e hf
    refine pX7_looked X hW hS (Or.inr rfl) dX7_lookedBoard_31 (fun H locs hW hS => ?_)
    rw [← e31] at hW
    exact f_X7_lookedBoard_J34_w X hr hlk _ _ _ _  hf hW hS (lv_sub hl [0] rfl)
-- WordSquares.fitting
noncomputable def f_X7_fitting (st : St) : Option (Int32 × St) := (f_X7_lookedBoard st).bind fun b1 => (f_X0_numberOfFitting b1).bind fun b4 => some (b4, b1)
theorem l_X7_fitting {st : St} {res : (Int32 × St)} (hf : f_X7_fitting st = some res) : phi res.2 = phi st := by
  unfold f_X7_fitting at hf
  obtain ⟨b1, h1, hf⟩ := bnd hf
  have p1 := l_X7_lookedBoard h1
  obtain ⟨b4, h4, hf⟩ := bnd hf
  have q9 := congrArg (fun z => phi z.2) (Option.some.inj hf)
  dsimp only at q9
  omega
set_option maxRecDepth 100000 in
theorem w_X7_fitting (l : Launch) (V : Ev) (A : Nat → Prop) (ad : Nat → Nat) {st : St} {res : (Int32 × St)} (hf : f_X7_fitting st = some res) : Cn l yX7_fitting cX7_fitting 1 (some .int) 4 91 0 0 V A (WdC V ad A) st [.ref (ad 0)] (Qwi A (WdC V ad A) res.1 res.2) := by
  refine cn_of RX7 (by decide) rfl (fun p e s m below meth c ls X hr hlk hW hS hl => ?_) (Nat.le_of_ble_eq_true rfl)
  have hl : lv_has ls 1 [(0, .ref (ad 0))] := hl
  unfold f_X7_fitting at hf
  refine lv_aload_n X.hx X.hb dX7_fitting_0 rfl (lv_at hl 0 rfl) ?_
  obtain ⟨b1, h1, hf⟩ := bnd hf
  refine cl_r (run_V (As := []) (rest := []) X (w_X7_lookedBoard l V A ad h1) mw_X7_lookedBoard ln_X7_186 (rcX7 X hW) hW hS rfl hl.1 rfl (Nat.le_of_ble_eq_true rfl) ⟨Nat.le_of_ble_eq_true rfl, Nat.le_of_ble_eq_true rfl⟩ ⟨Nat.le_refl _, Nat.le_refl _⟩ dX7_fitting_1) hS (fun H locs hW hS => ?_)
  obtain ⟨b4, h4, hf⟩ := bnd hf
  refine cl_i (run_V (As := []) (rest := []) X (w_X0_numberOfFitting l V A ad h4) mw_X0_numberOfFitting ln_X7_190 (rcX0 X hW) hW hS rfl hl.1 rfl (Nat.le_of_ble_eq_true rfl) ⟨Nat.le_of_ble_eq_true rfl, Nat.le_of_ble_eq_true rfl⟩ ⟨Nat.le_refl _, Nat.le_refl _⟩ dX7_fitting_4) hS (fun H locs hW hS => ?_)
  exact rt_i X hr hlk (by rw [← Option.some.inj hf]; exact hW) hS (by rw [← Option.some.inj hf]) (Nat.le_refl _) (Nat.le_refl _) dX7_fitting_7
-- WordSquares.may
noncomputable def f_X7_may (st : St) (a1 : Int32) : Option (Int32 × St) := (f_X6_hasPlace st a1).bind fun b5 => if b5 = 0 then some ((-101), st) else (f_X7_lookedBoard st).bind fun b15 => (f_X0_possible b15 a1).bind fun b19 => some (b19, b15)
theorem l_X7_may {st : St} {a1 : Int32} {res : (Int32 × St)} (hf : f_X7_may st a1 = some res) : phi res.2 = phi st := by
  unfold f_X7_may at hf
  obtain ⟨b5, h5, hf⟩ := bnd hf
  by_cases c8 : b5 = 0
  · replace hf := ite_t c8 hf
    have q9 := congrArg (fun z => phi z.2) (Option.some.inj hf)
    dsimp only at q9
    omega
  · replace hf := ite_f c8 hf
    obtain ⟨b15, h15, hf⟩ := bnd hf
    have p15 := l_X7_lookedBoard h15
    obtain ⟨b19, h19, hf⟩ := bnd hf
    have q9 := congrArg (fun z => phi z.2) (Option.some.inj hf)
    dsimp only at q9
    omega
set_option maxRecDepth 100000 in
theorem w_X7_may (l : Launch) (V : Ev) (A : Nat → Prop) (ad : Nat → Nat) {st : St} {a1 : Int32} {res : (Int32 × St)} (hf : f_X7_may st a1 = some res) : Cn l yX7_may cX7_may 2 (some .int) 4 91 0 0 V A (WdC V ad A) st [.ref (ad 0), .int a1] (Qwi A (WdC V ad A) res.1 res.2) := by
  refine cn_of RX7 (by decide) rfl (fun p e s m below meth c ls X hr hlk hW hS hl => ?_) (Nat.le_of_ble_eq_true rfl)
  have hl : lv_has ls 2 [(0, .ref (ad 0)), (1, .int a1)] := hl
  unfold f_X7_may at hf
  refine lv_aload_n X.hx X.hb dX7_may_0 rfl (lv_at hl 0 rfl) ?_
  refine gX7_list X hW dX7_may_1 ?_
  refine lv_iload_n X.hx X.hb dX7_may_4 rfl (lv_at hl 1 rfl) ?_
  obtain ⟨b5, h5, hf⟩ := bnd hf
  refine cl_i (run_V (As := [.int a1]) (rest := []) X (w_X6_hasPlace l V A ad h5) mw_X6_hasPlace ln_X7_136 (rcX6 X hW) hW hS rfl hl.1 rfl (Nat.le_of_ble_eq_true rfl) ⟨Nat.le_of_ble_eq_true rfl, Nat.le_of_ble_eq_true rfl⟩ ⟨Nat.le_refl _, Nat.le_refl _⟩ dX7_may_5) hS (fun H locs hW hS => ?_)
  refine lv_if_ne (tgt := 14) X.hx X.hb dX7_may_8 (by decide) (fun c8 => ?_) (fun c8 => ?_)
  · replace hf := ite_f c8 hf
    refine lv_aload_n X.hx X.hb dX7_may_14 rfl (lv_at hl 0 rfl) ?_
    obtain ⟨b15, h15, hf⟩ := bnd hf
    refine cl_r (run_V (As := []) (rest := []) X (w_X7_lookedBoard l V A ad h15) mw_X7_lookedBoard ln_X7_186 (rcX7 X hW) hW hS rfl hl.1 rfl (Nat.le_of_ble_eq_true rfl) ⟨Nat.le_of_ble_eq_true rfl, Nat.le_of_ble_eq_true rfl⟩ ⟨Nat.le_refl _, Nat.le_refl _⟩ dX7_may_15) hS (fun H locs hW hS => ?_)
    refine lv_iload_n X.hx X.hb dX7_may_18 rfl (lv_at hl 1 rfl) ?_
    obtain ⟨b19, h19, hf⟩ := bnd hf
    refine cl_i (run_V (As := [.int a1]) (rest := []) X (w_X0_possible l V A ad h19) mw_X0_possible ln_X7_193 (rcX0 X hW) hW hS rfl hl.1 rfl (Nat.le_of_ble_eq_true rfl) ⟨Nat.le_of_ble_eq_true rfl, Nat.le_of_ble_eq_true rfl⟩ ⟨Nat.le_refl _, Nat.le_refl _⟩ dX7_may_19) hS (fun H locs hW hS => ?_)
    exact rt_i X hr hlk (by rw [← Option.some.inj hf]; exact hW) hS (by rw [← Option.some.inj hf]) (Nat.le_refl _) (Nat.le_refl _) dX7_may_22
  · replace hf := ite_t c8 hf
    refine lv_bipush (v := (-101)) X.hx X.hb dX7_may_11 (by decide) ?_
    exact rt_i X hr hlk (by rw [← Option.some.inj hf]; exact hW) hS (by rw [← Option.some.inj hf]) (Nat.le_refl _) (Nat.le_refl _) dX7_may_13
-- WordSquares.sure
noncomputable def f_X7_sure_J22 (st : St) : Option (Int32 × St) := some ((-101), st)
theorem f_X7_sure_J22_l {res : (Int32 × St)} (st : St) (hf : f_X7_sure_J22 st = some res) : phi res.2 = phi st := by
  unfold f_X7_sure_J22 at hf
  have q9 := congrArg (fun z => phi z.2) (Option.some.inj hf)
  dsimp only at q9
  omega
set_option maxRecDepth 100000 in
theorem f_X7_sure_J22_w {res : (Int32 × St)} (X : Cx V A cX7_sure 4 RX7 p m c s args) (hr : meth.sig.returnType = (some .int)) (hlk : meth.locks = false)  (st : St) (H : Heap) (locs : List Loc) (ls : Array Slot)  (hf : f_X7_sure_J22 st = some res) (hW : (WdC V ad A) st H) (hS : va_S A s.heap H locs) (hl : lv_has ls 4 []) : W p l e (rmF 4 91 0 0) s m args below meth c H locs 0 0 (MQ below (Qwi A (WdC V ad A) res.1 res.2) args s 0 0 A) (F0 m 22 ls []) := by
  
  unfold f_X7_sure_J22 at hf
  refine lv_bipush (v := (-101)) X.hx X.hb dX7_sure_22 (by decide) ?_
  exact rt_i X hr hlk (by rw [← Option.some.inj hf]; exact hW) hS (by rw [← Option.some.inj hf]) (Nat.le_refl _) (Nat.le_refl _) dX7_sure_24
noncomputable def f_X7_sure (st : St) (a1 : Int32) (a2 : Int32) : Option (Int32 × St) := (f_X6_hasPlace st a1).bind fun b5 => if b5 = 0 then f_X7_sure_J22 st else (f_X6_hasPlace st a2).bind fun b16 => if b16 = 0 then f_X7_sure_J22 st else (f_X7_lookedBoard st).bind fun b26 => (f_X0_numberOfFitting b26).bind fun b29 => if b29 = 0 then some ((-103), b26) else (f_X7_lookedBoard b26).bind fun b43 => (f_X0_possible b43 a1).bind fun b47 => (f_X6_commonLetter b43 b47 a2).bind fun b51 => if b51 = (-1) then some ((-1), b43) else some (97 + b51, b43)
theorem l_X7_sure {st : St} {a1 : Int32} {a2 : Int32} {res : (Int32 × St)} (hf : f_X7_sure st a1 a2 = some res) : phi res.2 = phi st := by
  unfold f_X7_sure at hf
  obtain ⟨b5, h5, hf⟩ := bnd hf
  by_cases c8 : b5 = 0
  · replace hf := ite_t c8 hf
    have q9 := f_X7_sure_J22_l  _ hf
    omega
  · replace hf := ite_f c8 hf
    obtain ⟨b16, h16, hf⟩ := bnd hf
    by_cases c19 : b16 = 0
    · replace hf := ite_t c19 hf
      have q9 := f_X7_sure_J22_l  _ hf
      omega
    · replace hf := ite_f c19 hf
      obtain ⟨b26, h26, hf⟩ := bnd hf
      have p26 := l_X7_lookedBoard h26
      obtain ⟨b29, h29, hf⟩ := bnd hf
      by_cases c32 : b29 = 0
      · replace hf := ite_t c32 hf
        have q9 := congrArg (fun z => phi z.2) (Option.some.inj hf)
        dsimp only at q9
        omega
      · replace hf := ite_f c32 hf
        obtain ⟨b43, h43, hf⟩ := bnd hf
        have p43 := l_X7_lookedBoard h43
        obtain ⟨b47, h47, hf⟩ := bnd hf
        obtain ⟨b51, h51, hf⟩ := bnd hf
        by_cases c57 : b51 = (-1)
        · replace hf := ite_t c57 hf
          have q9 := congrArg (fun z => phi z.2) (Option.some.inj hf)
          dsimp only at q9
          omega
        · replace hf := ite_f c57 hf
          have q9 := congrArg (fun z => phi z.2) (Option.some.inj hf)
          dsimp only at q9
          omega
set_option maxRecDepth 100000 in
theorem w_X7_sure (l : Launch) (V : Ev) (A : Nat → Prop) (ad : Nat → Nat) {st : St} {a1 : Int32} {a2 : Int32} {res : (Int32 × St)} (hf : f_X7_sure st a1 a2 = some res) : Cn l yX7_sure cX7_sure 4 (some .int) 4 91 0 0 V A (WdC V ad A) st [.ref (ad 0), .int a1, .int a2] (Qwi A (WdC V ad A) res.1 res.2) := by
  refine cn_of RX7 (by decide) rfl (fun p e s m below meth c ls X hr hlk hW hS hl => ?_) (Nat.le_of_ble_eq_true rfl)
  have hl : lv_has ls 4 [(0, .ref (ad 0)), (1, .int a1), (2, .int a2)] := hl
  unfold f_X7_sure at hf
  refine lv_aload_n X.hx X.hb dX7_sure_0 rfl (lv_at hl 0 rfl) ?_
  refine gX7_list X hW dX7_sure_1 ?_
  refine lv_iload_n X.hx X.hb dX7_sure_4 rfl (lv_at hl 1 rfl) ?_
  obtain ⟨b5, h5, hf⟩ := bnd hf
  refine cl_i (run_V (As := [.int a1]) (rest := []) X (w_X6_hasPlace l V A ad h5) mw_X6_hasPlace ln_X7_136 (rcX6 X hW) hW hS rfl hl.1 rfl (Nat.le_of_ble_eq_true rfl) ⟨Nat.le_of_ble_eq_true rfl, Nat.le_of_ble_eq_true rfl⟩ ⟨Nat.le_refl _, Nat.le_refl _⟩ dX7_sure_5) hS (fun H locs hW hS => ?_)
  refine lv_if_eq (tgt := 22) X.hx X.hb dX7_sure_8 (by decide) (fun c8 => ?_) (fun c8 => ?_)
  · replace hf := ite_t c8 hf
    exact f_X7_sure_J22_w X hr hlk _ _ _ _  hf hW hS (lv_sub hl [] rfl)
  · replace hf := ite_f c8 hf
    refine lv_aload_n X.hx X.hb dX7_sure_11 rfl (lv_at hl 0 rfl) ?_
    refine gX7_list X hW dX7_sure_12 ?_
    refine lv_iload_n X.hx X.hb dX7_sure_15 rfl (lv_at hl 2 rfl) ?_
    obtain ⟨b16, h16, hf⟩ := bnd hf
    refine cl_i (run_V (As := [.int a2]) (rest := []) X (w_X6_hasPlace l V A ad h16) mw_X6_hasPlace ln_X7_136 (rcX6 X hW) hW hS rfl hl.1 rfl (Nat.le_of_ble_eq_true rfl) ⟨Nat.le_of_ble_eq_true rfl, Nat.le_of_ble_eq_true rfl⟩ ⟨Nat.le_refl _, Nat.le_refl _⟩ dX7_sure_16) hS (fun H locs hW hS => ?_)
    refine lv_if_ne (tgt := 25) X.hx X.hb dX7_sure_19 (by decide) (fun c19 => ?_) (fun c19 => ?_)
    · replace hf := ite_f c19 hf
      refine lv_aload_n X.hx X.hb dX7_sure_25 rfl (lv_at hl 0 rfl) ?_
      obtain ⟨b26, h26, hf⟩ := bnd hf
      refine cl_r (run_V (As := []) (rest := []) X (w_X7_lookedBoard l V A ad h26) mw_X7_lookedBoard ln_X7_186 (rcX7 X hW) hW hS rfl hl.1 rfl (Nat.le_of_ble_eq_true rfl) ⟨Nat.le_of_ble_eq_true rfl, Nat.le_of_ble_eq_true rfl⟩ ⟨Nat.le_refl _, Nat.le_refl _⟩ dX7_sure_26) hS (fun H locs hW hS => ?_)
      obtain ⟨b29, h29, hf⟩ := bnd hf
      refine cl_i (run_V (As := []) (rest := []) X (w_X0_numberOfFitting l V A ad h29) mw_X0_numberOfFitting ln_X7_190 (rcX0 X hW) hW hS rfl hl.1 rfl (Nat.le_of_ble_eq_true rfl) ⟨Nat.le_of_ble_eq_true rfl, Nat.le_of_ble_eq_true rfl⟩ ⟨Nat.le_refl _, Nat.le_refl _⟩ dX7_sure_29) hS (fun H locs hW hS => ?_)
      refine lv_if_ne (tgt := 38) X.hx X.hb dX7_sure_32 (by decide) (fun c32 => ?_) (fun c32 => ?_)
      · replace hf := ite_f c32 hf
        refine lv_aload_n X.hx X.hb dX7_sure_38 rfl (lv_at hl 0 rfl) ?_
        refine gX7_list X hW dX7_sure_39 ?_
        refine lv_aload_n X.hx X.hb dX7_sure_42 rfl (lv_at hl 0 rfl) ?_
        obtain ⟨b43, h43, hf⟩ := bnd hf
        refine cl_r (run_V (As := []) (rest := [.ref (ad 2)]) X (w_X7_lookedBoard l V A ad h43) mw_X7_lookedBoard ln_X7_186 (rcX7 X hW) hW hS rfl hl.1 rfl (Nat.le_of_ble_eq_true rfl) ⟨Nat.le_of_ble_eq_true rfl, Nat.le_of_ble_eq_true rfl⟩ ⟨Nat.le_refl _, Nat.le_refl _⟩ dX7_sure_43) hS (fun H locs hW hS => ?_)
        refine lv_iload_n X.hx X.hb dX7_sure_46 rfl (lv_at hl 1 rfl) ?_
        obtain ⟨b47, h47, hf⟩ := bnd hf
        refine cl_i (run_V (As := [.int a1]) (rest := [.ref (ad 2)]) X (w_X0_possible l V A ad h47) mw_X0_possible ln_X7_193 (rcX0 X hW) hW hS rfl hl.1 rfl (Nat.le_of_ble_eq_true rfl) ⟨Nat.le_of_ble_eq_true rfl, Nat.le_of_ble_eq_true rfl⟩ ⟨Nat.le_refl _, Nat.le_refl _⟩ dX7_sure_47) hS (fun H locs hW hS => ?_)
        refine lv_iload_n X.hx X.hb dX7_sure_50 rfl (lv_at hl 2 rfl) ?_
        obtain ⟨b51, h51, hf⟩ := bnd hf
        refine cl_i (run_V (As := [.int b47, .int a2]) (rest := []) X (w_X6_commonLetter l V A ad h51) mw_X6_commonLetter ln_X7_196 (rcX6 X hW) hW hS rfl hl.1 rfl (Nat.le_of_ble_eq_true rfl) ⟨Nat.le_of_ble_eq_true rfl, Nat.le_of_ble_eq_true rfl⟩ ⟨Nat.le_refl _, Nat.le_refl _⟩ dX7_sure_51) hS (fun H locs hW hS => ?_)
        refine lv_istore_n (lv' := [(3, .int b51), (0, .ref (ad 0)), (1, .int a1), (2, .int a2)]) X.hx X.hb dX7_sure_54 rfl hl (by decide) rfl (fun ls hl => ?_)
        refine lv_iload_n X.hx X.hb dX7_sure_55 rfl (lv_at hl 0 rfl) ?_
        refine lv_iconst (v := (-1)) X.hx X.hb dX7_sure_56 (by decide) ?_
        refine lv_icmp_ne (tgt := 64) X.hx X.hb dX7_sure_57 (by decide) (fun c57 => ?_) (fun c57 => ?_)
        · replace hf := ite_f c57 hf
          refine lv_bipush (v := 97) X.hx X.hb dX7_sure_64 (by decide) ?_
          refine lv_iload_n X.hx X.hb dX7_sure_66 rfl (lv_at hl 0 rfl) ?_
          refine lv_iadd X.hx X.hb dX7_sure_67 ?_
          exact rt_i X hr hlk (by rw [← Option.some.inj hf]; exact hW) hS (by rw [← Option.some.inj hf]) (Nat.le_refl _) (Nat.le_refl _) dX7_sure_68
        · replace hf := ite_t c57 hf
          refine lv_iconst (v := (-1)) X.hx X.hb dX7_sure_60 (by decide) ?_
          refine lv_goto (tgt := 68) X.hx X.hb dX7_sure_61 (by decide) ?_
          exact rt_i X hr hlk (by rw [← Option.some.inj hf]; exact hW) hS (by rw [← Option.some.inj hf]) (Nat.le_refl _) (Nat.le_refl _) dX7_sure_68
      · replace hf := ite_t c32 hf
        refine lv_bipush (v := (-103)) X.hx X.hb dX7_sure_35 (by decide) ?_
        exact rt_i X hr hlk (by rw [← Option.some.inj hf]; exact hW) hS (by rw [← Option.some.inj hf]) (Nat.le_refl _) (Nat.le_refl _) dX7_sure_37
    · replace hf := ite_t c19 hf
      exact f_X7_sure_J22_w X hr hlk _ _ _ _  hf hW hS (lv_sub hl [] rfl)
-- WordSquares.search
noncomputable def f_X7_search_J9 (st : St) : Option Int32 := some (-102)
set_option maxRecDepth 100000 in
theorem f_X7_search_J9_w {st : St} {res : Int32} (X : Cx V A cX7_search 2 RX7 p m c s args) (hr : meth.sig.returnType = (some .int)) (hlk : meth.locks = false)  (H : Heap) (locs : List Loc) (ls : Array Slot)  (hf : f_X7_search_J9 st  = some res) (hW : (WdC V ad A) st H) (hS : va_S A s.heap H locs) (hl : lv_has ls 2 []) : W p l e (rmF 2 40 0 0) s m args below meth c H locs 0 0 (MQ below (Qwi A (WdC V ad A) res st) args s 0 0 A) (F0 m 9 ls []) := by
  
  unfold f_X7_search_J9 at hf
  refine lv_bipush (v := (-102)) X.hx X.hb dX7_search_9 (by decide) ?_
  exact rt_i X hr hlk hW hS (Option.some.inj hf) (Nat.le_refl _) (Nat.le_refl _) dX7_search_11
noncomputable def f_X7_search (st : St) (a1 : Int32) : Option Int32 := if a1 < 0 then f_X7_search_J9 st else if a1 ≤ 4 then (f_X6_size st).bind fun b16 => if b16 = 0 then some (-103) else if a1 = 0 then (f_X2_plainVisits st).bind fun b60 => some b60 else if a1 = 1 then (f_X2_plainDead st).bind fun b68 => some b68 else if a1 = 2 then (f_X2_memoryVisits st).bind fun b76 => some b76 else if a1 = 3 then (f_X2_memoryCuts st).bind fun b84 => some b84 else (f_X2_memorySize st).bind fun b92 => some b92 else f_X7_search_J9 st
set_option maxRecDepth 100000 in
theorem w_X7_search (l : Launch) (V : Ev) (A : Nat → Prop) (ad : Nat → Nat) {st : St} {a1 : Int32} {res : Int32} (hf : f_X7_search st a1 = some res) : Cn l yX7_search cX7_search 2 (some .int) 2 40 0 0 V A (WdC V ad A) st [.ref (ad 0), .int a1] (Qwi A (WdC V ad A) res st) := by
  refine cn_of RX7 (by decide) rfl (fun p e s m below meth c ls X hr hlk hW hS hl => ?_) (Nat.le_of_ble_eq_true rfl)
  have hl : lv_has ls 2 [(0, .ref (ad 0)), (1, .int a1)] := hl
  unfold f_X7_search at hf
  refine lv_iload_n X.hx X.hb dX7_search_0 rfl (lv_at hl 1 rfl) ?_
  refine lv_if_lt (tgt := 9) X.hx X.hb dX7_search_1 (by decide) (fun c1 => ?_) (fun c1 => ?_)
  · replace hf := ite_t c1 hf
    exact f_X7_search_J9_w X hr hlk  _ _ _  hf hW hS (lv_sub hl [] rfl)
  · replace hf := ite_f c1 hf
    refine lv_iload_n X.hx X.hb dX7_search_4 rfl (lv_at hl 1 rfl) ?_
    refine lv_iconst (v := 4) X.hx X.hb dX7_search_5 (by decide) ?_
    refine lv_icmp_le (tgt := 12) X.hx X.hb dX7_search_6 (by decide) (fun c6 => ?_) (fun c6 => ?_)
    · replace hf := ite_t c6 hf
      refine lv_aload_n X.hx X.hb dX7_search_12 rfl (lv_at hl 0 rfl) ?_
      refine gX7_list X hW dX7_search_13 ?_
      obtain ⟨b16, h16, hf⟩ := bnd hf
      refine cl_i (run_V (As := []) (rest := []) X (w_X6_size l V A ad h16) mw_X6_size ln_X7_89 (rcX6 X hW) hW hS rfl hl.1 rfl (Nat.le_of_ble_eq_true rfl) ⟨Nat.le_of_ble_eq_true rfl, Nat.le_of_ble_eq_true rfl⟩ ⟨Nat.le_refl _, Nat.le_refl _⟩ dX7_search_16) hS (fun H locs hW hS => ?_)
      refine lv_if_ne (tgt := 25) X.hx X.hb dX7_search_19 (by decide) (fun c19 => ?_) (fun c19 => ?_)
      · replace hf := ite_f c19 hf
        refine lv_iload_n X.hx X.hb dX7_search_25 rfl (lv_at hl 1 rfl) ?_
        by_cases c26_0 : a1 = 0
        · replace hf := ite_t c26_0 hf
          refine lv_tableIn (tgt := 56) X.hx X.hb dX7_search_26 (by rw [c26_0]; decide) (by rw [c26_0]; decide) (by rw [c26_0]; rfl) (by decide) ?_
          refine lv_aload_n X.hx X.hb dX7_search_56 rfl (lv_at hl 0 rfl) ?_
          refine gX7_finder X hW dX7_search_57 ?_
          obtain ⟨b60, h60, hf⟩ := bnd hf
          refine cl_i (run_V (As := []) (rest := []) X (w_X2_plainVisits l V A ad h60) mw_X2_plainVisits ln_X7_199 (rcX2 X hW) hW hS rfl hl.1 rfl (Nat.le_of_ble_eq_true rfl) ⟨Nat.le_of_ble_eq_true rfl, Nat.le_of_ble_eq_true rfl⟩ ⟨Nat.le_refl _, Nat.le_refl _⟩ dX7_search_60) hS (fun H locs hW hS => ?_)
          exact rt_i X hr hlk hW hS (Option.some.inj hf) (Nat.le_refl _) (Nat.le_refl _) dX7_search_63
        replace hf := ite_f c26_0 hf
        by_cases c26_1 : a1 = 1
        · replace hf := ite_t c26_1 hf
          refine lv_tableIn (tgt := 64) X.hx X.hb dX7_search_26 (by rw [c26_1]; decide) (by rw [c26_1]; decide) (by rw [c26_1]; rfl) (by decide) ?_
          refine lv_aload_n X.hx X.hb dX7_search_64 rfl (lv_at hl 0 rfl) ?_
          refine gX7_finder X hW dX7_search_65 ?_
          obtain ⟨b68, h68, hf⟩ := bnd hf
          refine cl_i (run_V (As := []) (rest := []) X (w_X2_plainDead l V A ad h68) mw_X2_plainDead ln_X7_202 (rcX2 X hW) hW hS rfl hl.1 rfl (Nat.le_of_ble_eq_true rfl) ⟨Nat.le_of_ble_eq_true rfl, Nat.le_of_ble_eq_true rfl⟩ ⟨Nat.le_refl _, Nat.le_refl _⟩ dX7_search_68) hS (fun H locs hW hS => ?_)
          exact rt_i X hr hlk hW hS (Option.some.inj hf) (Nat.le_refl _) (Nat.le_refl _) dX7_search_71
        replace hf := ite_f c26_1 hf
        by_cases c26_2 : a1 = 2
        · replace hf := ite_t c26_2 hf
          refine lv_tableIn (tgt := 72) X.hx X.hb dX7_search_26 (by rw [c26_2]; decide) (by rw [c26_2]; decide) (by rw [c26_2]; rfl) (by decide) ?_
          refine lv_aload_n X.hx X.hb dX7_search_72 rfl (lv_at hl 0 rfl) ?_
          refine gX7_finder X hW dX7_search_73 ?_
          obtain ⟨b76, h76, hf⟩ := bnd hf
          refine cl_i (run_V (As := []) (rest := []) X (w_X2_memoryVisits l V A ad h76) mw_X2_memoryVisits ln_X7_205 (rcX2 X hW) hW hS rfl hl.1 rfl (Nat.le_of_ble_eq_true rfl) ⟨Nat.le_of_ble_eq_true rfl, Nat.le_of_ble_eq_true rfl⟩ ⟨Nat.le_refl _, Nat.le_refl _⟩ dX7_search_76) hS (fun H locs hW hS => ?_)
          exact rt_i X hr hlk hW hS (Option.some.inj hf) (Nat.le_refl _) (Nat.le_refl _) dX7_search_79
        replace hf := ite_f c26_2 hf
        by_cases c26_3 : a1 = 3
        · replace hf := ite_t c26_3 hf
          refine lv_tableIn (tgt := 80) X.hx X.hb dX7_search_26 (by rw [c26_3]; decide) (by rw [c26_3]; decide) (by rw [c26_3]; rfl) (by decide) ?_
          refine lv_aload_n X.hx X.hb dX7_search_80 rfl (lv_at hl 0 rfl) ?_
          refine gX7_finder X hW dX7_search_81 ?_
          obtain ⟨b84, h84, hf⟩ := bnd hf
          refine cl_i (run_V (As := []) (rest := []) X (w_X2_memoryCuts l V A ad h84) mw_X2_memoryCuts ln_X7_208 (rcX2 X hW) hW hS rfl hl.1 rfl (Nat.le_of_ble_eq_true rfl) ⟨Nat.le_of_ble_eq_true rfl, Nat.le_of_ble_eq_true rfl⟩ ⟨Nat.le_refl _, Nat.le_refl _⟩ dX7_search_84) hS (fun H locs hW hS => ?_)
          exact rt_i X hr hlk hW hS (Option.some.inj hf) (Nat.le_refl _) (Nat.le_refl _) dX7_search_87
        replace hf := ite_f c26_3 hf
        have n26 : (a1).toInt < 0 ∨ 3 < (a1).toInt := by
          have q0 := lv_neT (a := 0) c26_0 (by decide)
          have q1 := lv_neT (a := 1) c26_1 (by decide)
          have q2 := lv_neT (a := 2) c26_2 (by decide)
          have q3 := lv_neT (a := 3) c26_3 (by decide)
          omega
        refine lv_tableOut (tgt := 88) X.hx X.hb dX7_search_26 n26 (by decide) ?_
        refine lv_aload_n X.hx X.hb dX7_search_88 rfl (lv_at hl 0 rfl) ?_
        refine gX7_finder X hW dX7_search_89 ?_
        obtain ⟨b92, h92, hf⟩ := bnd hf
        refine cl_i (run_V (As := []) (rest := []) X (w_X2_memorySize l V A ad h92) mw_X2_memorySize ln_X7_211 (rcX2 X hW) hW hS rfl hl.1 rfl (Nat.le_of_ble_eq_true rfl) ⟨Nat.le_of_ble_eq_true rfl, Nat.le_of_ble_eq_true rfl⟩ ⟨Nat.le_refl _, Nat.le_refl _⟩ dX7_search_92) hS (fun H locs hW hS => ?_)
        exact rt_i X hr hlk hW hS (Option.some.inj hf) (Nat.le_refl _) (Nat.le_refl _) dX7_search_95
      · replace hf := ite_t c19 hf
        refine lv_bipush (v := (-103)) X.hx X.hb dX7_search_22 (by decide) ?_
        exact rt_i X hr hlk hW hS (Option.some.inj hf) (Nat.le_refl _) (Nat.le_refl _) dX7_search_24
    · replace hf := ite_f c6 hf
      exact f_X7_search_J9_w X hr hlk  _ _ _  hf hW hS (lv_sub hl [] rfl)
-- WordSquares.count
noncomputable def f_X7_count (st : St) (a1 : Int32) : Option Int32 := if a1 = 0 then (f_X6_size st).bind fun b40 => some b40 else if a1 = 1 then (f_X5_size st).bind fun b48 => some b48 else if a1 = 2 then (f_X0_numberOfGiven st).bind fun b56 => some b56 else if a1 = 3 then some (st.1 2) else if a1 = 4 then some (st.1 3) else some (-102)
set_option maxRecDepth 100000 in
theorem w_X7_count (l : Launch) (V : Ev) (A : Nat → Prop) (ad : Nat → Nat) {st : St} {a1 : Int32} {res : Int32} (hf : f_X7_count st a1 = some res) : Cn l yX7_count cX7_count 2 (some .int) 1 22 0 0 V A (WdC V ad A) st [.ref (ad 0), .int a1] (Qwi A (WdC V ad A) res st) := by
  refine cn_of RX7 (by decide) rfl (fun p e s m below meth c ls X hr hlk hW hS hl => ?_) (Nat.le_of_ble_eq_true rfl)
  have hl : lv_has ls 2 [(0, .ref (ad 0)), (1, .int a1)] := hl
  unfold f_X7_count at hf
  refine lv_iload_n X.hx X.hb dX7_count_0 rfl (lv_at hl 1 rfl) ?_
  by_cases c1_0 : a1 = 0
  · replace hf := ite_t c1_0 hf
    refine lv_tableIn (tgt := 36) X.hx X.hb dX7_count_1 (by rw [c1_0]; decide) (by rw [c1_0]; decide) (by rw [c1_0]; rfl) (by decide) ?_
    refine lv_aload_n X.hx X.hb dX7_count_36 rfl (lv_at hl 0 rfl) ?_
    refine gX7_list X hW dX7_count_37 ?_
    obtain ⟨b40, h40, hf⟩ := bnd hf
    refine cl_i (run_V (As := []) (rest := []) X (w_X6_size l V A ad h40) mw_X6_size ln_X7_89 (rcX6 X hW) hW hS rfl hl.1 rfl (Nat.le_of_ble_eq_true rfl) ⟨Nat.le_of_ble_eq_true rfl, Nat.le_of_ble_eq_true rfl⟩ ⟨Nat.le_refl _, Nat.le_refl _⟩ dX7_count_40) hS (fun H locs hW hS => ?_)
    exact rt_i X hr hlk hW hS (Option.some.inj hf) (Nat.le_refl _) (Nat.le_refl _) dX7_count_43
  replace hf := ite_f c1_0 hf
  by_cases c1_1 : a1 = 1
  · replace hf := ite_t c1_1 hf
    refine lv_tableIn (tgt := 44) X.hx X.hb dX7_count_1 (by rw [c1_1]; decide) (by rw [c1_1]; decide) (by rw [c1_1]; rfl) (by decide) ?_
    refine lv_aload_n X.hx X.hb dX7_count_44 rfl (lv_at hl 0 rfl) ?_
    refine gX7_text X hW dX7_count_45 ?_
    obtain ⟨b48, h48, hf⟩ := bnd hf
    refine cl_i (run_V (As := []) (rest := []) X (w_X5_size l V A ad h48) mw_X5_size ln_X7_57 (rcX5 X hW) hW hS rfl hl.1 rfl (Nat.le_of_ble_eq_true rfl) ⟨Nat.le_of_ble_eq_true rfl, Nat.le_of_ble_eq_true rfl⟩ ⟨Nat.le_refl _, Nat.le_refl _⟩ dX7_count_48) hS (fun H locs hW hS => ?_)
    exact rt_i X hr hlk hW hS (Option.some.inj hf) (Nat.le_refl _) (Nat.le_refl _) dX7_count_51
  replace hf := ite_f c1_1 hf
  by_cases c1_2 : a1 = 2
  · replace hf := ite_t c1_2 hf
    refine lv_tableIn (tgt := 52) X.hx X.hb dX7_count_1 (by rw [c1_2]; decide) (by rw [c1_2]; decide) (by rw [c1_2]; rfl) (by decide) ?_
    refine lv_aload_n X.hx X.hb dX7_count_52 rfl (lv_at hl 0 rfl) ?_
    refine gX7_table X hW dX7_count_53 ?_
    obtain ⟨b56, h56, hf⟩ := bnd hf
    refine cl_i (run_V (As := []) (rest := []) X (w_X0_numberOfGiven l V A ad h56) mw_X0_numberOfGiven ln_X7_214 (rcX0 X hW) hW hS rfl hl.1 rfl (Nat.le_of_ble_eq_true rfl) ⟨Nat.le_of_ble_eq_true rfl, Nat.le_of_ble_eq_true rfl⟩ ⟨Nat.le_refl _, Nat.le_refl _⟩ dX7_count_56) hS (fun H locs hW hS => ?_)
    exact rt_i X hr hlk hW hS (Option.some.inj hf) (Nat.le_refl _) (Nat.le_refl _) dX7_count_59
  replace hf := ite_f c1_2 hf
  by_cases c1_3 : a1 = 3
  · replace hf := ite_t c1_3 hf
    refine lv_tableIn (tgt := 60) X.hx X.hb dX7_count_1 (by rw [c1_3]; decide) (by rw [c1_3]; decide) (by rw [c1_3]; rfl) (by decide) ?_
    refine lv_aload_n X.hx X.hb dX7_count_60 rfl (lv_at hl 0 rfl) ?_
    refine gX7_additions X hW dX7_count_61 ?_
    exact rt_i X hr hlk hW hS (Option.some.inj hf) (Nat.le_refl _) (Nat.le_refl _) dX7_count_64
  replace hf := ite_f c1_3 hf
  by_cases c1_4 : a1 = 4
  · replace hf := ite_t c1_4 hf
    refine lv_tableIn (tgt := 65) X.hx X.hb dX7_count_1 (by rw [c1_4]; decide) (by rw [c1_4]; decide) (by rw [c1_4]; rfl) (by decide) ?_
    refine lv_aload_n X.hx X.hb dX7_count_65 rfl (lv_at hl 0 rfl) ?_
    refine gX7_removals X hW dX7_count_66 ?_
    exact rt_i X hr hlk hW hS (Option.some.inj hf) (Nat.le_refl _) (Nat.le_refl _) dX7_count_69
  replace hf := ite_f c1_4 hf
  have n1 : (a1).toInt < 0 ∨ 4 < (a1).toInt := by
    have q0 := lv_neT (a := 0) c1_0 (by decide)
    have q1 := lv_neT (a := 1) c1_1 (by decide)
    have q2 := lv_neT (a := 2) c1_2 (by decide)
    have q3 := lv_neT (a := 3) c1_3 (by decide)
    have q4 := lv_neT (a := 4) c1_4 (by decide)
    omega
  refine lv_tableOut (tgt := 70) X.hx X.hb dX7_count_1 n1 (by decide) ?_
  refine lv_bipush (v := (-102)) X.hx X.hb dX7_count_70 (by decide) ?_
  exact rt_i X hr hlk hW hS (Option.some.inj hf) (Nat.le_refl _) (Nat.le_refl _) dX7_count_72
-- WordSquares.mixWords
noncomputable def f_X7_mixWords_L54 (st : St) (r5 : Int64 → Int32 → Option Int64) : Nat → Int64 → Int32 → Int32 → Option Int64
  | 0, _, _, _ => none
  | fu + 1, x3, x5, x6 => if 4 < x6 then lt (x5 + 1) fun w79 => r5 x3 w79 else (f_X7_word st x5 x6).bind fun b66 => (f_X7_mix x3 b66).bind fun b69 => lt (x6 + 1) fun w73 => (f_X7_mixWords_L54 st r5 fu) b69 x5 w73
set_option maxRecDepth 100000 in
theorem f_X7_mixWords_L54_w {st : St} {r5 : Int64 → Int32 → Option Int64} {res : Int64} (X : Cx V A cX7_mixWords 7 RX7 p m c s args) (hr : meth.sig.returnType = (some .long)) (hlk : meth.locks = false) (hr5 : ∀ (x3 : Int64) (x5 : Int32) (H : Heap) (locs : List Loc) (ls : Array Slot), r5 x3 x5 = some res → (WdC V ad A) st H → va_S A s.heap H locs → lv_has ls 7 [(0, .ref (ad 0)), (3, .long x3), (5, .int x5)] → W p l e (rmF 3 67 0 0) s m args below meth c H locs 0 0 (MQ below (Qwl A (WdC V ad A) res st) args s 0 0 A) (F0 m 5 ls [])) : ∀ (n9 : Nat) (x3 : Int64) (x5 : Int32) (x6 : Int32) (H : Heap) (locs : List Loc) (ls : Array Slot), f_X7_mixWords_L54 st r5 n9 x3 x5 x6 = some res → (WdC V ad A) st H → va_S A s.heap H locs → lv_has ls 7 [(0, .ref (ad 0)), (3, .long x3), (5, .int x5), (6, .int x6)] → W p l e (rmF 3 67 0 0) s m args below meth c H locs 0 0 (MQ below (Qwl A (WdC V ad A) res st) args s 0 0 A) (F0 m 54 ls []) := by
  intro n9
  induction n9 with
  | zero =>
    intro x3 x5 x6 H locs ls hf
    exact absurd hf (by unfold f_X7_mixWords_L54; exact fun h => by cases h)
  | succ n9 hr54 =>
    intro x3 x5 x6 H locs ls hf hW hS hl
    
    unfold f_X7_mixWords_L54 at hf
    refine lv_iload X.hx X.hb dX7_mixWords_54 (lv_at hl 3 rfl) ?_
    refine lv_iconst (v := 4) X.hx X.hb dX7_mixWords_56 (by decide) ?_
    refine lv_icmp_gt (tgt := 79) X.hx X.hb dX7_mixWords_57 (by decide) (fun c57 => ?_) (fun c57 => ?_)
    · replace hf := ite_t c57 hf
      obtain ⟨w79, e79, hf⟩ := lt_e hf
      refine lv_iinc (v := w79) (lv' := [(5, .int w79), (0, .ref (ad 0)), (3, .long x3), (6, .int x6)]) X.hx X.hb dX7_mixWords_79 hl (k := 2) rfl (by rw [e79]; rfl) (by decide) rfl (fun ls hl => ?_)
      refine lv_goto (tgt := 5) X.hx X.hb dX7_mixWords_82 (by decide) ?_
      exact hr5 _ _ _ _ _  hf hW hS (lv_sub hl [1, 2, 0] rfl)
    · replace hf := ite_f c57 hf
      refine lv_lload_n X.hx X.hb dX7_mixWords_60 rfl (lv_at hl 1 rfl) ?_
      refine lv_aload_n X.hx X.hb dX7_mixWords_61 rfl (lv_at hl 0 rfl) ?_
      refine lv_iload X.hx X.hb dX7_mixWords_62 (lv_at hl 2 rfl) ?_
      refine lv_iload X.hx X.hb dX7_mixWords_64 (lv_at hl 3 rfl) ?_
      obtain ⟨b66, h66, hf⟩ := bnd hf
      refine cl_i (run_V (As := [.int x5, .int x6]) (rest := [.long x3]) X (w_X7_word l V A ad h66) mw_X7_word ln_X7_248 (rcX7 X hW) hW hS rfl hl.1 rfl (Nat.le_of_ble_eq_true rfl) ⟨Nat.le_of_ble_eq_true rfl, Nat.le_of_ble_eq_true rfl⟩ ⟨Nat.le_refl _, Nat.le_refl _⟩ dX7_mixWords_66) hS (fun H locs hW hS => ?_)
      obtain ⟨b69, h69, hf⟩ := bnd hf
      refine cl_l (run_S (As := [.long x3, .int b66]) (rest := []) X (w_X7_mix l V A (WdC V ad A) st h69) mw_X7_mix ln_X7_222 hW hS rfl hl.1 rfl (Nat.le_of_ble_eq_true rfl) ⟨Nat.le_of_ble_eq_true rfl, Nat.le_of_ble_eq_true rfl⟩ ⟨Nat.le_refl _, Nat.le_refl _⟩ dX7_mixWords_69) hS (fun H locs hW hS => ?_)
      refine lv_lstore_n (lv' := [(3, .long b69), (0, .ref (ad 0)), (5, .int x5), (6, .int x6)]) X.hx X.hb dX7_mixWords_72 rfl hl (by decide) rfl (fun ls hl => ?_)
      obtain ⟨w73, e73, hf⟩ := lt_e hf
      refine lv_iinc (v := w73) (lv' := [(6, .int w73), (3, .long b69), (0, .ref (ad 0)), (5, .int x5)]) X.hx X.hb dX7_mixWords_73 hl (k := 3) rfl (by rw [e73]; rfl) (by decide) rfl (fun ls hl => ?_)
      refine lv_goto (tgt := 54) X.hx X.hb dX7_mixWords_76 (by decide) ?_
      exact hr54 _ _ _ _ _ _  hf hW hS (lv_sub hl [2, 1, 3, 0] rfl)
noncomputable def f_X7_mixWords_L20 (st : St) (r5 : Int64 → Int32 → Option Int64) : Nat → Int64 → Int32 → Int32 → Option Int64
  | 0, _, _, _ => none
  | fu + 1, x3, x5, x6 => (f_X6_length st).bind fun b26 => if b26 ≤ x6 then f_X7_mixWords_L54 st r5 FU x3 x5 0 else (f_X7_sign st x5 x6).bind fun b38 => (f_X7_mix x3 b38).bind fun b41 => lt (x6 + 1) fun w45 => (f_X7_mixWords_L20 st r5 fu) b41 x5 w45
set_option maxRecDepth 100000 in
theorem f_X7_mixWords_L20_w {st : St} {r5 : Int64 → Int32 → Option Int64} {res : Int64} (X : Cx V A cX7_mixWords 7 RX7 p m c s args) (hr : meth.sig.returnType = (some .long)) (hlk : meth.locks = false) (hr5 : ∀ (x3 : Int64) (x5 : Int32) (H : Heap) (locs : List Loc) (ls : Array Slot), r5 x3 x5 = some res → (WdC V ad A) st H → va_S A s.heap H locs → lv_has ls 7 [(0, .ref (ad 0)), (3, .long x3), (5, .int x5)] → W p l e (rmF 3 67 0 0) s m args below meth c H locs 0 0 (MQ below (Qwl A (WdC V ad A) res st) args s 0 0 A) (F0 m 5 ls [])) : ∀ (n9 : Nat) (x3 : Int64) (x5 : Int32) (x6 : Int32) (H : Heap) (locs : List Loc) (ls : Array Slot), f_X7_mixWords_L20 st r5 n9 x3 x5 x6 = some res → (WdC V ad A) st H → va_S A s.heap H locs → lv_has ls 7 [(0, .ref (ad 0)), (3, .long x3), (5, .int x5), (6, .int x6)] → W p l e (rmF 3 67 0 0) s m args below meth c H locs 0 0 (MQ below (Qwl A (WdC V ad A) res st) args s 0 0 A) (F0 m 20 ls []) := by
  intro n9
  induction n9 with
  | zero =>
    intro x3 x5 x6 H locs ls hf
    exact absurd hf (by unfold f_X7_mixWords_L20; exact fun h => by cases h)
  | succ n9 hr20 =>
    intro x3 x5 x6 H locs ls hf hW hS hl
    
    unfold f_X7_mixWords_L20 at hf
    refine lv_iload X.hx X.hb dX7_mixWords_20 (lv_at hl 3 rfl) ?_
    refine lv_aload_n X.hx X.hb dX7_mixWords_22 rfl (lv_at hl 0 rfl) ?_
    refine gX7_list X hW dX7_mixWords_23 ?_
    obtain ⟨b26, h26, hf⟩ := bnd hf
    refine cl_i (run_V (As := []) (rest := [.int x6]) X (w_X6_length l V A ad h26) mw_X6_length ln_X7_109 (rcX6 X hW) hW hS rfl hl.1 rfl (Nat.le_of_ble_eq_true rfl) ⟨Nat.le_of_ble_eq_true rfl, Nat.le_of_ble_eq_true rfl⟩ ⟨Nat.le_refl _, Nat.le_refl _⟩ dX7_mixWords_26) hS (fun H locs hW hS => ?_)
    refine lv_icmp_ge (tgt := 51) X.hx X.hb dX7_mixWords_29 (by decide) (fun c29 => ?_) (fun c29 => ?_)
    · replace hf := ite_t c29 hf
      refine lv_iconst (v := 0) X.hx X.hb dX7_mixWords_51 (by decide) ?_
      refine lv_istore (lv' := [(6, .int 0), (0, .ref (ad 0)), (3, .long x3), (5, .int x5)]) X.hx X.hb dX7_mixWords_52 hl (by decide) rfl (fun ls hl => ?_)
      exact f_X7_mixWords_L54_w X hr hlk hr5 FU _ _ _ _ _ _  hf hW hS (lv_sub hl [1, 2, 3, 0] rfl)
    · replace hf := ite_f c29 hf
      refine lv_lload_n X.hx X.hb dX7_mixWords_32 rfl (lv_at hl 1 rfl) ?_
      refine lv_aload_n X.hx X.hb dX7_mixWords_33 rfl (lv_at hl 0 rfl) ?_
      refine lv_iload X.hx X.hb dX7_mixWords_34 (lv_at hl 2 rfl) ?_
      refine lv_iload X.hx X.hb dX7_mixWords_36 (lv_at hl 3 rfl) ?_
      obtain ⟨b38, h38, hf⟩ := bnd hf
      refine cl_i (run_V (As := [.int x5, .int x6]) (rest := [.long x3]) X (w_X7_sign l V A ad h38) mw_X7_sign ln_X7_245 (rcX7 X hW) hW hS rfl hl.1 rfl (Nat.le_of_ble_eq_true rfl) ⟨Nat.le_of_ble_eq_true rfl, Nat.le_of_ble_eq_true rfl⟩ ⟨Nat.le_refl _, Nat.le_refl _⟩ dX7_mixWords_38) hS (fun H locs hW hS => ?_)
      obtain ⟨b41, h41, hf⟩ := bnd hf
      refine cl_l (run_S (As := [.long x3, .int b38]) (rest := []) X (w_X7_mix l V A (WdC V ad A) st h41) mw_X7_mix ln_X7_222 hW hS rfl hl.1 rfl (Nat.le_of_ble_eq_true rfl) ⟨Nat.le_of_ble_eq_true rfl, Nat.le_of_ble_eq_true rfl⟩ ⟨Nat.le_refl _, Nat.le_refl _⟩ dX7_mixWords_41) hS (fun H locs hW hS => ?_)
      refine lv_lstore_n (lv' := [(3, .long b41), (0, .ref (ad 0)), (5, .int x5), (6, .int x6)]) X.hx X.hb dX7_mixWords_44 rfl hl (by decide) rfl (fun ls hl => ?_)
      obtain ⟨w45, e45, hf⟩ := lt_e hf
      refine lv_iinc (v := w45) (lv' := [(6, .int w45), (3, .long b41), (0, .ref (ad 0)), (5, .int x5)]) X.hx X.hb dX7_mixWords_45 hl (k := 3) rfl (by rw [e45]; rfl) (by decide) rfl (fun ls hl => ?_)
      refine lv_goto (tgt := 20) X.hx X.hb dX7_mixWords_48 (by decide) ?_
      exact hr20 _ _ _ _ _ _  hf hW hS (lv_sub hl [2, 1, 3, 0] rfl)
noncomputable def f_X7_mixWords_L5 (st : St) : Nat → Int64 → Int32 → Option Int64
  | 0, _, _ => none
  | fu + 1, x3, x5 => (f_X6_size st).bind fun b11 => if b11 ≤ x5 then some x3 else f_X7_mixWords_L20 st ((f_X7_mixWords_L5 st fu)) FU x3 x5 0
set_option maxRecDepth 100000 in
theorem f_X7_mixWords_L5_w {st : St} {res : Int64} (X : Cx V A cX7_mixWords 7 RX7 p m c s args) (hr : meth.sig.returnType = (some .long)) (hlk : meth.locks = false)  : ∀ (n9 : Nat) (x3 : Int64) (x5 : Int32) (H : Heap) (locs : List Loc) (ls : Array Slot), f_X7_mixWords_L5 st n9 x3 x5 = some res → (WdC V ad A) st H → va_S A s.heap H locs → lv_has ls 7 [(0, .ref (ad 0)), (3, .long x3), (5, .int x5)] → W p l e (rmF 3 67 0 0) s m args below meth c H locs 0 0 (MQ below (Qwl A (WdC V ad A) res st) args s 0 0 A) (F0 m 5 ls []) := by
  intro n9
  induction n9 with
  | zero =>
    intro x3 x5 H locs ls hf
    exact absurd hf (by unfold f_X7_mixWords_L5; exact fun h => by cases h)
  | succ n9 hr5 =>
    intro x3 x5 H locs ls hf hW hS hl
    
    unfold f_X7_mixWords_L5 at hf
    refine lv_iload X.hx X.hb dX7_mixWords_5 (lv_at hl 2 rfl) ?_
    refine lv_aload_n X.hx X.hb dX7_mixWords_7 rfl (lv_at hl 0 rfl) ?_
    refine gX7_list X hW dX7_mixWords_8 ?_
    obtain ⟨b11, h11, hf⟩ := bnd hf
    refine cl_i (run_V (As := []) (rest := [.int x5]) X (w_X6_size l V A ad h11) mw_X6_size ln_X7_89 (rcX6 X hW) hW hS rfl hl.1 rfl (Nat.le_of_ble_eq_true rfl) ⟨Nat.le_of_ble_eq_true rfl, Nat.le_of_ble_eq_true rfl⟩ ⟨Nat.le_refl _, Nat.le_refl _⟩ dX7_mixWords_11) hS (fun H locs hW hS => ?_)
    refine lv_icmp_ge (tgt := 85) X.hx X.hb dX7_mixWords_14 (by decide) (fun c14 => ?_) (fun c14 => ?_)
    · replace hf := ite_t c14 hf
      refine lv_lload_n X.hx X.hb dX7_mixWords_85 rfl (lv_at hl 1 rfl) ?_
      exact rt_l X hr hlk hW hS (Option.some.inj hf) (Nat.le_refl _) (Nat.le_refl _) dX7_mixWords_86
    · replace hf := ite_f c14 hf
      refine lv_iconst (v := 0) X.hx X.hb dX7_mixWords_17 (by decide) ?_
      refine lv_istore (lv' := [(6, .int 0), (0, .ref (ad 0)), (3, .long x3), (5, .int x5)]) X.hx X.hb dX7_mixWords_18 hl (by decide) rfl (fun ls hl => ?_)
      exact f_X7_mixWords_L20_w X hr hlk hr5 FU _ _ _ _ _ _  hf hW hS (lv_sub hl [1, 2, 3, 0] rfl)
noncomputable def f_X7_mixWords (st : St) (a1 : Int64) : Option Int64 := f_X7_mixWords_L5 st FU a1 0
set_option maxRecDepth 100000 in
theorem w_X7_mixWords (l : Launch) (V : Ev) (A : Nat → Prop) (ad : Nat → Nat) {st : St} {a1 : Int64} {res : Int64} (hf : f_X7_mixWords st a1 = some res) : Cn l yX7_mixWords cX7_mixWords 7 (some .long) 3 67 0 0 V A (WdC V ad A) st [.ref (ad 0), .long a1] (Qwl A (WdC V ad A) res st) := by
  refine cn_of RX7 (by decide) rfl (fun p e s m below meth c ls X hr hlk hW hS hl => ?_) (Nat.le_of_ble_eq_true rfl)
  have hl : lv_has ls 7 [(0, .ref (ad 0)), (1, .long a1)] := hl
  unfold f_X7_mixWords at hf
  refine lv_lload_n X.hx X.hb dX7_mixWords_0 rfl (lv_at hl 1 rfl) ?_
  refine lv_lstore_n (lv' := [(3, .long a1), (0, .ref (ad 0)), (1, .long a1)]) X.hx X.hb dX7_mixWords_1 rfl hl (by decide) rfl (fun ls hl => ?_)
  refine lv_iconst (v := 0) X.hx X.hb dX7_mixWords_2 (by decide) ?_
  refine lv_istore (lv' := [(5, .int 0), (3, .long a1), (0, .ref (ad 0)), (1, .long a1)]) X.hx X.hb dX7_mixWords_3 hl (by decide) rfl (fun ls hl => ?_)
  exact f_X7_mixWords_L5_w X hr hlk FU _ _ _ _ _  hf hW hS (lv_sub hl [2, 1, 0] rfl)
-- WordSquares.mixSquares
noncomputable def f_X7_mixSquares_L53 (r43 : St → Int64 → Int32 → Int32 → Option (Int64 × St)) : Nat → St → Int64 → Int32 → Int32 → Int32 → Option (Int64 × St)
  | 0, _, _, _, _, _ => none
  | fu + 1, st, x3, x5, x6, x7 => (f_X6_length st).bind fun b59 => if b59 ≤ x7 then lt (x6 + 1) fun w85 => r43 st x3 x5 w85 else (f_X7_row st 0 x6 x7).bind fun b72 => (f_X7_mix x3 b72).bind fun b75 => lt (x7 + 1) fun w79 => (f_X7_mixSquares_L53 r43 fu) st b75 x5 x6 w79
theorem f_X7_mixSquares_L53_l {r43 : St → Int64 → Int32 → Int32 → Option (Int64 × St)} {res : (Int64 × St)} (hq43 : ∀ (st : St) (x3 : Int64) (x5 : Int32) (x6 : Int32), r43 st x3 x5 x6 = some res → phi res.2 = phi st) : ∀ (n9 : Nat) (st : St) (x3 : Int64) (x5 : Int32) (x6 : Int32) (x7 : Int32), f_X7_mixSquares_L53 r43 n9 st x3 x5 x6 x7 = some res → phi res.2 = phi st := by
  intro n9
  induction n9 with
  | zero =>
    intro st x3 x5 x6 x7 hf
    exact absurd hf (by unfold f_X7_mixSquares_L53; exact fun h => by cases h)
  | succ n9 hq53 =>
    intro st x3 x5 x6 x7 hf
    unfold f_X7_mixSquares_L53 at hf
    obtain ⟨b59, h59, hf⟩ := bnd hf
    by_cases c62 : b59 ≤ x7
    · replace hf := ite_t c62 hf
      obtain ⟨w85, e85, hf⟩ := lt_e hf
      have q9 := hq43 _ _ _ _ hf
      omega
    · replace hf := ite_f c62 hf
      obtain ⟨b72, h72, hf⟩ := bnd hf
      obtain ⟨b75, h75, hf⟩ := bnd hf
      obtain ⟨w79, e79, hf⟩ := lt_e hf
      have q9 := hq53 _ _ _ _ _ hf
      omega
set_option maxRecDepth 100000 in
theorem f_X7_mixSquares_L53_w {r43 : St → Int64 → Int32 → Int32 → Option (Int64 × St)} {res : (Int64 × St)} (X : Cx V A cX7_mixSquares 8 RX7 p m c s args) (hr : meth.sig.returnType = (some .long)) (hlk : meth.locks = false) (hr43 : ∀ (st : St) (x3 : Int64) (x5 : Int32) (x6 : Int32) (H : Heap) (locs : List Loc) (ls : Array Slot), r43 st x3 x5 x6 = some res → (WdC V ad A) st H → va_S A s.heap H locs → lv_has ls 8 [(0, .ref (ad 0)), (3, .long x3), (5, .int x5), (6, .int x6)] → W p l e (rmF 5 115 0 0) s m args below meth c H locs 0 0 (MQ below (Qwl A (WdC V ad A) res.1 res.2) args s 0 0 A) (F0 m 43 ls [])) : ∀ (n9 : Nat) (st : St) (x3 : Int64) (x5 : Int32) (x6 : Int32) (x7 : Int32) (H : Heap) (locs : List Loc) (ls : Array Slot), f_X7_mixSquares_L53 r43 n9 st x3 x5 x6 x7 = some res → (WdC V ad A) st H → va_S A s.heap H locs → lv_has ls 8 [(0, .ref (ad 0)), (3, .long x3), (5, .int x5), (6, .int x6), (7, .int x7)] → W p l e (rmF 5 115 0 0) s m args below meth c H locs 0 0 (MQ below (Qwl A (WdC V ad A) res.1 res.2) args s 0 0 A) (F0 m 53 ls []) := by
  intro n9
  induction n9 with
  | zero =>
    intro st x3 x5 x6 x7 H locs ls hf
    exact absurd hf (by unfold f_X7_mixSquares_L53; exact fun h => by cases h)
  | succ n9 hr53 =>
    intro st x3 x5 x6 x7 H locs ls hf hW hS hl
    
    unfold f_X7_mixSquares_L53 at hf
    refine lv_iload X.hx X.hb dX7_mixSquares_53 (lv_at hl 4 rfl) ?_
    refine lv_aload_n X.hx X.hb dX7_mixSquares_55 rfl (lv_at hl 0 rfl) ?_
    refine gX7_list X hW dX7_mixSquares_56 ?_
    obtain ⟨b59, h59, hf⟩ := bnd hf
    refine cl_i (run_V (As := []) (rest := [.int x7]) X (w_X6_length l V A ad h59) mw_X6_length ln_X7_109 (rcX6 X hW) hW hS rfl hl.1 rfl (Nat.le_of_ble_eq_true rfl) ⟨Nat.le_of_ble_eq_true rfl, Nat.le_of_ble_eq_true rfl⟩ ⟨Nat.le_refl _, Nat.le_refl _⟩ dX7_mixSquares_59) hS (fun H locs hW hS => ?_)
    refine lv_icmp_ge (tgt := 85) X.hx X.hb dX7_mixSquares_62 (by decide) (fun c62 => ?_) (fun c62 => ?_)
    · replace hf := ite_t c62 hf
      obtain ⟨w85, e85, hf⟩ := lt_e hf
      refine lv_iinc (v := w85) (lv' := [(6, .int w85), (0, .ref (ad 0)), (3, .long x3), (5, .int x5), (7, .int x7)]) X.hx X.hb dX7_mixSquares_85 hl (k := 3) rfl (by rw [e85]; rfl) (by decide) rfl (fun ls hl => ?_)
      refine lv_goto (tgt := 43) X.hx X.hb dX7_mixSquares_88 (by decide) ?_
      exact hr43 _ _ _ _ _ _ _  hf hW hS (lv_sub hl [1, 2, 3, 0] rfl)
    · replace hf := ite_f c62 hf
      refine lv_lload_n X.hx X.hb dX7_mixSquares_65 rfl (lv_at hl 1 rfl) ?_
      refine lv_aload_n X.hx X.hb dX7_mixSquares_66 rfl (lv_at hl 0 rfl) ?_
      refine lv_iconst (v := 0) X.hx X.hb dX7_mixSquares_67 (by decide) ?_
      refine lv_iload X.hx X.hb dX7_mixSquares_68 (lv_at hl 3 rfl) ?_
      refine lv_iload X.hx X.hb dX7_mixSquares_70 (lv_at hl 4 rfl) ?_
      obtain ⟨b72, h72, hf⟩ := bnd hf
      refine cl_i (run_V (As := [.int 0, .int x6, .int x7]) (rest := [.long x3]) X (w_X7_row l V A ad h72) mw_X7_row ln_X7_259 (rcX7 X hW) hW hS rfl hl.1 rfl (Nat.le_of_ble_eq_true rfl) ⟨Nat.le_of_ble_eq_true rfl, Nat.le_of_ble_eq_true rfl⟩ ⟨Nat.le_refl _, Nat.le_refl _⟩ dX7_mixSquares_72) hS (fun H locs hW hS => ?_)
      obtain ⟨b75, h75, hf⟩ := bnd hf
      refine cl_l (run_S (As := [.long x3, .int b72]) (rest := []) X (w_X7_mix l V A (WdC V ad A) st h75) mw_X7_mix ln_X7_222 hW hS rfl hl.1 rfl (Nat.le_of_ble_eq_true rfl) ⟨Nat.le_of_ble_eq_true rfl, Nat.le_of_ble_eq_true rfl⟩ ⟨Nat.le_refl _, Nat.le_refl _⟩ dX7_mixSquares_75) hS (fun H locs hW hS => ?_)
      refine lv_lstore_n (lv' := [(3, .long b75), (0, .ref (ad 0)), (5, .int x5), (6, .int x6), (7, .int x7)]) X.hx X.hb dX7_mixSquares_78 rfl hl (by decide) rfl (fun ls hl => ?_)
      obtain ⟨w79, e79, hf⟩ := lt_e hf
      refine lv_iinc (v := w79) (lv' := [(7, .int w79), (3, .long b75), (0, .ref (ad 0)), (5, .int x5), (6, .int x6)]) X.hx X.hb dX7_mixSquares_79 hl (k := 4) rfl (by rw [e79]; rfl) (by decide) rfl (fun ls hl => ?_)
      refine lv_goto (tgt := 53) X.hx X.hb dX7_mixSquares_82 (by decide) ?_
      exact hr53 _ _ _ _ _ _ _ _  hf hW hS (lv_sub hl [2, 1, 3, 4, 0] rfl)
noncomputable def f_X7_mixSquares_L94 : Nat → St → Int64 → Int32 → Option (Int64 × St)
  | 0, _, _, _ => none
  | fu + 1, st, x3, x6 => if 3 ≤ x6 then some (x3, st) else (f_X7_heaviest st x6).bind fun b104 => (f_X7_mix x3 b104.1).bind fun b107 => lt (x6 + 1) fun w111 => (f_X7_mixSquares_L94 fu) b104.2 b107 w111
theorem f_X7_mixSquares_L94_l {res : (Int64 × St)} : ∀ (n9 : Nat) (st : St) (x3 : Int64) (x6 : Int32), f_X7_mixSquares_L94 n9 st x3 x6 = some res → phi res.2 = phi st := by
  intro n9
  induction n9 with
  | zero =>
    intro st x3 x6 hf
    exact absurd hf (by unfold f_X7_mixSquares_L94; exact fun h => by cases h)
  | succ n9 hq94 =>
    intro st x3 x6 hf
    unfold f_X7_mixSquares_L94 at hf
    by_cases c97 : 3 ≤ x6
    · replace hf := ite_t c97 hf
      have q9 := congrArg (fun z => phi z.2) (Option.some.inj hf)
      dsimp only at q9
      omega
    · replace hf := ite_f c97 hf
      obtain ⟨b104, h104, hf⟩ := bnd hf
      have p104 := l_X7_heaviest h104
      obtain ⟨b107, h107, hf⟩ := bnd hf
      obtain ⟨w111, e111, hf⟩ := lt_e hf
      have q9 := hq94 _ _ _ hf
      omega
set_option maxRecDepth 100000 in
theorem f_X7_mixSquares_L94_w {res : (Int64 × St)} (X : Cx V A cX7_mixSquares 8 RX7 p m c s args) (hr : meth.sig.returnType = (some .long)) (hlk : meth.locks = false)  : ∀ (n9 : Nat) (st : St) (x3 : Int64) (x6 : Int32) (H : Heap) (locs : List Loc) (ls : Array Slot), f_X7_mixSquares_L94 n9 st x3 x6 = some res → (WdC V ad A) st H → va_S A s.heap H locs → lv_has ls 8 [(0, .ref (ad 0)), (3, .long x3), (6, .int x6)] → W p l e (rmF 5 115 0 0) s m args below meth c H locs 0 0 (MQ below (Qwl A (WdC V ad A) res.1 res.2) args s 0 0 A) (F0 m 94 ls []) := by
  intro n9
  induction n9 with
  | zero =>
    intro st x3 x6 H locs ls hf
    exact absurd hf (by unfold f_X7_mixSquares_L94; exact fun h => by cases h)
  | succ n9 hr94 =>
    intro st x3 x6 H locs ls hf hW hS hl
    
    unfold f_X7_mixSquares_L94 at hf
    refine lv_iload X.hx X.hb dX7_mixSquares_94 (lv_at hl 2 rfl) ?_
    refine lv_iconst (v := 3) X.hx X.hb dX7_mixSquares_96 (by decide) ?_
    refine lv_icmp_ge (tgt := 117) X.hx X.hb dX7_mixSquares_97 (by decide) (fun c97 => ?_) (fun c97 => ?_)
    · replace hf := ite_t c97 hf
      refine lv_lload_n X.hx X.hb dX7_mixSquares_117 rfl (lv_at hl 1 rfl) ?_
      exact rt_l X hr hlk (by rw [← Option.some.inj hf]; exact hW) hS (by rw [← Option.some.inj hf]) (Nat.le_refl _) (Nat.le_refl _) dX7_mixSquares_118
    · replace hf := ite_f c97 hf
      refine lv_lload_n X.hx X.hb dX7_mixSquares_100 rfl (lv_at hl 1 rfl) ?_
      refine lv_aload_n X.hx X.hb dX7_mixSquares_101 rfl (lv_at hl 0 rfl) ?_
      refine lv_iload X.hx X.hb dX7_mixSquares_102 (lv_at hl 2 rfl) ?_
      obtain ⟨b104, h104, hf⟩ := bnd hf
      refine cl_i (run_V (As := [.int x6]) (rest := [.long x3]) X (w_X7_heaviest l V A ad h104) mw_X7_heaviest ln_X7_262 (rcX7 X hW) hW hS rfl hl.1 rfl (Nat.le_of_ble_eq_true rfl) ⟨Nat.le_of_ble_eq_true rfl, Nat.le_of_ble_eq_true rfl⟩ ⟨Nat.le_refl _, Nat.le_refl _⟩ dX7_mixSquares_104) hS (fun H locs hW hS => ?_)
      obtain ⟨b107, h107, hf⟩ := bnd hf
      refine cl_l (run_S (As := [.long x3, .int b104.1]) (rest := []) X (w_X7_mix l V A (WdC V ad A) b104.2 h107) mw_X7_mix ln_X7_222 hW hS rfl hl.1 rfl (Nat.le_of_ble_eq_true rfl) ⟨Nat.le_of_ble_eq_true rfl, Nat.le_of_ble_eq_true rfl⟩ ⟨Nat.le_refl _, Nat.le_refl _⟩ dX7_mixSquares_107) hS (fun H locs hW hS => ?_)
      refine lv_lstore_n (lv' := [(3, .long b107), (0, .ref (ad 0)), (6, .int x6)]) X.hx X.hb dX7_mixSquares_110 rfl hl (by decide) rfl (fun ls hl => ?_)
      obtain ⟨w111, e111, hf⟩ := lt_e hf
      refine lv_iinc (v := w111) (lv' := [(6, .int w111), (3, .long b107), (0, .ref (ad 0))]) X.hx X.hb dX7_mixSquares_111 hl (k := 2) rfl (by rw [e111]; rfl) (by decide) rfl (fun ls hl => ?_)
      refine lv_goto (tgt := 94) X.hx X.hb dX7_mixSquares_114 (by decide) ?_
      exact hr94 _ _ _ _ _ _  hf hW hS (lv_sub hl [2, 1, 0] rfl)
noncomputable def f_X7_mixSquares_L43 : Nat → St → Int64 → Int32 → Int32 → Option (Int64 × St)
  | 0, _, _, _, _ => none
  | fu + 1, st, x3, x5, x6 => if x5 ≤ x6 then f_X7_mixSquares_L94 FU st x3 0 else f_X7_mixSquares_L53 ((f_X7_mixSquares_L43 fu)) FU st x3 x5 x6 0
theorem f_X7_mixSquares_L43_l {res : (Int64 × St)} : ∀ (n9 : Nat) (st : St) (x3 : Int64) (x5 : Int32) (x6 : Int32), f_X7_mixSquares_L43 n9 st x3 x5 x6 = some res → phi res.2 = phi st := by
  intro n9
  induction n9 with
  | zero =>
    intro st x3 x5 x6 hf
    exact absurd hf (by unfold f_X7_mixSquares_L43; exact fun h => by cases h)
  | succ n9 hq43 =>
    intro st x3 x5 x6 hf
    unfold f_X7_mixSquares_L43 at hf
    by_cases c47 : x5 ≤ x6
    · replace hf := ite_t c47 hf
      have q9 := f_X7_mixSquares_L94_l  FU _ _ _ hf
      omega
    · replace hf := ite_f c47 hf
      have q9 := f_X7_mixSquares_L53_l hq43 FU _ _ _ _ _ hf
      omega
set_option maxRecDepth 100000 in
theorem f_X7_mixSquares_L43_w {res : (Int64 × St)} (X : Cx V A cX7_mixSquares 8 RX7 p m c s args) (hr : meth.sig.returnType = (some .long)) (hlk : meth.locks = false)  : ∀ (n9 : Nat) (st : St) (x3 : Int64) (x5 : Int32) (x6 : Int32) (H : Heap) (locs : List Loc) (ls : Array Slot), f_X7_mixSquares_L43 n9 st x3 x5 x6 = some res → (WdC V ad A) st H → va_S A s.heap H locs → lv_has ls 8 [(0, .ref (ad 0)), (3, .long x3), (5, .int x5), (6, .int x6)] → W p l e (rmF 5 115 0 0) s m args below meth c H locs 0 0 (MQ below (Qwl A (WdC V ad A) res.1 res.2) args s 0 0 A) (F0 m 43 ls []) := by
  intro n9
  induction n9 with
  | zero =>
    intro st x3 x5 x6 H locs ls hf
    exact absurd hf (by unfold f_X7_mixSquares_L43; exact fun h => by cases h)
  | succ n9 hr43 =>
    intro st x3 x5 x6 H locs ls hf hW hS hl
    
    unfold f_X7_mixSquares_L43 at hf
    refine lv_iload X.hx X.hb dX7_mixSquares_43 (lv_at hl 3 rfl) ?_
    refine lv_iload X.hx X.hb dX7_mixSquares_45 (lv_at hl 2 rfl) ?_
    refine lv_icmp_ge (tgt := 91) X.hx X.hb dX7_mixSquares_47 (by decide) (fun c47 => ?_) (fun c47 => ?_)
    · replace hf := ite_t c47 hf
      refine lv_iconst (v := 0) X.hx X.hb dX7_mixSquares_91 (by decide) ?_
      refine lv_istore (lv' := [(6, .int 0), (0, .ref (ad 0)), (3, .long x3), (5, .int x5)]) X.hx X.hb dX7_mixSquares_92 hl (by decide) rfl (fun ls hl => ?_)
      exact f_X7_mixSquares_L94_w X hr hlk FU _ _ _ _ _ _  hf hW hS (lv_sub hl [1, 2, 0] rfl)
    · replace hf := ite_f c47 hf
      refine lv_iconst (v := 0) X.hx X.hb dX7_mixSquares_50 (by decide) ?_
      refine lv_istore (lv' := [(7, .int 0), (0, .ref (ad 0)), (3, .long x3), (5, .int x5), (6, .int x6)]) X.hx X.hb dX7_mixSquares_51 hl (by decide) rfl (fun ls hl => ?_)
      exact f_X7_mixSquares_L53_w X hr hlk hr43 FU _ _ _ _ _ _ _ _  hf hW hS (lv_sub hl [1, 2, 3, 4, 0] rfl)
noncomputable def f_X7_mixSquares_L5 : Nat → St → Int64 → Int32 → Option (Int64 × St)
  | 0, _, _, _ => none
  | fu + 1, st, x3, x5 => if 3 ≤ x5 then (f_X7_squares st 0).bind fun b30 => lt (if 40 < b30 then 40 else b30) fun w38 => f_X7_mixSquares_L43 FU st x3 w38 0 else (f_X7_squares st x5).bind fun b15 => (f_X7_mix x3 b15).bind fun b18 => lt (x5 + 1) fun w22 => (f_X7_mixSquares_L5 fu) st b18 w22
theorem f_X7_mixSquares_L5_l {res : (Int64 × St)} : ∀ (n9 : Nat) (st : St) (x3 : Int64) (x5 : Int32), f_X7_mixSquares_L5 n9 st x3 x5 = some res → phi res.2 = phi st := by
  intro n9
  induction n9 with
  | zero =>
    intro st x3 x5 hf
    exact absurd hf (by unfold f_X7_mixSquares_L5; exact fun h => by cases h)
  | succ n9 hq5 =>
    intro st x3 x5 hf
    unfold f_X7_mixSquares_L5 at hf
    by_cases c8 : 3 ≤ x5
    · replace hf := ite_t c8 hf
      obtain ⟨b30, h30, hf⟩ := bnd hf
      obtain ⟨w38, e38, hf⟩ := lt_e hf
      have q9 := f_X7_mixSquares_L43_l  FU _ _ _ _ hf
      omega
    · replace hf := ite_f c8 hf
      obtain ⟨b15, h15, hf⟩ := bnd hf
      obtain ⟨b18, h18, hf⟩ := bnd hf
      obtain ⟨w22, e22, hf⟩ := lt_e hf
      have q9 := hq5 _ _ _ hf
      omega
set_option maxRecDepth 100000 in
theorem f_X7_mixSquares_L5_w {res : (Int64 × St)} (X : Cx V A cX7_mixSquares 8 RX7 p m c s args) (hr : meth.sig.returnType = (some .long)) (hlk : meth.locks = false)  : ∀ (n9 : Nat) (st : St) (x3 : Int64) (x5 : Int32) (H : Heap) (locs : List Loc) (ls : Array Slot), f_X7_mixSquares_L5 n9 st x3 x5 = some res → (WdC V ad A) st H → va_S A s.heap H locs → lv_has ls 8 [(0, .ref (ad 0)), (3, .long x3), (5, .int x5)] → W p l e (rmF 5 115 0 0) s m args below meth c H locs 0 0 (MQ below (Qwl A (WdC V ad A) res.1 res.2) args s 0 0 A) (F0 m 5 ls []) := by
  intro n9
  induction n9 with
  | zero =>
    intro st x3 x5 H locs ls hf
    exact absurd hf (by unfold f_X7_mixSquares_L5; exact fun h => by cases h)
  | succ n9 hr5 =>
    intro st x3 x5 H locs ls hf hW hS hl
    
    unfold f_X7_mixSquares_L5 at hf
    refine lv_iload X.hx X.hb dX7_mixSquares_5 (lv_at hl 2 rfl) ?_
    refine lv_iconst (v := 3) X.hx X.hb dX7_mixSquares_7 (by decide) ?_
    refine lv_icmp_ge (tgt := 28) X.hx X.hb dX7_mixSquares_8 (by decide) (fun c8 => ?_) (fun c8 => ?_)
    · replace hf := ite_t c8 hf
      refine lv_aload_n X.hx X.hb dX7_mixSquares_28 rfl (lv_at hl 0 rfl) ?_
      refine lv_iconst (v := 0) X.hx X.hb dX7_mixSquares_29 (by decide) ?_
      obtain ⟨b30, h30, hf⟩ := bnd hf
      refine cl_i (run_V (As := [.int 0]) (rest := []) X (w_X7_squares l V A ad h30) mw_X7_squares ln_X7_251 (rcX7 X hW) hW hS rfl hl.1 rfl (Nat.le_of_ble_eq_true rfl) ⟨Nat.le_of_ble_eq_true rfl, Nat.le_of_ble_eq_true rfl⟩ ⟨Nat.le_refl _, Nat.le_refl _⟩ dX7_mixSquares_30) hS (fun H locs hW hS => ?_)
      refine lv_bipush (v := 40) X.hx X.hb dX7_mixSquares_33 (by decide) ?_
      refine va_mmin X.hx X.hb (X.hml.trans hl.1.symm) X.ho (X.ts ln_X7_254) (X.ts st_J9_min_7cf53) (X.ts ini_J9) (X.ts kc_J9_min_7cf53) (Nat.le_of_ble_eq_true rfl) (Nat.le_of_ble_eq_true rfl) (Nat.le_refl _) (Nat.le_refl _) dX7_mixSquares_35 ?_
      obtain ⟨w38, e38, hf⟩ := lt_e hf
      refine lv_nm e38 ?_
      refine lv_istore (lv' := [(5, .int w38), (0, .ref (ad 0)), (3, .long x3)]) X.hx X.hb dX7_mixSquares_38 hl (by decide) rfl (fun ls hl => ?_)
      refine lv_iconst (v := 0) X.hx X.hb dX7_mixSquares_40 (by decide) ?_
      refine lv_istore (lv' := [(6, .int 0), (5, .int w38), (0, .ref (ad 0)), (3, .long x3)]) X.hx X.hb dX7_mixSquares_41 hl (by decide) rfl (fun ls hl => ?_)
      exact f_X7_mixSquares_L43_w X hr hlk FU _ _ _ _ _ _ _  hf hW hS (lv_sub hl [2, 3, 1, 0] rfl)
    · replace hf := ite_f c8 hf
      refine lv_lload_n X.hx X.hb dX7_mixSquares_11 rfl (lv_at hl 1 rfl) ?_
      refine lv_aload_n X.hx X.hb dX7_mixSquares_12 rfl (lv_at hl 0 rfl) ?_
      refine lv_iload X.hx X.hb dX7_mixSquares_13 (lv_at hl 2 rfl) ?_
      obtain ⟨b15, h15, hf⟩ := bnd hf
      refine cl_i (run_V (As := [.int x5]) (rest := [.long x3]) X (w_X7_squares l V A ad h15) mw_X7_squares ln_X7_251 (rcX7 X hW) hW hS rfl hl.1 rfl (Nat.le_of_ble_eq_true rfl) ⟨Nat.le_of_ble_eq_true rfl, Nat.le_of_ble_eq_true rfl⟩ ⟨Nat.le_refl _, Nat.le_refl _⟩ dX7_mixSquares_15) hS (fun H locs hW hS => ?_)
      obtain ⟨b18, h18, hf⟩ := bnd hf
      refine cl_l (run_S (As := [.long x3, .int b15]) (rest := []) X (w_X7_mix l V A (WdC V ad A) st h18) mw_X7_mix ln_X7_222 hW hS rfl hl.1 rfl (Nat.le_of_ble_eq_true rfl) ⟨Nat.le_of_ble_eq_true rfl, Nat.le_of_ble_eq_true rfl⟩ ⟨Nat.le_refl _, Nat.le_refl _⟩ dX7_mixSquares_18) hS (fun H locs hW hS => ?_)
      refine lv_lstore_n (lv' := [(3, .long b18), (0, .ref (ad 0)), (5, .int x5)]) X.hx X.hb dX7_mixSquares_21 rfl hl (by decide) rfl (fun ls hl => ?_)
      obtain ⟨w22, e22, hf⟩ := lt_e hf
      refine lv_iinc (v := w22) (lv' := [(5, .int w22), (3, .long b18), (0, .ref (ad 0))]) X.hx X.hb dX7_mixSquares_22 hl (k := 2) rfl (by rw [e22]; rfl) (by decide) rfl (fun ls hl => ?_)
      refine lv_goto (tgt := 5) X.hx X.hb dX7_mixSquares_25 (by decide) ?_
      exact hr5 _ _ _ _ _ _  hf hW hS (lv_sub hl [2, 1, 0] rfl)
noncomputable def f_X7_mixSquares (st : St) (a1 : Int64) : Option (Int64 × St) := f_X7_mixSquares_L5 FU st a1 0
theorem l_X7_mixSquares {st : St} {a1 : Int64} {res : (Int64 × St)} (hf : f_X7_mixSquares st a1 = some res) : phi res.2 = phi st := by
  unfold f_X7_mixSquares at hf
  have q9 := f_X7_mixSquares_L5_l  FU _ _ _ hf
  omega
set_option maxRecDepth 100000 in
theorem w_X7_mixSquares (l : Launch) (V : Ev) (A : Nat → Prop) (ad : Nat → Nat) {st : St} {a1 : Int64} {res : (Int64 × St)} (hf : f_X7_mixSquares st a1 = some res) : Cn l yX7_mixSquares cX7_mixSquares 8 (some .long) 5 115 0 0 V A (WdC V ad A) st [.ref (ad 0), .long a1] (Qwl A (WdC V ad A) res.1 res.2) := by
  refine cn_of RX7 (by decide) rfl (fun p e s m below meth c ls X hr hlk hW hS hl => ?_) (Nat.le_of_ble_eq_true rfl)
  have hl : lv_has ls 8 [(0, .ref (ad 0)), (1, .long a1)] := hl
  unfold f_X7_mixSquares at hf
  refine lv_lload_n X.hx X.hb dX7_mixSquares_0 rfl (lv_at hl 1 rfl) ?_
  refine lv_lstore_n (lv' := [(3, .long a1), (0, .ref (ad 0)), (1, .long a1)]) X.hx X.hb dX7_mixSquares_1 rfl hl (by decide) rfl (fun ls hl => ?_)
  refine lv_iconst (v := 0) X.hx X.hb dX7_mixSquares_2 (by decide) ?_
  refine lv_istore (lv' := [(5, .int 0), (3, .long a1), (0, .ref (ad 0)), (1, .long a1)]) X.hx X.hb dX7_mixSquares_3 hl (by decide) rfl (fun ls hl => ?_)
  exact f_X7_mixSquares_L5_w X hr hlk FU _ _ _ _ _ _  hf hW hS (lv_sub hl [2, 1, 0] rfl)
-- WordSquares.mixBoard
noncomputable def f_X7_mixBoard_J92 (r19 : St → Int64 → Int32 → Int32 → Option (Int64 × St)) (st : St) (x3 : Int64) (x5 : Int32) (x6 : Int32) : Option (Int64 × St) := lt (x6 + 1) fun w92 => r19 st x3 x5 w92
theorem f_X7_mixBoard_J92_l {r19 : St → Int64 → Int32 → Int32 → Option (Int64 × St)} {res : (Int64 × St)} (hq19 : ∀ (st : St) (x3 : Int64) (x5 : Int32) (x6 : Int32), r19 st x3 x5 x6 = some res → phi res.2 = phi st) (st : St) (x3 : Int64) (x5 : Int32) (x6 : Int32) (hf : f_X7_mixBoard_J92 r19 st x3 x5 x6 = some res) : phi res.2 = phi st := by
  unfold f_X7_mixBoard_J92 at hf
  obtain ⟨w92, e92, hf⟩ := lt_e hf
  have q9 := hq19 _ _ _ _ hf
  omega
set_option maxRecDepth 100000 in
theorem f_X7_mixBoard_J92_w {r19 : St → Int64 → Int32 → Int32 → Option (Int64 × St)} {res : (Int64 × St)} (X : Cx V A cX7_mixBoard 8 RX7 p m c s args) (hr : meth.sig.returnType = (some .long)) (hlk : meth.locks = false) (hr19 : ∀ (st : St) (x3 : Int64) (x5 : Int32) (x6 : Int32) (H : Heap) (locs : List Loc) (ls : Array Slot), r19 st x3 x5 x6 = some res → (WdC V ad A) st H → va_S A s.heap H locs → lv_has ls 8 [(0, .ref (ad 0)), (3, .long x3), (5, .int x5), (6, .int x6)] → W p l e (rmF 5 114 0 0) s m args below meth c H locs 0 0 (MQ below (Qwl A (WdC V ad A) res.1 res.2) args s 0 0 A) (F0 m 19 ls [])) (st : St) (x3 : Int64) (x5 : Int32) (x6 : Int32) (H : Heap) (locs : List Loc) (ls : Array Slot)  (hf : f_X7_mixBoard_J92 r19 st x3 x5 x6 = some res) (hW : (WdC V ad A) st H) (hS : va_S A s.heap H locs) (hl : lv_has ls 8 [(0, .ref (ad 0)), (3, .long x3), (5, .int x5), (6, .int x6)]) : W p l e (rmF 5 114 0 0) s m args below meth c H locs 0 0 (MQ below (Qwl A (WdC V ad A) res.1 res.2) args s 0 0 A) (F0 m 92 ls []) := by
  
  unfold f_X7_mixBoard_J92 at hf
  obtain ⟨w92, e92, hf⟩ := lt_e hf
  refine lv_iinc (v := w92) (lv' := [(6, .int w92), (0, .ref (ad 0)), (3, .long x3), (5, .int x5)]) X.hx X.hb dX7_mixBoard_92 hl (k := 3) rfl (by rw [e92]; rfl) (by decide) rfl (fun ls hl => ?_)
  refine lv_goto (tgt := 19) X.hx X.hb dX7_mixBoard_95 (by decide) ?_
  exact hr19 _ _ _ _ _ _ _  hf hW hS (lv_sub hl [1, 2, 3, 0] rfl)
noncomputable def f_X7_mixBoard_L56 (r19 : St → Int64 → Int32 → Int32 → Option (Int64 × St)) : Nat → St → Int64 → Int32 → Int32 → Int32 → Option (Int64 × St)
  | 0, _, _, _, _, _ => none
  | fu + 1, st, x3, x5, x6, x7 => (f_X6_length st).bind fun b62 => if b62 ≤ x7 then f_X7_mixBoard_J92 r19 st x3 x5 x6 else if x5 = 0 then f_X7_mixBoard_J92 r19 st x3 x5 x6 else (f_X7_sure st x6 x7).bind fun b79 => (f_X7_mix x3 b79.1).bind fun b82 => lt (x7 + 1) fun w86 => (f_X7_mixBoard_L56 r19 fu) b79.2 b82 x5 x6 w86
theorem f_X7_mixBoard_L56_l {r19 : St → Int64 → Int32 → Int32 → Option (Int64 × St)} {res : (Int64 × St)} (hq19 : ∀ (st : St) (x3 : Int64) (x5 : Int32) (x6 : Int32), r19 st x3 x5 x6 = some res → phi res.2 = phi st) : ∀ (n9 : Nat) (st : St) (x3 : Int64) (x5 : Int32) (x6 : Int32) (x7 : Int32), f_X7_mixBoard_L56 r19 n9 st x3 x5 x6 x7 = some res → phi res.2 = phi st := by
  intro n9
  induction n9 with
  | zero =>
    intro st x3 x5 x6 x7 hf
    exact absurd hf (by unfold f_X7_mixBoard_L56; exact fun h => by cases h)
  | succ n9 hq56 =>
    intro st x3 x5 x6 x7 hf
    unfold f_X7_mixBoard_L56 at hf
    obtain ⟨b62, h62, hf⟩ := bnd hf
    by_cases c65 : b62 ≤ x7
    · replace hf := ite_t c65 hf
      have q9 := f_X7_mixBoard_J92_l hq19 _ _ _ _ hf
      omega
    · replace hf := ite_f c65 hf
      by_cases c70 : x5 = 0
      · replace hf := ite_t c70 hf
        have q9 := f_X7_mixBoard_J92_l hq19 _ _ _ _ hf
        omega
      · replace hf := ite_f c70 hf
        obtain ⟨b79, h79, hf⟩ := bnd hf
        have p79 := l_X7_sure h79
        obtain ⟨b82, h82, hf⟩ := bnd hf
        obtain ⟨w86, e86, hf⟩ := lt_e hf
        have q9 := hq56 _ _ _ _ _ hf
        omega
set_option maxRecDepth 100000 in
theorem f_X7_mixBoard_L56_w {r19 : St → Int64 → Int32 → Int32 → Option (Int64 × St)} {res : (Int64 × St)} (X : Cx V A cX7_mixBoard 8 RX7 p m c s args) (hr : meth.sig.returnType = (some .long)) (hlk : meth.locks = false) (hr19 : ∀ (st : St) (x3 : Int64) (x5 : Int32) (x6 : Int32) (H : Heap) (locs : List Loc) (ls : Array Slot), r19 st x3 x5 x6 = some res → (WdC V ad A) st H → va_S A s.heap H locs → lv_has ls 8 [(0, .ref (ad 0)), (3, .long x3), (5, .int x5), (6, .int x6)] → W p l e (rmF 5 114 0 0) s m args below meth c H locs 0 0 (MQ below (Qwl A (WdC V ad A) res.1 res.2) args s 0 0 A) (F0 m 19 ls [])) : ∀ (n9 : Nat) (st : St) (x3 : Int64) (x5 : Int32) (x6 : Int32) (x7 : Int32) (H : Heap) (locs : List Loc) (ls : Array Slot), f_X7_mixBoard_L56 r19 n9 st x3 x5 x6 x7 = some res → (WdC V ad A) st H → va_S A s.heap H locs → lv_has ls 8 [(0, .ref (ad 0)), (3, .long x3), (5, .int x5), (6, .int x6), (7, .int x7)] → W p l e (rmF 5 114 0 0) s m args below meth c H locs 0 0 (MQ below (Qwl A (WdC V ad A) res.1 res.2) args s 0 0 A) (F0 m 56 ls []) := by
  intro n9
  induction n9 with
  | zero =>
    intro st x3 x5 x6 x7 H locs ls hf
    exact absurd hf (by unfold f_X7_mixBoard_L56; exact fun h => by cases h)
  | succ n9 hr56 =>
    intro st x3 x5 x6 x7 H locs ls hf hW hS hl
    
    unfold f_X7_mixBoard_L56 at hf
    refine lv_iload X.hx X.hb dX7_mixBoard_56 (lv_at hl 4 rfl) ?_
    refine lv_aload_n X.hx X.hb dX7_mixBoard_58 rfl (lv_at hl 0 rfl) ?_
    refine gX7_list X hW dX7_mixBoard_59 ?_
    obtain ⟨b62, h62, hf⟩ := bnd hf
    refine cl_i (run_V (As := []) (rest := [.int x7]) X (w_X6_length l V A ad h62) mw_X6_length ln_X7_109 (rcX6 X hW) hW hS rfl hl.1 rfl (Nat.le_of_ble_eq_true rfl) ⟨Nat.le_of_ble_eq_true rfl, Nat.le_of_ble_eq_true rfl⟩ ⟨Nat.le_refl _, Nat.le_refl _⟩ dX7_mixBoard_62) hS (fun H locs hW hS => ?_)
    refine lv_icmp_ge (tgt := 92) X.hx X.hb dX7_mixBoard_65 (by decide) (fun c65 => ?_) (fun c65 => ?_)
    · replace hf := ite_t c65 hf
      exact f_X7_mixBoard_J92_w X hr hlk hr19 _ _ _ _ _ _ _  hf hW hS (lv_sub hl [0, 1, 2, 3] rfl)
    · replace hf := ite_f c65 hf
      refine lv_iload X.hx X.hb dX7_mixBoard_68 (lv_at hl 2 rfl) ?_
      refine lv_if_eq (tgt := 92) X.hx X.hb dX7_mixBoard_70 (by decide) (fun c70 => ?_) (fun c70 => ?_)
      · replace hf := ite_t c70 hf
        exact f_X7_mixBoard_J92_w X hr hlk hr19 _ _ _ _ _ _ _  hf hW hS (lv_sub hl [0, 1, 2, 3] rfl)
      · replace hf := ite_f c70 hf
        refine lv_lload_n X.hx X.hb dX7_mixBoard_73 rfl (lv_at hl 1 rfl) ?_
        refine lv_aload_n X.hx X.hb dX7_mixBoard_74 rfl (lv_at hl 0 rfl) ?_
        refine lv_iload X.hx X.hb dX7_mixBoard_75 (lv_at hl 3 rfl) ?_
        refine lv_iload X.hx X.hb dX7_mixBoard_77 (lv_at hl 4 rfl) ?_
        obtain ⟨b79, h79, hf⟩ := bnd hf
        refine cl_i (run_V (As := [.int x6, .int x7]) (rest := [.long x3]) X (w_X7_sure l V A ad h79) mw_X7_sure ln_X7_274 (rcX7 X hW) hW hS rfl hl.1 rfl (Nat.le_of_ble_eq_true rfl) ⟨Nat.le_of_ble_eq_true rfl, Nat.le_of_ble_eq_true rfl⟩ ⟨Nat.le_refl _, Nat.le_refl _⟩ dX7_mixBoard_79) hS (fun H locs hW hS => ?_)
        obtain ⟨b82, h82, hf⟩ := bnd hf
        refine cl_l (run_S (As := [.long x3, .int b79.1]) (rest := []) X (w_X7_mix l V A (WdC V ad A) b79.2 h82) mw_X7_mix ln_X7_222 hW hS rfl hl.1 rfl (Nat.le_of_ble_eq_true rfl) ⟨Nat.le_of_ble_eq_true rfl, Nat.le_of_ble_eq_true rfl⟩ ⟨Nat.le_refl _, Nat.le_refl _⟩ dX7_mixBoard_82) hS (fun H locs hW hS => ?_)
        refine lv_lstore_n (lv' := [(3, .long b82), (0, .ref (ad 0)), (5, .int x5), (6, .int x6), (7, .int x7)]) X.hx X.hb dX7_mixBoard_85 rfl hl (by decide) rfl (fun ls hl => ?_)
        obtain ⟨w86, e86, hf⟩ := lt_e hf
        refine lv_iinc (v := w86) (lv' := [(7, .int w86), (3, .long b82), (0, .ref (ad 0)), (5, .int x5), (6, .int x6)]) X.hx X.hb dX7_mixBoard_86 hl (k := 4) rfl (by rw [e86]; rfl) (by decide) rfl (fun ls hl => ?_)
        refine lv_goto (tgt := 56) X.hx X.hb dX7_mixBoard_89 (by decide) ?_
        exact hr56 _ _ _ _ _ _ _ _  hf hW hS (lv_sub hl [2, 1, 3, 4, 0] rfl)
noncomputable def f_X7_mixBoard_L19 : Nat → St → Int64 → Int32 → Int32 → Option (Int64 × St)
  | 0, _, _, _, _ => none
  | fu + 1, st, x3, x5, x6 => (f_X6_length st).bind fun b25 => if b25 ≤ x6 then (f_X7_fitting st).bind fun b100 => (f_X7_mix x3 b100.1).bind fun b103 => some (b103, b100.2) else (f_X7_board st x6).bind fun b35 => (f_X7_mix x3 b35).bind fun b38 => (f_X7_may st x6).bind fun b46 => (f_X7_mix b38 b46.1).bind fun b49 => f_X7_mixBoard_L56 ((f_X7_mixBoard_L19 fu)) FU b46.2 b49 x5 x6 0
theorem f_X7_mixBoard_L19_l {res : (Int64 × St)} : ∀ (n9 : Nat) (st : St) (x3 : Int64) (x5 : Int32) (x6 : Int32), f_X7_mixBoard_L19 n9 st x3 x5 x6 = some res → phi res.2 = phi st := by
  intro n9
  induction n9 with
  | zero =>
    intro st x3 x5 x6 hf
    exact absurd hf (by unfold f_X7_mixBoard_L19; exact fun h => by cases h)
  | succ n9 hq19 =>
    intro st x3 x5 x6 hf
    unfold f_X7_mixBoard_L19 at hf
    obtain ⟨b25, h25, hf⟩ := bnd hf
    by_cases c28 : b25 ≤ x6
    · replace hf := ite_t c28 hf
      obtain ⟨b100, h100, hf⟩ := bnd hf
      have p100 := l_X7_fitting h100
      obtain ⟨b103, h103, hf⟩ := bnd hf
      have q9 := congrArg (fun z => phi z.2) (Option.some.inj hf)
      dsimp only at q9
      omega
    · replace hf := ite_f c28 hf
      obtain ⟨b35, h35, hf⟩ := bnd hf
      obtain ⟨b38, h38, hf⟩ := bnd hf
      obtain ⟨b46, h46, hf⟩ := bnd hf
      have p46 := l_X7_may h46
      obtain ⟨b49, h49, hf⟩ := bnd hf
      have q9 := f_X7_mixBoard_L56_l hq19 FU _ _ _ _ _ hf
      omega
set_option maxRecDepth 100000 in
theorem f_X7_mixBoard_L19_w {res : (Int64 × St)} (X : Cx V A cX7_mixBoard 8 RX7 p m c s args) (hr : meth.sig.returnType = (some .long)) (hlk : meth.locks = false)  : ∀ (n9 : Nat) (st : St) (x3 : Int64) (x5 : Int32) (x6 : Int32) (H : Heap) (locs : List Loc) (ls : Array Slot), f_X7_mixBoard_L19 n9 st x3 x5 x6 = some res → (WdC V ad A) st H → va_S A s.heap H locs → lv_has ls 8 [(0, .ref (ad 0)), (3, .long x3), (5, .int x5), (6, .int x6)] → W p l e (rmF 5 114 0 0) s m args below meth c H locs 0 0 (MQ below (Qwl A (WdC V ad A) res.1 res.2) args s 0 0 A) (F0 m 19 ls []) := by
  intro n9
  induction n9 with
  | zero =>
    intro st x3 x5 x6 H locs ls hf
    exact absurd hf (by unfold f_X7_mixBoard_L19; exact fun h => by cases h)
  | succ n9 hr19 =>
    intro st x3 x5 x6 H locs ls hf hW hS hl
    
    unfold f_X7_mixBoard_L19 at hf
    refine lv_iload X.hx X.hb dX7_mixBoard_19 (lv_at hl 3 rfl) ?_
    refine lv_aload_n X.hx X.hb dX7_mixBoard_21 rfl (lv_at hl 0 rfl) ?_
    refine gX7_list X hW dX7_mixBoard_22 ?_
    obtain ⟨b25, h25, hf⟩ := bnd hf
    refine cl_i (run_V (As := []) (rest := [.int x6]) X (w_X6_length l V A ad h25) mw_X6_length ln_X7_109 (rcX6 X hW) hW hS rfl hl.1 rfl (Nat.le_of_ble_eq_true rfl) ⟨Nat.le_of_ble_eq_true rfl, Nat.le_of_ble_eq_true rfl⟩ ⟨Nat.le_refl _, Nat.le_refl _⟩ dX7_mixBoard_25) hS (fun H locs hW hS => ?_)
    refine lv_icmp_ge (tgt := 98) X.hx X.hb dX7_mixBoard_28 (by decide) (fun c28 => ?_) (fun c28 => ?_)
    · replace hf := ite_t c28 hf
      refine lv_lload_n X.hx X.hb dX7_mixBoard_98 rfl (lv_at hl 1 rfl) ?_
      refine lv_aload_n X.hx X.hb dX7_mixBoard_99 rfl (lv_at hl 0 rfl) ?_
      obtain ⟨b100, h100, hf⟩ := bnd hf
      refine cl_i (run_V (As := []) (rest := [.long x3]) X (w_X7_fitting l V A ad h100) mw_X7_fitting ln_X7_265 (rcX7 X hW) hW hS rfl hl.1 rfl (Nat.le_of_ble_eq_true rfl) ⟨Nat.le_of_ble_eq_true rfl, Nat.le_of_ble_eq_true rfl⟩ ⟨Nat.le_refl _, Nat.le_refl _⟩ dX7_mixBoard_100) hS (fun H locs hW hS => ?_)
      obtain ⟨b103, h103, hf⟩ := bnd hf
      refine cl_l (run_S (As := [.long x3, .int b100.1]) (rest := []) X (w_X7_mix l V A (WdC V ad A) b100.2 h103) mw_X7_mix ln_X7_222 hW hS rfl hl.1 rfl (Nat.le_of_ble_eq_true rfl) ⟨Nat.le_of_ble_eq_true rfl, Nat.le_of_ble_eq_true rfl⟩ ⟨Nat.le_refl _, Nat.le_refl _⟩ dX7_mixBoard_103) hS (fun H locs hW hS => ?_)
      exact rt_l X hr hlk (by rw [← Option.some.inj hf]; exact hW) hS (by rw [← Option.some.inj hf]) (Nat.le_refl _) (Nat.le_refl _) dX7_mixBoard_106
    · replace hf := ite_f c28 hf
      refine lv_lload_n X.hx X.hb dX7_mixBoard_31 rfl (lv_at hl 1 rfl) ?_
      refine lv_aload_n X.hx X.hb dX7_mixBoard_32 rfl (lv_at hl 0 rfl) ?_
      refine lv_iload X.hx X.hb dX7_mixBoard_33 (lv_at hl 3 rfl) ?_
      obtain ⟨b35, h35, hf⟩ := bnd hf
      refine cl_i (run_V (As := [.int x6]) (rest := [.long x3]) X (w_X7_board l V A ad h35) mw_X7_board ln_X7_268 (rcX7 X hW) hW hS rfl hl.1 rfl (Nat.le_of_ble_eq_true rfl) ⟨Nat.le_of_ble_eq_true rfl, Nat.le_of_ble_eq_true rfl⟩ ⟨Nat.le_refl _, Nat.le_refl _⟩ dX7_mixBoard_35) hS (fun H locs hW hS => ?_)
      obtain ⟨b38, h38, hf⟩ := bnd hf
      refine cl_l (run_S (As := [.long x3, .int b35]) (rest := []) X (w_X7_mix l V A (WdC V ad A) st h38) mw_X7_mix ln_X7_222 hW hS rfl hl.1 rfl (Nat.le_of_ble_eq_true rfl) ⟨Nat.le_of_ble_eq_true rfl, Nat.le_of_ble_eq_true rfl⟩ ⟨Nat.le_refl _, Nat.le_refl _⟩ dX7_mixBoard_38) hS (fun H locs hW hS => ?_)
      refine lv_lstore_n (lv' := [(3, .long b38), (0, .ref (ad 0)), (5, .int x5), (6, .int x6)]) X.hx X.hb dX7_mixBoard_41 rfl hl (by decide) rfl (fun ls hl => ?_)
      refine lv_lload_n X.hx X.hb dX7_mixBoard_42 rfl (lv_at hl 0 rfl) ?_
      refine lv_aload_n X.hx X.hb dX7_mixBoard_43 rfl (lv_at hl 1 rfl) ?_
      refine lv_iload X.hx X.hb dX7_mixBoard_44 (lv_at hl 3 rfl) ?_
      obtain ⟨b46, h46, hf⟩ := bnd hf
      refine cl_i (run_V (As := [.int x6]) (rest := [.long b38]) X (w_X7_may l V A ad h46) mw_X7_may ln_X7_271 (rcX7 X hW) hW hS rfl hl.1 rfl (Nat.le_of_ble_eq_true rfl) ⟨Nat.le_of_ble_eq_true rfl, Nat.le_of_ble_eq_true rfl⟩ ⟨Nat.le_refl _, Nat.le_refl _⟩ dX7_mixBoard_46) hS (fun H locs hW hS => ?_)
      obtain ⟨b49, h49, hf⟩ := bnd hf
      refine cl_l (run_S (As := [.long b38, .int b46.1]) (rest := []) X (w_X7_mix l V A (WdC V ad A) b46.2 h49) mw_X7_mix ln_X7_222 hW hS rfl hl.1 rfl (Nat.le_of_ble_eq_true rfl) ⟨Nat.le_of_ble_eq_true rfl, Nat.le_of_ble_eq_true rfl⟩ ⟨Nat.le_refl _, Nat.le_refl _⟩ dX7_mixBoard_49) hS (fun H locs hW hS => ?_)
      refine lv_lstore_n (lv' := [(3, .long b49), (0, .ref (ad 0)), (5, .int x5), (6, .int x6)]) X.hx X.hb dX7_mixBoard_52 rfl hl (by decide) rfl (fun ls hl => ?_)
      refine lv_iconst (v := 0) X.hx X.hb dX7_mixBoard_53 (by decide) ?_
      refine lv_istore (lv' := [(7, .int 0), (3, .long b49), (0, .ref (ad 0)), (5, .int x5), (6, .int x6)]) X.hx X.hb dX7_mixBoard_54 hl (by decide) rfl (fun ls hl => ?_)
      exact f_X7_mixBoard_L56_w X hr hlk hr19 FU _ _ _ _ _ _ _ _  hf hW hS (lv_sub hl [2, 1, 3, 4, 0] rfl)
noncomputable def f_X7_mixBoard_J14 (st : St) (x3 : Int64) (t0 : Int32) : Option (Int64 × St) := f_X7_mixBoard_L19 FU st x3 t0 0
theorem f_X7_mixBoard_J14_l {res : (Int64 × St)} (st : St) (x3 : Int64) (t0 : Int32) (hf : f_X7_mixBoard_J14 st x3 t0 = some res) : phi res.2 = phi st := by
  unfold f_X7_mixBoard_J14 at hf
  have q9 := f_X7_mixBoard_L19_l  FU _ _ _ _ hf
  omega
set_option maxRecDepth 100000 in
theorem f_X7_mixBoard_J14_w {res : (Int64 × St)} (X : Cx V A cX7_mixBoard 8 RX7 p m c s args) (hr : meth.sig.returnType = (some .long)) (hlk : meth.locks = false)  (st : St) (x3 : Int64) (t0 : Int32) (H : Heap) (locs : List Loc) (ls : Array Slot)  (hf : f_X7_mixBoard_J14 st x3 t0 = some res) (hW : (WdC V ad A) st H) (hS : va_S A s.heap H locs) (hl : lv_has ls 8 [(0, .ref (ad 0)), (3, .long x3)]) : W p l e (rmF 5 114 0 0) s m args below meth c H locs 0 0 (MQ below (Qwl A (WdC V ad A) res.1 res.2) args s 0 0 A) (F0 m 14 ls [.int t0]) := by
  
  unfold f_X7_mixBoard_J14 at hf
  refine lv_istore (lv' := [(5, .int t0), (0, .ref (ad 0)), (3, .long x3)]) X.hx X.hb dX7_mixBoard_14 hl (by decide) rfl (fun ls hl => ?_)
  refine lv_iconst (v := 0) X.hx X.hb dX7_mixBoard_16 (by decide) ?_
  refine lv_istore (lv' := [(6, .int 0), (5, .int t0), (0, .ref (ad 0)), (3, .long x3)]) X.hx X.hb dX7_mixBoard_17 hl (by decide) rfl (fun ls hl => ?_)
  exact f_X7_mixBoard_L19_w X hr hlk FU _ _ _ _ _ _ _  hf hW hS (lv_sub hl [2, 3, 1, 0] rfl)
noncomputable def f_X7_mixBoard (st : St) (a1 : Int64) : Option (Int64 × St) := (f_X7_fitting st).bind fun b3 => if b3.1 ≤ 0 then f_X7_mixBoard_J14 b3.2 a1 0 else f_X7_mixBoard_J14 b3.2 a1 1
theorem l_X7_mixBoard {st : St} {a1 : Int64} {res : (Int64 × St)} (hf : f_X7_mixBoard st a1 = some res) : phi res.2 = phi st := by
  unfold f_X7_mixBoard at hf
  obtain ⟨b3, h3, hf⟩ := bnd hf
  have p3 := l_X7_fitting h3
  by_cases c6 : b3.1 ≤ 0
  · replace hf := ite_t c6 hf
    have q9 := f_X7_mixBoard_J14_l  _ _ _ hf
    omega
  · replace hf := ite_f c6 hf
    have q9 := f_X7_mixBoard_J14_l  _ _ _ hf
    omega
set_option maxRecDepth 100000 in
theorem w_X7_mixBoard (l : Launch) (V : Ev) (A : Nat → Prop) (ad : Nat → Nat) {st : St} {a1 : Int64} {res : (Int64 × St)} (hf : f_X7_mixBoard st a1 = some res) : Cn l yX7_mixBoard cX7_mixBoard 8 (some .long) 5 114 0 0 V A (WdC V ad A) st [.ref (ad 0), .long a1] (Qwl A (WdC V ad A) res.1 res.2) := by
  refine cn_of RX7 (by decide) rfl (fun p e s m below meth c ls X hr hlk hW hS hl => ?_) (Nat.le_of_ble_eq_true rfl)
  have hl : lv_has ls 8 [(0, .ref (ad 0)), (1, .long a1)] := hl
  unfold f_X7_mixBoard at hf
  refine lv_lload_n X.hx X.hb dX7_mixBoard_0 rfl (lv_at hl 1 rfl) ?_
  refine lv_lstore_n (lv' := [(3, .long a1), (0, .ref (ad 0)), (1, .long a1)]) X.hx X.hb dX7_mixBoard_1 rfl hl (by decide) rfl (fun ls hl => ?_)
  refine lv_aload_n X.hx X.hb dX7_mixBoard_2 rfl (lv_at hl 1 rfl) ?_
  obtain ⟨b3, h3, hf⟩ := bnd hf
  refine cl_i (run_V (As := []) (rest := []) X (w_X7_fitting l V A ad h3) mw_X7_fitting ln_X7_265 (rcX7 X hW) hW hS rfl hl.1 rfl (Nat.le_of_ble_eq_true rfl) ⟨Nat.le_of_ble_eq_true rfl, Nat.le_of_ble_eq_true rfl⟩ ⟨Nat.le_refl _, Nat.le_refl _⟩ dX7_mixBoard_3) hS (fun H locs hW hS => ?_)
  refine lv_if_le (tgt := 13) X.hx X.hb dX7_mixBoard_6 (by decide) (fun c6 => ?_) (fun c6 => ?_)
  · replace hf := ite_t c6 hf
    refine lv_iconst (v := 0) X.hx X.hb dX7_mixBoard_13 (by decide) ?_
    exact f_X7_mixBoard_J14_w X hr hlk _ _ _ _ _ _  hf hW hS (lv_sub hl [1, 0] rfl)
  · replace hf := ite_f c6 hf
    refine lv_iconst (v := 1) X.hx X.hb dX7_mixBoard_9 (by decide) ?_
    refine lv_goto (tgt := 14) X.hx X.hb dX7_mixBoard_10 (by decide) ?_
    exact f_X7_mixBoard_J14_w X hr hlk _ _ _ _ _ _  hf hW hS (lv_sub hl [1, 0] rfl)
-- WordSquares.digest
noncomputable def f_X7_digest_L112 : Nat → St → Int64 → Int32 → Option (Int64 × St)
  | 0, _, _, _ => none
  | fu + 1, st, x1, x3 => if 4 < x3 then some (x1, st) else (f_X7_count st x3).bind fun b120 => (f_X7_mix x1 b120).bind fun b123 => lt (x3 + 1) fun w127 => (f_X7_digest_L112 fu) st b123 w127
theorem f_X7_digest_L112_l {res : (Int64 × St)} : ∀ (n9 : Nat) (st : St) (x1 : Int64) (x3 : Int32), f_X7_digest_L112 n9 st x1 x3 = some res → phi res.2 = phi st := by
  intro n9
  induction n9 with
  | zero =>
    intro st x1 x3 hf
    exact absurd hf (by unfold f_X7_digest_L112; exact fun h => by cases h)
  | succ n9 hq112 =>
    intro st x1 x3 hf
    unfold f_X7_digest_L112 at hf
    by_cases c114 : 4 < x3
    · replace hf := ite_t c114 hf
      have q9 := congrArg (fun z => phi z.2) (Option.some.inj hf)
      dsimp only at q9
      omega
    · replace hf := ite_f c114 hf
      obtain ⟨b120, h120, hf⟩ := bnd hf
      obtain ⟨b123, h123, hf⟩ := bnd hf
      obtain ⟨w127, e127, hf⟩ := lt_e hf
      have q9 := hq112 _ _ _ hf
      omega
set_option maxRecDepth 100000 in
theorem f_X7_digest_L112_w {res : (Int64 × St)} (X : Cx V A cX7_digest 4 RX7 p m c s args) (hr : meth.sig.returnType = (some .long)) (hlk : meth.locks = false)  : ∀ (n9 : Nat) (st : St) (x1 : Int64) (x3 : Int32) (H : Heap) (locs : List Loc) (ls : Array Slot), f_X7_digest_L112 n9 st x1 x3 = some res → (WdC V ad A) st H → va_S A s.heap H locs → lv_has ls 4 [(0, .ref (ad 0)), (1, .long x1), (3, .int x3)] → W p l e (rmF 6 142 0 0) s m args below meth c H locs 0 0 (MQ below (Qwl A (WdC V ad A) res.1 res.2) args s 0 0 A) (F0 m 112 ls []) := by
  intro n9
  induction n9 with
  | zero =>
    intro st x1 x3 H locs ls hf
    exact absurd hf (by unfold f_X7_digest_L112; exact fun h => by cases h)
  | succ n9 hr112 =>
    intro st x1 x3 H locs ls hf hW hS hl
    
    unfold f_X7_digest_L112 at hf
    refine lv_iload_n X.hx X.hb dX7_digest_112 rfl (lv_at hl 2 rfl) ?_
    refine lv_iconst (v := 4) X.hx X.hb dX7_digest_113 (by decide) ?_
    refine lv_icmp_gt (tgt := 133) X.hx X.hb dX7_digest_114 (by decide) (fun c114 => ?_) (fun c114 => ?_)
    · replace hf := ite_t c114 hf
      refine lv_lload_n X.hx X.hb dX7_digest_133 rfl (lv_at hl 1 rfl) ?_
      exact rt_l X hr hlk (by rw [← Option.some.inj hf]; exact hW) hS (by rw [← Option.some.inj hf]) (Nat.le_refl _) (Nat.le_refl _) dX7_digest_134
    · replace hf := ite_f c114 hf
      refine lv_lload_n X.hx X.hb dX7_digest_117 rfl (lv_at hl 1 rfl) ?_
      refine lv_aload_n X.hx X.hb dX7_digest_118 rfl (lv_at hl 0 rfl) ?_
      refine lv_iload_n X.hx X.hb dX7_digest_119 rfl (lv_at hl 2 rfl) ?_
      obtain ⟨b120, h120, hf⟩ := bnd hf
      refine cl_i (run_V (As := [.int x3]) (rest := [.long x1]) X (w_X7_count l V A ad h120) mw_X7_count ln_X7_242 (rcX7 X hW) hW hS rfl hl.1 rfl (Nat.le_of_ble_eq_true rfl) ⟨Nat.le_of_ble_eq_true rfl, Nat.le_of_ble_eq_true rfl⟩ ⟨Nat.le_refl _, Nat.le_refl _⟩ dX7_digest_120) hS (fun H locs hW hS => ?_)
      obtain ⟨b123, h123, hf⟩ := bnd hf
      refine cl_l (run_S (As := [.long x1, .int b120]) (rest := []) X (w_X7_mix l V A (WdC V ad A) st h123) mw_X7_mix ln_X7_222 hW hS rfl hl.1 rfl (Nat.le_of_ble_eq_true rfl) ⟨Nat.le_of_ble_eq_true rfl, Nat.le_of_ble_eq_true rfl⟩ ⟨Nat.le_refl _, Nat.le_refl _⟩ dX7_digest_123) hS (fun H locs hW hS => ?_)
      refine lv_lstore_n (lv' := [(1, .long b123), (0, .ref (ad 0)), (3, .int x3)]) X.hx X.hb dX7_digest_126 rfl hl (by decide) rfl (fun ls hl => ?_)
      obtain ⟨w127, e127, hf⟩ := lt_e hf
      refine lv_iinc (v := w127) (lv' := [(3, .int w127), (1, .long b123), (0, .ref (ad 0))]) X.hx X.hb dX7_digest_127 hl (k := 2) rfl (by rw [e127]; rfl) (by decide) rfl (fun ls hl => ?_)
      refine lv_goto (tgt := 112) X.hx X.hb dX7_digest_130 (by decide) ?_
      exact hr112 _ _ _ _ _ _  hf hW hS (lv_sub hl [2, 1, 0] rfl)
noncomputable def f_X7_digest_L80 : Nat → St → Int64 → Int32 → Option (Int64 × St)
  | 0, _, _, _ => none
  | fu + 1, st, x1, x3 => (f_X5_size st).bind fun b85 => if b85 ≤ x3 then f_X7_digest_L112 FU st x1 0 else (f_X5_codeAt st x3).bind fun b97 => (f_X7_mix x1 b97).bind fun b100 => lt (x3 + 1) fun w104 => (f_X7_digest_L80 fu) st b100 w104
theorem f_X7_digest_L80_l {res : (Int64 × St)} : ∀ (n9 : Nat) (st : St) (x1 : Int64) (x3 : Int32), f_X7_digest_L80 n9 st x1 x3 = some res → phi res.2 = phi st := by
  intro n9
  induction n9 with
  | zero =>
    intro st x1 x3 hf
    exact absurd hf (by unfold f_X7_digest_L80; exact fun h => by cases h)
  | succ n9 hq80 =>
    intro st x1 x3 hf
    unfold f_X7_digest_L80 at hf
    obtain ⟨b85, h85, hf⟩ := bnd hf
    by_cases c88 : b85 ≤ x3
    · replace hf := ite_t c88 hf
      have q9 := f_X7_digest_L112_l  FU _ _ _ hf
      omega
    · replace hf := ite_f c88 hf
      obtain ⟨b97, h97, hf⟩ := bnd hf
      obtain ⟨b100, h100, hf⟩ := bnd hf
      obtain ⟨w104, e104, hf⟩ := lt_e hf
      have q9 := hq80 _ _ _ hf
      omega
set_option maxRecDepth 100000 in
theorem f_X7_digest_L80_w {res : (Int64 × St)} (X : Cx V A cX7_digest 4 RX7 p m c s args) (hr : meth.sig.returnType = (some .long)) (hlk : meth.locks = false)  : ∀ (n9 : Nat) (st : St) (x1 : Int64) (x3 : Int32) (H : Heap) (locs : List Loc) (ls : Array Slot), f_X7_digest_L80 n9 st x1 x3 = some res → (WdC V ad A) st H → va_S A s.heap H locs → lv_has ls 4 [(0, .ref (ad 0)), (1, .long x1), (3, .int x3)] → W p l e (rmF 6 142 0 0) s m args below meth c H locs 0 0 (MQ below (Qwl A (WdC V ad A) res.1 res.2) args s 0 0 A) (F0 m 80 ls []) := by
  intro n9
  induction n9 with
  | zero =>
    intro st x1 x3 H locs ls hf
    exact absurd hf (by unfold f_X7_digest_L80; exact fun h => by cases h)
  | succ n9 hr80 =>
    intro st x1 x3 H locs ls hf hW hS hl
    
    unfold f_X7_digest_L80 at hf
    refine lv_iload_n X.hx X.hb dX7_digest_80 rfl (lv_at hl 2 rfl) ?_
    refine lv_aload_n X.hx X.hb dX7_digest_81 rfl (lv_at hl 0 rfl) ?_
    refine gX7_text X hW dX7_digest_82 ?_
    obtain ⟨b85, h85, hf⟩ := bnd hf
    refine cl_i (run_V (As := []) (rest := [.int x3]) X (w_X5_size l V A ad h85) mw_X5_size ln_X7_57 (rcX5 X hW) hW hS rfl hl.1 rfl (Nat.le_of_ble_eq_true rfl) ⟨Nat.le_of_ble_eq_true rfl, Nat.le_of_ble_eq_true rfl⟩ ⟨Nat.le_refl _, Nat.le_refl _⟩ dX7_digest_85) hS (fun H locs hW hS => ?_)
    refine lv_icmp_ge (tgt := 110) X.hx X.hb dX7_digest_88 (by decide) (fun c88 => ?_) (fun c88 => ?_)
    · replace hf := ite_t c88 hf
      refine lv_iconst (v := 0) X.hx X.hb dX7_digest_110 (by decide) ?_
      refine lv_istore_n (lv' := [(3, .int 0), (0, .ref (ad 0)), (1, .long x1)]) X.hx X.hb dX7_digest_111 rfl hl (by decide) rfl (fun ls hl => ?_)
      exact f_X7_digest_L112_w X hr hlk FU _ _ _ _ _ _  hf hW hS (lv_sub hl [1, 2, 0] rfl)
    · replace hf := ite_f c88 hf
      refine lv_lload_n X.hx X.hb dX7_digest_91 rfl (lv_at hl 1 rfl) ?_
      refine lv_aload_n X.hx X.hb dX7_digest_92 rfl (lv_at hl 0 rfl) ?_
      refine gX7_text X hW dX7_digest_93 ?_
      refine lv_iload_n X.hx X.hb dX7_digest_96 rfl (lv_at hl 2 rfl) ?_
      obtain ⟨b97, h97, hf⟩ := bnd hf
      refine cl_i (run_V (As := [.int x3]) (rest := [.long x1]) X (w_X5_codeAt l V A ad h97) mw_X5_codeAt ln_X7_239 (rcX5 X hW) hW hS rfl hl.1 rfl (Nat.le_of_ble_eq_true rfl) ⟨Nat.le_of_ble_eq_true rfl, Nat.le_of_ble_eq_true rfl⟩ ⟨Nat.le_refl _, Nat.le_refl _⟩ dX7_digest_97) hS (fun H locs hW hS => ?_)
      obtain ⟨b100, h100, hf⟩ := bnd hf
      refine cl_l (run_S (As := [.long x1, .int b97]) (rest := []) X (w_X7_mix l V A (WdC V ad A) st h100) mw_X7_mix ln_X7_222 hW hS rfl hl.1 rfl (Nat.le_of_ble_eq_true rfl) ⟨Nat.le_of_ble_eq_true rfl, Nat.le_of_ble_eq_true rfl⟩ ⟨Nat.le_refl _, Nat.le_refl _⟩ dX7_digest_100) hS (fun H locs hW hS => ?_)
      refine lv_lstore_n (lv' := [(1, .long b100), (0, .ref (ad 0)), (3, .int x3)]) X.hx X.hb dX7_digest_103 rfl hl (by decide) rfl (fun ls hl => ?_)
      obtain ⟨w104, e104, hf⟩ := lt_e hf
      refine lv_iinc (v := w104) (lv' := [(3, .int w104), (1, .long b100), (0, .ref (ad 0))]) X.hx X.hb dX7_digest_104 hl (k := 2) rfl (by rw [e104]; rfl) (by decide) rfl (fun ls hl => ?_)
      refine lv_goto (tgt := 80) X.hx X.hb dX7_digest_107 (by decide) ?_
      exact hr80 _ _ _ _ _ _  hf hW hS (lv_sub hl [2, 1, 0] rfl)
noncomputable def f_X7_digest_J78 (st : St) (x1 : Int64) : Option (Int64 × St) := f_X7_digest_L80 FU st x1 0
theorem f_X7_digest_J78_l {res : (Int64 × St)} (st : St) (x1 : Int64) (hf : f_X7_digest_J78 st x1 = some res) : phi res.2 = phi st := by
  unfold f_X7_digest_J78 at hf
  have q9 := f_X7_digest_L80_l  FU _ _ _ hf
  omega
set_option maxRecDepth 100000 in
theorem f_X7_digest_J78_w {res : (Int64 × St)} (X : Cx V A cX7_digest 4 RX7 p m c s args) (hr : meth.sig.returnType = (some .long)) (hlk : meth.locks = false)  (st : St) (x1 : Int64) (H : Heap) (locs : List Loc) (ls : Array Slot)  (hf : f_X7_digest_J78 st x1 = some res) (hW : (WdC V ad A) st H) (hS : va_S A s.heap H locs) (hl : lv_has ls 4 [(0, .ref (ad 0)), (1, .long x1)]) : W p l e (rmF 6 142 0 0) s m args below meth c H locs 0 0 (MQ below (Qwl A (WdC V ad A) res.1 res.2) args s 0 0 A) (F0 m 78 ls []) := by
  
  unfold f_X7_digest_J78 at hf
  refine lv_iconst (v := 0) X.hx X.hb dX7_digest_78 (by decide) ?_
  refine lv_istore_n (lv' := [(3, .int 0), (0, .ref (ad 0)), (1, .long x1)]) X.hx X.hb dX7_digest_79 rfl hl (by decide) rfl (fun ls hl => ?_)
  exact f_X7_digest_L80_w X hr hlk FU _ _ _ _ _ _  hf hW hS (lv_sub hl [1, 2, 0] rfl)
noncomputable def f_X7_digest_L47 : Nat → St → Int64 → Int32 → Option (Int64 × St)
  | 0, _, _, _ => none
  | fu + 1, st, x1, x3 => if 4 < x3 then f_X7_digest_J78 st x1 else (f_X6_size st).bind fun b56 => if b56 ≤ 0 then f_X7_digest_J78 st x1 else (f_X7_search st x3).bind fun b65 => (f_X7_mix x1 b65).bind fun b68 => lt (x3 + 1) fun w72 => (f_X7_digest_L47 fu) st b68 w72
theorem f_X7_digest_L47_l {res : (Int64 × St)} : ∀ (n9 : Nat) (st : St) (x1 : Int64) (x3 : Int32), f_X7_digest_L47 n9 st x1 x3 = some res → phi res.2 = phi st := by
  intro n9
  induction n9 with
  | zero =>
    intro st x1 x3 hf
    exact absurd hf (by unfold f_X7_digest_L47; exact fun h => by cases h)
  | succ n9 hq47 =>
    intro st x1 x3 hf
    unfold f_X7_digest_L47 at hf
    by_cases c49 : 4 < x3
    · replace hf := ite_t c49 hf
      have q9 := f_X7_digest_J78_l  _ _ hf
      omega
    · replace hf := ite_f c49 hf
      obtain ⟨b56, h56, hf⟩ := bnd hf
      by_cases c59 : b56 ≤ 0
      · replace hf := ite_t c59 hf
        have q9 := f_X7_digest_J78_l  _ _ hf
        omega
      · replace hf := ite_f c59 hf
        obtain ⟨b65, h65, hf⟩ := bnd hf
        obtain ⟨b68, h68, hf⟩ := bnd hf
        obtain ⟨w72, e72, hf⟩ := lt_e hf
        have q9 := hq47 _ _ _ hf
        omega
set_option maxRecDepth 100000 in
theorem f_X7_digest_L47_w {res : (Int64 × St)} (X : Cx V A cX7_digest 4 RX7 p m c s args) (hr : meth.sig.returnType = (some .long)) (hlk : meth.locks = false)  : ∀ (n9 : Nat) (st : St) (x1 : Int64) (x3 : Int32) (H : Heap) (locs : List Loc) (ls : Array Slot), f_X7_digest_L47 n9 st x1 x3 = some res → (WdC V ad A) st H → va_S A s.heap H locs → lv_has ls 4 [(0, .ref (ad 0)), (1, .long x1), (3, .int x3)] → W p l e (rmF 6 142 0 0) s m args below meth c H locs 0 0 (MQ below (Qwl A (WdC V ad A) res.1 res.2) args s 0 0 A) (F0 m 47 ls []) := by
  intro n9
  induction n9 with
  | zero =>
    intro st x1 x3 H locs ls hf
    exact absurd hf (by unfold f_X7_digest_L47; exact fun h => by cases h)
  | succ n9 hr47 =>
    intro st x1 x3 H locs ls hf hW hS hl
    
    unfold f_X7_digest_L47 at hf
    refine lv_iload_n X.hx X.hb dX7_digest_47 rfl (lv_at hl 2 rfl) ?_
    refine lv_iconst (v := 4) X.hx X.hb dX7_digest_48 (by decide) ?_
    refine lv_icmp_gt (tgt := 78) X.hx X.hb dX7_digest_49 (by decide) (fun c49 => ?_) (fun c49 => ?_)
    · replace hf := ite_t c49 hf
      exact f_X7_digest_J78_w X hr hlk _ _ _ _ _  hf hW hS (lv_sub hl [0, 1] rfl)
    · replace hf := ite_f c49 hf
      refine lv_aload_n X.hx X.hb dX7_digest_52 rfl (lv_at hl 0 rfl) ?_
      refine gX7_list X hW dX7_digest_53 ?_
      obtain ⟨b56, h56, hf⟩ := bnd hf
      refine cl_i (run_V (As := []) (rest := []) X (w_X6_size l V A ad h56) mw_X6_size ln_X7_89 (rcX6 X hW) hW hS rfl hl.1 rfl (Nat.le_of_ble_eq_true rfl) ⟨Nat.le_of_ble_eq_true rfl, Nat.le_of_ble_eq_true rfl⟩ ⟨Nat.le_refl _, Nat.le_refl _⟩ dX7_digest_56) hS (fun H locs hW hS => ?_)
      refine lv_if_le (tgt := 78) X.hx X.hb dX7_digest_59 (by decide) (fun c59 => ?_) (fun c59 => ?_)
      · replace hf := ite_t c59 hf
        exact f_X7_digest_J78_w X hr hlk _ _ _ _ _  hf hW hS (lv_sub hl [0, 1] rfl)
      · replace hf := ite_f c59 hf
        refine lv_lload_n X.hx X.hb dX7_digest_62 rfl (lv_at hl 1 rfl) ?_
        refine lv_aload_n X.hx X.hb dX7_digest_63 rfl (lv_at hl 0 rfl) ?_
        refine lv_iload_n X.hx X.hb dX7_digest_64 rfl (lv_at hl 2 rfl) ?_
        obtain ⟨b65, h65, hf⟩ := bnd hf
        refine cl_i (run_V (As := [.int x3]) (rest := [.long x1]) X (w_X7_search l V A ad h65) mw_X7_search ln_X7_236 (rcX7 X hW) hW hS rfl hl.1 rfl (Nat.le_of_ble_eq_true rfl) ⟨Nat.le_of_ble_eq_true rfl, Nat.le_of_ble_eq_true rfl⟩ ⟨Nat.le_refl _, Nat.le_refl _⟩ dX7_digest_65) hS (fun H locs hW hS => ?_)
        obtain ⟨b68, h68, hf⟩ := bnd hf
        refine cl_l (run_S (As := [.long x1, .int b65]) (rest := []) X (w_X7_mix l V A (WdC V ad A) st h68) mw_X7_mix ln_X7_222 hW hS rfl hl.1 rfl (Nat.le_of_ble_eq_true rfl) ⟨Nat.le_of_ble_eq_true rfl, Nat.le_of_ble_eq_true rfl⟩ ⟨Nat.le_refl _, Nat.le_refl _⟩ dX7_digest_68) hS (fun H locs hW hS => ?_)
        refine lv_lstore_n (lv' := [(1, .long b68), (0, .ref (ad 0)), (3, .int x3)]) X.hx X.hb dX7_digest_71 rfl hl (by decide) rfl (fun ls hl => ?_)
        obtain ⟨w72, e72, hf⟩ := lt_e hf
        refine lv_iinc (v := w72) (lv' := [(3, .int w72), (1, .long b68), (0, .ref (ad 0))]) X.hx X.hb dX7_digest_72 hl (k := 2) rfl (by rw [e72]; rfl) (by decide) rfl (fun ls hl => ?_)
        refine lv_goto (tgt := 47) X.hx X.hb dX7_digest_75 (by decide) ?_
        exact hr47 _ _ _ _ _ _  hf hW hS (lv_sub hl [2, 1, 0] rfl)
noncomputable def f_X7_digest_L6 : Nat → St → Int64 → Int32 → Option (Int64 × St)
  | 0, _, _, _ => none
  | fu + 1, st, x1, x3 => if 5 < x3 then (f_X7_mixWords st x1).bind fun b29 => (f_X7_mixSquares st b29).bind fun b35 => (f_X7_mixBoard b35.2 b35.1).bind fun b41 => f_X7_digest_L47 FU b41.2 b41.1 0 else (f_X7_about st x3).bind fun b14 => (f_X7_mix x1 b14).bind fun b17 => lt (x3 + 1) fun w21 => (f_X7_digest_L6 fu) st b17 w21
theorem f_X7_digest_L6_l {res : (Int64 × St)} : ∀ (n9 : Nat) (st : St) (x1 : Int64) (x3 : Int32), f_X7_digest_L6 n9 st x1 x3 = some res → phi res.2 = phi st := by
  intro n9
  induction n9 with
  | zero =>
    intro st x1 x3 hf
    exact absurd hf (by unfold f_X7_digest_L6; exact fun h => by cases h)
  | succ n9 hq6 =>
    intro st x1 x3 hf
    unfold f_X7_digest_L6 at hf
    by_cases c8 : 5 < x3
    · replace hf := ite_t c8 hf
      obtain ⟨b29, h29, hf⟩ := bnd hf
      obtain ⟨b35, h35, hf⟩ := bnd hf
      have p35 := l_X7_mixSquares h35
      obtain ⟨b41, h41, hf⟩ := bnd hf
      have p41 := l_X7_mixBoard h41
      have q9 := f_X7_digest_L47_l  FU _ _ _ hf
      omega
    · replace hf := ite_f c8 hf
      obtain ⟨b14, h14, hf⟩ := bnd hf
      obtain ⟨b17, h17, hf⟩ := bnd hf
      obtain ⟨w21, e21, hf⟩ := lt_e hf
      have q9 := hq6 _ _ _ hf
      omega
set_option maxRecDepth 100000 in
theorem f_X7_digest_L6_w {res : (Int64 × St)} (X : Cx V A cX7_digest 4 RX7 p m c s args) (hr : meth.sig.returnType = (some .long)) (hlk : meth.locks = false)  : ∀ (n9 : Nat) (st : St) (x1 : Int64) (x3 : Int32) (H : Heap) (locs : List Loc) (ls : Array Slot), f_X7_digest_L6 n9 st x1 x3 = some res → (WdC V ad A) st H → va_S A s.heap H locs → lv_has ls 4 [(0, .ref (ad 0)), (1, .long x1), (3, .int x3)] → W p l e (rmF 6 142 0 0) s m args below meth c H locs 0 0 (MQ below (Qwl A (WdC V ad A) res.1 res.2) args s 0 0 A) (F0 m 6 ls []) := by
  intro n9
  induction n9 with
  | zero =>
    intro st x1 x3 H locs ls hf
    exact absurd hf (by unfold f_X7_digest_L6; exact fun h => by cases h)
  | succ n9 hr6 =>
    intro st x1 x3 H locs ls hf hW hS hl
    
    unfold f_X7_digest_L6 at hf
    refine lv_iload_n X.hx X.hb dX7_digest_6 rfl (lv_at hl 2 rfl) ?_
    refine lv_iconst (v := 5) X.hx X.hb dX7_digest_7 (by decide) ?_
    refine lv_icmp_gt (tgt := 27) X.hx X.hb dX7_digest_8 (by decide) (fun c8 => ?_) (fun c8 => ?_)
    · replace hf := ite_t c8 hf
      refine lv_aload_n X.hx X.hb dX7_digest_27 rfl (lv_at hl 0 rfl) ?_
      refine lv_lload_n X.hx X.hb dX7_digest_28 rfl (lv_at hl 1 rfl) ?_
      obtain ⟨b29, h29, hf⟩ := bnd hf
      refine cl_l (run_V (As := [.long x1]) (rest := []) X (w_X7_mixWords l V A ad h29) mw_X7_mixWords ln_X7_226 (rcX7 X hW) hW hS rfl hl.1 rfl (Nat.le_of_ble_eq_true rfl) ⟨Nat.le_of_ble_eq_true rfl, Nat.le_of_ble_eq_true rfl⟩ ⟨Nat.le_refl _, Nat.le_refl _⟩ dX7_digest_29) hS (fun H locs hW hS => ?_)
      refine lv_lstore_n (lv' := [(1, .long b29), (0, .ref (ad 0)), (3, .int x3)]) X.hx X.hb dX7_digest_32 rfl hl (by decide) rfl (fun ls hl => ?_)
      refine lv_aload_n X.hx X.hb dX7_digest_33 rfl (lv_at hl 1 rfl) ?_
      refine lv_lload_n X.hx X.hb dX7_digest_34 rfl (lv_at hl 0 rfl) ?_
      obtain ⟨b35, h35, hf⟩ := bnd hf
      refine cl_l (run_V (As := [.long b29]) (rest := []) X (w_X7_mixSquares l V A ad h35) mw_X7_mixSquares ln_X7_230 (rcX7 X hW) hW hS rfl hl.1 rfl (Nat.le_of_ble_eq_true rfl) ⟨Nat.le_of_ble_eq_true rfl, Nat.le_of_ble_eq_true rfl⟩ ⟨Nat.le_refl _, Nat.le_refl _⟩ dX7_digest_35) hS (fun H locs hW hS => ?_)
      refine lv_lstore_n (lv' := [(1, .long b35.1), (0, .ref (ad 0)), (3, .int x3)]) X.hx X.hb dX7_digest_38 rfl hl (by decide) rfl (fun ls hl => ?_)
      refine lv_aload_n X.hx X.hb dX7_digest_39 rfl (lv_at hl 1 rfl) ?_
      refine lv_lload_n X.hx X.hb dX7_digest_40 rfl (lv_at hl 0 rfl) ?_
      obtain ⟨b41, h41, hf⟩ := bnd hf
      refine cl_l (run_V (As := [.long b35.1]) (rest := []) X (w_X7_mixBoard l V A ad h41) mw_X7_mixBoard ln_X7_233 (rcX7 X hW) hW hS rfl hl.1 rfl (Nat.le_of_ble_eq_true rfl) ⟨Nat.le_of_ble_eq_true rfl, Nat.le_of_ble_eq_true rfl⟩ ⟨Nat.le_refl _, Nat.le_refl _⟩ dX7_digest_41) hS (fun H locs hW hS => ?_)
      refine lv_lstore_n (lv' := [(1, .long b41.1), (0, .ref (ad 0)), (3, .int x3)]) X.hx X.hb dX7_digest_44 rfl hl (by decide) rfl (fun ls hl => ?_)
      refine lv_iconst (v := 0) X.hx X.hb dX7_digest_45 (by decide) ?_
      refine lv_istore_n (lv' := [(3, .int 0), (1, .long b41.1), (0, .ref (ad 0))]) X.hx X.hb dX7_digest_46 rfl hl (by decide) rfl (fun ls hl => ?_)
      exact f_X7_digest_L47_w X hr hlk FU _ _ _ _ _ _  hf hW hS (lv_sub hl [2, 1, 0] rfl)
    · replace hf := ite_f c8 hf
      refine lv_lload_n X.hx X.hb dX7_digest_11 rfl (lv_at hl 1 rfl) ?_
      refine lv_aload_n X.hx X.hb dX7_digest_12 rfl (lv_at hl 0 rfl) ?_
      refine lv_iload_n X.hx X.hb dX7_digest_13 rfl (lv_at hl 2 rfl) ?_
      obtain ⟨b14, h14, hf⟩ := bnd hf
      refine cl_i (run_V (As := [.int x3]) (rest := [.long x1]) X (w_X7_about l V A ad h14) mw_X7_about ln_X7_219 (rcX7 X hW) hW hS rfl hl.1 rfl (Nat.le_of_ble_eq_true rfl) ⟨Nat.le_of_ble_eq_true rfl, Nat.le_of_ble_eq_true rfl⟩ ⟨Nat.le_refl _, Nat.le_refl _⟩ dX7_digest_14) hS (fun H locs hW hS => ?_)
      obtain ⟨b17, h17, hf⟩ := bnd hf
      refine cl_l (run_S (As := [.long x1, .int b14]) (rest := []) X (w_X7_mix l V A (WdC V ad A) st h17) mw_X7_mix ln_X7_222 hW hS rfl hl.1 rfl (Nat.le_of_ble_eq_true rfl) ⟨Nat.le_of_ble_eq_true rfl, Nat.le_of_ble_eq_true rfl⟩ ⟨Nat.le_refl _, Nat.le_refl _⟩ dX7_digest_17) hS (fun H locs hW hS => ?_)
      refine lv_lstore_n (lv' := [(1, .long b17), (0, .ref (ad 0)), (3, .int x3)]) X.hx X.hb dX7_digest_20 rfl hl (by decide) rfl (fun ls hl => ?_)
      obtain ⟨w21, e21, hf⟩ := lt_e hf
      refine lv_iinc (v := w21) (lv' := [(3, .int w21), (1, .long b17), (0, .ref (ad 0))]) X.hx X.hb dX7_digest_21 hl (k := 2) rfl (by rw [e21]; rfl) (by decide) rfl (fun ls hl => ?_)
      refine lv_goto (tgt := 6) X.hx X.hb dX7_digest_24 (by decide) ?_
      exact hr6 _ _ _ _ _ _  hf hW hS (lv_sub hl [2, 1, 0] rfl)
noncomputable def f_X7_digest (st : St) : Option (Int64 × St) := f_X7_digest_L6 FU st 1579 0
theorem l_X7_digest {st : St} {res : (Int64 × St)} (hf : f_X7_digest st = some res) : phi res.2 = phi st := by
  unfold f_X7_digest at hf
  have q9 := f_X7_digest_L6_l  FU _ _ _ hf
  omega
set_option maxRecDepth 100000 in
theorem w_X7_digest (l : Launch) (V : Ev) (A : Nat → Prop) (ad : Nat → Nat) {st : St} {res : (Int64 × St)} (hf : f_X7_digest st = some res) : Cn l yX7_digest cX7_digest 4 (some .long) 6 142 0 0 V A (WdC V ad A) st [.ref (ad 0)] (Qwl A (WdC V ad A) res.1 res.2) := by
  refine cn_of RX7 (by decide) rfl (fun p e s m below meth c ls X hr hlk hW hS hl => ?_) (Nat.le_of_ble_eq_true rfl)
  have hl : lv_has ls 4 [(0, .ref (ad 0))] := hl
  unfold f_X7_digest at hf
  refine lv_ldc2 (v := 1579) X.hx X.hb X.ho (X.ts kn_X7_217) dX7_digest_0 ?_
  refine lv_lstore_n (lv' := [(1, .long 1579), (0, .ref (ad 0))]) X.hx X.hb dX7_digest_3 rfl hl (by decide) rfl (fun ls hl => ?_)
  refine lv_iconst (v := 0) X.hx X.hb dX7_digest_4 (by decide) ?_
  refine lv_istore_n (lv' := [(3, .int 0), (1, .long 1579), (0, .ref (ad 0))]) X.hx X.hb dX7_digest_5 rfl hl (by decide) rfl (fun ls hl => ?_)
  exact f_X7_digest_L6_w X hr hlk FU _ _ _ _ _ _  hf hW hS (lv_sub hl [2, 1, 0] rfl)
end GW
