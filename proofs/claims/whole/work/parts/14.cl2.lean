section GW
variable {p : Program} {l : Launch} {e : Env} {s : State} {m : MethodId} {args : Array Value} {below : List Frame} {meth : Method} {c : Code} {V : Ev} {A : Nat → Prop} {ad : Nat → Nat} {Wd : St → Heap → Prop}

-- WordSquares$SquareList.append
noncomputable def f_X4_append_J40 (k : Nat) (st : St) (x1 : Int32) (x2 : Int32) : Option St := if inb (st.1 (13 + k)) (aln st (20 + k)) = true then lt (sA st (20 + k) (st.1 (13 + k)).toNatClampNeg ((x2 <<< (16 &&& 31)) ||| x1)) fun s54 => lt (sI s54 (13 + k) ((s54.1 (13 + k)) + 1)) fun s62 => some s62 else none
theorem f_X4_append_J40_l {k : Nat} {res : St} (st : St) (x1 : Int32) (x2 : Int32) (hf : f_X4_append_J40 k st x1 x2 = some res) : phi st ≤ phi res := by
  unfold f_X4_append_J40 at hf
  obtain ⟨h54, hf⟩ := ite_n hf
  obtain ⟨s54, e54, hf⟩ := lt_e hf
  have p54 : phi s54 = phi st := by rw [e54]; rfl
  obtain ⟨s62, e62, hf⟩ := lt_e hf
  have p62 : phi s62 = phi s54 := by rw [e62]; rfl
  have q9 := congrArg phi (Option.some.inj hf)
  omega
set_option maxRecDepth 100000 in
theorem f_X4_append_J40_w {k : Nat} {s0 : St} {res : St} (X : Cx V A cX4_append 3 RX4 p m c s args) (hr : meth.sig.returnType = none) (hlk : meth.locks = false) (hk : k < 3)  (st : St) (x1 : Int32) (x2 : Int32) (H : Heap) (locs : List Loc) (ls : Array Slot)  (hf : f_X4_append_J40 k st x1 x2 = some res) (hW : (WdC V ad A) st H) (hS : va_S A s.heap H locs) (hl : lv_has ls 3 [(0, .ref (ad (7 + k))), (1, .int x1), (2, .int x2)]) (h0 : phi s0 ≤ phi st) : W p l e (rmF 3 82 (dc s0 res) (ds s0 res)) s m args below meth c H locs (dc s0 st) (ds s0 st) (MQ below (Qwv A (WdC V ad A) res) args s (dc s0 res) (ds s0 res) A) (F0 m 40 ls []) := by
  have hm := f_X4_append_J40_l  _ _ _ hf
  unfold f_X4_append_J40 at hf
  refine lv_aload_n X.hx X.hb dX4_append_40 rfl (lv_at hl 0 rfl) ?_
  refine gX4_items X hk hW dX4_append_41 (fun q41 hQ => ?_)
  refine lv_aload_n X.hx X.hb dX4_append_44 rfl (lv_at hl 0 rfl) ?_
  refine gX4_size X hk hW dX4_append_45 ?_
  refine lv_iload_n X.hx X.hb dX4_append_48 rfl (lv_at hl 2 rfl) ?_
  refine lv_bipush (v := 16) X.hx X.hb dX4_append_49 (by decide) ?_
  refine lv_ishl X.hx X.hb dX4_append_51 ?_
  refine lv_iload_n X.hx X.hb dX4_append_52 rfl (lv_at hl 1 rfl) ?_
  refine lv_ior X.hx X.hb dX4_append_53 ?_
  obtain ⟨h54, hf⟩ := ite_n hf
  obtain ⟨s54, e54, hf⟩ := lt_e hf
  refine aC_stQ X hS hk hQ rfl h54 dX4_append_54 (fun H locs hW hS => ?_)
  rw [← e54] at hW
  have p54 : phi s54 = phi st := by rw [e54]; rfl
  refine W.widen (k := dc s0 s54) (n := ds s0 s54) (by simp only [dc, ds]; omega) (by simp only [dc, ds]; omega) ?_
  refine lv_aload_n X.hx X.hb dX4_append_55 rfl (lv_at hl 0 rfl) ?_
  refine lv_dup X.hx X.hb dX4_append_56 rfl ?_
  refine gX4_size X hk hW dX4_append_57 ?_
  refine lv_iconst (v := 1) X.hx X.hb dX4_append_60 (by decide) ?_
  refine lv_iadd X.hx X.hb dX4_append_61 ?_
  obtain ⟨s62, e62, hf⟩ := lt_e hf
  refine pX4_size X hk hW hS dX4_append_62 (fun H locs hW hS => ?_)
  rw [← e62] at hW
  have p62 : phi s62 = phi s54 := by rw [e62]; rfl
  refine W.widen (k := dc s0 s62) (n := ds s0 s62) (by simp only [dc, ds]; omega) (by simp only [dc, ds]; omega) ?_
  exact rt_v X hr hlk (by rw [← Option.some.inj hf]; exact hW) hS (by rw [← Option.some.inj hf]; exact Nat.le_refl _) (by rw [← Option.some.inj hf]; exact Nat.le_refl _) dX4_append_65
noncomputable def f_X4_append (st : St) (k : Nat) (a1 : Int32) (a2 : Int32) : Option St := if (st.1 (13 + k)) < 20736 then if (st.1 (13 + k)) < (nI (aln st (20 + k))) then f_X4_append_J40 k st a1 a2 else if st.1 (13 + k) = nI (st.2.2.2 k) ∧ 0 < st.2.2.2 k ∧ st.2.2.2 k ≤ 20736 then lt (gro st k) fun s37 => f_X4_append_J40 k s37 a1 a2 else none else some st
theorem l_X4_append {st : St} {k : Nat} {a1 : Int32} {a2 : Int32} {res : St} (hf : f_X4_append st k a1 a2 = some res) : phi st ≤ phi res := by
  unfold f_X4_append at hf
  by_cases c7 : (st.1 (13 + k)) < 20736
  · replace hf := ite_t c7 hf
    by_cases c20 : (st.1 (13 + k)) < (nI (aln st (20 + k)))
    · replace hf := ite_t c20 hf
      have q9 := f_X4_append_J40_l  _ _ _ hf
      omega
    · replace hf := ite_f c20 hf
      obtain ⟨h34, hf⟩ := ite_n hf
      obtain ⟨s37, e37, hf⟩ := lt_e hf
      have p37 : phi st ≤ phi s37 := by rw [e37]; exact gro_phi_le
      have q9 := f_X4_append_J40_l  _ _ _ hf
      omega
  · replace hf := ite_f c7 hf
    have q9 := congrArg phi (Option.some.inj hf)
    omega
set_option maxRecDepth 100000 in
theorem w_X4_append (l : Launch) (V : Ev) (A : Nat → Prop) (ad : Nat → Nat) {st : St} {k : Nat} {a1 : Int32} {a2 : Int32} {res : St} (hk : k < 3) (hf : f_X4_append st k a1 a2 = some res) : Cn l yX4_append cX4_append 3 none 3 82 (dc st res) (ds st res) V A (WdC V ad A) st [.ref (ad (7 + k)), .int a1, .int a2] (Qwv A (WdC V ad A) res) := by
  refine cn_of RX4 (by decide) rfl (fun p e s m below meth c ls X hr hlk hW hS hl => ?_) (Nat.le_of_ble_eq_true rfl)
  have hl : lv_has ls 3 [(0, .ref (ad (7 + k))), (1, .int a1), (2, .int a2)] := hl
  have hm := l_X4_append hf
  obtain ⟨s0, e0⟩ : ∃ z, z = st := ⟨_, rfl⟩
  refine W.widen (k := dc s0 st) (n := ds s0 st) (Nat.zero_le _) (Nat.zero_le _) ?_
  have h0 : phi s0 ≤ phi st := by rw [e0]; exact Nat.le_refl _
  have e1 : dc st res = dc s0 res := by rw [e0]
  have e2 : ds st res = ds s0 res := by rw [e0]
  rw [e1, e2]
  unfold f_X4_append at hf
  refine lv_aload_n X.hx X.hb dX4_append_0 rfl (lv_at hl 0 rfl) ?_
  refine gX4_size X hk hW dX4_append_1 ?_
  refine lv_sipush (v := 20736) X.hx X.hb dX4_append_4 (by decide) ?_
  refine lv_icmp_lt (tgt := 11) X.hx X.hb dX4_append_7 (by decide) (fun c7 => ?_) (fun c7 => ?_)
  · replace hf := ite_t c7 hf
    refine lv_aload_n X.hx X.hb dX4_append_11 rfl (lv_at hl 0 rfl) ?_
    refine gX4_size X hk hW dX4_append_12 ?_
    refine lv_aload_n X.hx X.hb dX4_append_15 rfl (lv_at hl 0 rfl) ?_
    refine gX4_items X hk hW dX4_append_16 (fun q16 hQ => ?_)
    refine aC_lenQ X hk hQ rfl dX4_append_19 ?_
    refine lv_icmp_lt (tgt := 40) X.hx X.hb dX4_append_20 (by decide) (fun c20 => ?_) (fun c20 => ?_)
    · replace hf := ite_t c20 hf
      exact f_X4_append_J40_w X hr hlk hk _ _ _ _ _ _  hf hW hS (lv_sub hl [0, 1, 2] rfl) (by omega)
    · replace hf := ite_f c20 hf
      refine lv_aload_n X.hx X.hb dX4_append_23 rfl (lv_at hl 0 rfl) ?_
      refine lv_aload_n X.hx X.hb dX4_append_24 rfl (lv_at hl 0 rfl) ?_
      refine gX4_items X hk hW dX4_append_25 (fun q25 hQ => ?_)
      refine lv_iconst (v := 2) X.hx X.hb dX4_append_28 (by decide) ?_
      refine lv_aload_n X.hx X.hb dX4_append_29 rfl (lv_at hl 0 rfl) ?_
      refine gX4_size X hk hW dX4_append_30 ?_
      refine lv_imul X.hx X.hb dX4_append_33 ?_
      obtain ⟨h34, hf⟩ := ite_n hf
      obtain ⟨s37, e37, hf⟩ := lt_e hf
      have p37 : phi s37 = phi st + st.2.2.2 k := by rw [e37]; exact gro_phi hk
      have g37 := h34.2.1
      have q9 := f_X4_append_J40_l  _ _ _ hf
      refine row_grow X hk hQ hS h34 hl.1 ⟨Nat.le_of_ble_eq_true rfl, Nat.le_of_ble_eq_true rfl⟩ (by simp only [dc, ds, rmF]; omega) (by simp only [dc, ds, rmF]; omega) (fun H locs hW hS => ?_)
      rw [← e37] at hW
      refine W.widen (k := dc s0 s37) (n := ds s0 s37) (by simp only [dc, ds]; omega) (by simp only [dc, ds]; omega) ?_
      exact f_X4_append_J40_w X hr hlk hk _ _ _ _ _ _  hf hW hS (lv_sub hl [0, 1, 2] rfl) (by omega)
  · replace hf := ite_f c7 hf
    exact rt_v X hr hlk (by rw [← Option.some.inj hf]; exact hW) hS (by rw [← Option.some.inj hf]; exact Nat.le_refl _) (by rw [← Option.some.inj hf]; exact Nat.le_refl _) dX4_append_10
-- WordSquares$Finder.keep
noncomputable def f_X2_keep_J160 (st : St) : Option St := some st
theorem f_X2_keep_J160_l {res : St} (st : St) (hf : f_X2_keep_J160 st = some res) : phi st ≤ phi res := by
  unfold f_X2_keep_J160 at hf
  have q9 := congrArg phi (Option.some.inj hf)
  omega
set_option maxRecDepth 100000 in
theorem f_X2_keep_J160_w {s0 : St} {res : St} (X : Cx V A cX2_keep 8 RX2 p m c s args) (hr : meth.sig.returnType = none) (hlk : meth.locks = false)  (st : St) (H : Heap) (locs : List Loc) (ls : Array Slot)  (hf : f_X2_keep_J160 st = some res) (hW : (WdC V ad A) st H) (hS : va_S A s.heap H locs) (hl : lv_has ls 8 []) (h0 : phi s0 ≤ phi st) : W p l e (rmF 4 104 (dc s0 res) (ds s0 res)) s m args below meth c H locs (dc s0 st) (ds s0 st) (MQ below (Qwv A (WdC V ad A) res) args s (dc s0 res) (ds s0 res) A) (F0 m 160 ls []) := by
  have hm := f_X2_keep_J160_l  _ hf
  unfold f_X2_keep_J160 at hf
  exact rt_v X hr hlk (by rw [← Option.some.inj hf]; exact hW) hS (by rw [← Option.some.inj hf]; exact Nat.le_refl _) (by rw [← Option.some.inj hf]; exact Nat.le_refl _) dX2_keep_160
noncomputable def f_X2_keep_J122 (st : St) (x1 : Int32) (x2 : Int32) (x3 : Int32) (x4 : Int32) : Option St := (f_J6_bitCount_0f7a4 x3).bind fun b123 => (f_J6_bitCount_0f7a4 x4).bind fun b128 => (f_X6_length st).bind fun b137 => if (b123 + b128) = (2 * b137) then if (x3 &&& x4) = 0 then (f_X4_append st 2 x1 x2).bind fun b157 => f_X2_keep_J160 b157 else f_X2_keep_J160 st else f_X2_keep_J160 st
theorem f_X2_keep_J122_l {res : St} (st : St) (x1 : Int32) (x2 : Int32) (x3 : Int32) (x4 : Int32) (hf : f_X2_keep_J122 st x1 x2 x3 x4 = some res) : phi st ≤ phi res := by
  unfold f_X2_keep_J122 at hf
  obtain ⟨b123, h123, hf⟩ := bnd hf
  obtain ⟨b128, h128, hf⟩ := bnd hf
  obtain ⟨b137, h137, hf⟩ := bnd hf
  by_cases c141 : (b123 + b128) = (2 * b137)
  · replace hf := ite_t c141 hf
    by_cases c148 : (x3 &&& x4) = 0
    · replace hf := ite_t c148 hf
      obtain ⟨b157, h157, hf⟩ := bnd hf
      have p157 := l_X4_append h157
      have q9 := f_X2_keep_J160_l  _ hf
      omega
    · replace hf := ite_f c148 hf
      have q9 := f_X2_keep_J160_l  _ hf
      omega
  · replace hf := ite_f c141 hf
    have q9 := f_X2_keep_J160_l  _ hf
    omega
set_option maxRecDepth 100000 in
theorem f_X2_keep_J122_w {s0 : St} {res : St} (X : Cx V A cX2_keep 8 RX2 p m c s args) (hr : meth.sig.returnType = none) (hlk : meth.locks = false)  (st : St) (x1 : Int32) (x2 : Int32) (x3 : Int32) (x4 : Int32) (H : Heap) (locs : List Loc) (ls : Array Slot)  (hf : f_X2_keep_J122 st x1 x2 x3 x4 = some res) (hW : (WdC V ad A) st H) (hS : va_S A s.heap H locs) (hl : lv_has ls 8 [(0, .ref (ad 3)), (1, .int x1), (2, .int x2), (3, .int x3), (4, .int x4)]) (h0 : phi s0 ≤ phi st) : W p l e (rmF 4 104 (dc s0 res) (ds s0 res)) s m args below meth c H locs (dc s0 st) (ds s0 st) (MQ below (Qwv A (WdC V ad A) res) args s (dc s0 res) (ds s0 res) A) (F0 m 122 ls []) := by
  have hm := f_X2_keep_J122_l  _ _ _ _ _ hf
  unfold f_X2_keep_J122 at hf
  refine lv_iload_n X.hx X.hb dX2_keep_122 rfl (lv_at hl 3 rfl) ?_
  obtain ⟨b123, h123, hf⟩ := bnd hf
  refine cl_i (run_S (As := [.int x3]) (rest := []) X (w_J6_bitCount_0f7a4 l V A (WdC V ad A) st h123) mw_J6_bitCount_0f7a4 ln_X2_131 hW hS rfl hl.1 rfl (Nat.le_of_ble_eq_true rfl) ⟨Nat.le_of_ble_eq_true rfl, Nat.le_of_ble_eq_true rfl⟩ ⟨by simp only [dc, ds, rmF]; omega, by simp only [dc, ds, rmF]; omega⟩ dX2_keep_123) hS (fun H locs hW hS => ?_)
  refine lv_iload X.hx X.hb dX2_keep_126 (lv_at hl 4 rfl) ?_
  obtain ⟨b128, h128, hf⟩ := bnd hf
  refine cl_i (run_S (As := [.int x4]) (rest := [.int b123]) X (w_J6_bitCount_0f7a4 l V A (WdC V ad A) st h128) mw_J6_bitCount_0f7a4 ln_X2_131 hW hS rfl hl.1 rfl (Nat.le_of_ble_eq_true rfl) ⟨Nat.le_of_ble_eq_true rfl, Nat.le_of_ble_eq_true rfl⟩ ⟨by simp only [dc, ds, rmF]; omega, by simp only [dc, ds, rmF]; omega⟩ dX2_keep_128) hS (fun H locs hW hS => ?_)
  refine lv_iadd X.hx X.hb dX2_keep_131 ?_
  refine lv_iconst (v := 2) X.hx X.hb dX2_keep_132 (by decide) ?_
  refine lv_aload_n X.hx X.hb dX2_keep_133 rfl (lv_at hl 0 rfl) ?_
  refine gX2_list X hW dX2_keep_134 ?_
  obtain ⟨b137, h137, hf⟩ := bnd hf
  refine cl_i (run_V (As := []) (rest := [.int 2, .int (b123 + b128)]) X (w_X6_length l V A ad h137) mw_X6_length ln_X2_96 (rcX6 X hW) hW hS rfl hl.1 rfl (Nat.le_of_ble_eq_true rfl) ⟨Nat.le_of_ble_eq_true rfl, Nat.le_of_ble_eq_true rfl⟩ ⟨by simp only [dc, ds, rmF]; omega, by simp only [dc, ds, rmF]; omega⟩ dX2_keep_137) hS (fun H locs hW hS => ?_)
  refine lv_imul X.hx X.hb dX2_keep_140 ?_
  refine lv_icmp_ne (tgt := 160) X.hx X.hb dX2_keep_141 (by decide) (fun c141 => ?_) (fun c141 => ?_)
  · replace hf := ite_f c141 hf
    exact f_X2_keep_J160_w X hr hlk _ _ _ _  hf hW hS (lv_sub hl [] rfl) (by omega)
  · replace hf := ite_t c141 hf
    refine lv_iload_n X.hx X.hb dX2_keep_144 rfl (lv_at hl 3 rfl) ?_
    refine lv_iload X.hx X.hb dX2_keep_145 (lv_at hl 4 rfl) ?_
    refine lv_iand X.hx X.hb dX2_keep_147 ?_
    refine lv_if_ne (tgt := 160) X.hx X.hb dX2_keep_148 (by decide) (fun c148 => ?_) (fun c148 => ?_)
    · replace hf := ite_f c148 hf
      exact f_X2_keep_J160_w X hr hlk _ _ _ _  hf hW hS (lv_sub hl [] rfl) (by omega)
    · replace hf := ite_t c148 hf
      refine lv_aload_n X.hx X.hb dX2_keep_151 rfl (lv_at hl 0 rfl) ?_
      refine gX2_different X hW dX2_keep_152 ?_
      refine lv_iload_n X.hx X.hb dX2_keep_155 rfl (lv_at hl 1 rfl) ?_
      refine lv_iload_n X.hx X.hb dX2_keep_156 rfl (lv_at hl 2 rfl) ?_
      obtain ⟨b157, h157, hf⟩ := bnd hf
      have q9 := f_X2_keep_J160_l  _ hf
      have p157 := l_X4_append h157
      refine cl_v (run_V (As := [.int x1, .int x2]) (rest := []) X (w_X4_append l V A ad (by decide) h157) mw_X4_append ln_X2_122 (rcX4 X (by decide) hW) hW hS rfl hl.1 rfl (Nat.le_of_ble_eq_true rfl) ⟨Nat.le_of_ble_eq_true rfl, Nat.le_of_ble_eq_true rfl⟩ ⟨by simp only [dc, ds, rmF]; omega, by simp only [dc, ds, rmF]; omega⟩ dX2_keep_157) hS (fun H locs hW hS => ?_)
      refine W.widen (k := dc s0 b157) (n := ds s0 b157) (by simp only [dc, ds]; omega) (by simp only [dc, ds]; omega) ?_
      exact f_X2_keep_J160_w X hr hlk _ _ _ _  hf hW hS (lv_sub hl [] rfl) (by omega)
noncomputable def f_X2_keep_J117 (st : St) (x1 : Int32) (x2 : Int32) (x3 : Int32) (x4 : Int32) : Option St := (f_X2_countSymmetric st x3).bind fun b119 => f_X2_keep_J122 b119 x1 x2 x3 x4
theorem f_X2_keep_J117_l {res : St} (st : St) (x1 : Int32) (x2 : Int32) (x3 : Int32) (x4 : Int32) (hf : f_X2_keep_J117 st x1 x2 x3 x4 = some res) : phi st ≤ phi res := by
  unfold f_X2_keep_J117 at hf
  obtain ⟨b119, h119, hf⟩ := bnd hf
  have p119 := l_X2_countSymmetric h119
  have q9 := f_X2_keep_J122_l  _ _ _ _ _ hf
  omega
set_option maxRecDepth 100000 in
theorem f_X2_keep_J117_w {s0 : St} {res : St} (X : Cx V A cX2_keep 8 RX2 p m c s args) (hr : meth.sig.returnType = none) (hlk : meth.locks = false)  (st : St) (x1 : Int32) (x2 : Int32) (x3 : Int32) (x4 : Int32) (H : Heap) (locs : List Loc) (ls : Array Slot)  (hf : f_X2_keep_J117 st x1 x2 x3 x4 = some res) (hW : (WdC V ad A) st H) (hS : va_S A s.heap H locs) (hl : lv_has ls 8 [(0, .ref (ad 3)), (1, .int x1), (2, .int x2), (3, .int x3), (4, .int x4)]) (h0 : phi s0 ≤ phi st) : W p l e (rmF 4 104 (dc s0 res) (ds s0 res)) s m args below meth c H locs (dc s0 st) (ds s0 st) (MQ below (Qwv A (WdC V ad A) res) args s (dc s0 res) (ds s0 res) A) (F0 m 117 ls []) := by
  have hm := f_X2_keep_J117_l  _ _ _ _ _ hf
  unfold f_X2_keep_J117 at hf
  refine lv_aload_n X.hx X.hb dX2_keep_117 rfl (lv_at hl 0 rfl) ?_
  refine lv_iload_n X.hx X.hb dX2_keep_118 rfl (lv_at hl 3 rfl) ?_
  obtain ⟨b119, h119, hf⟩ := bnd hf
  have p119 := l_X2_countSymmetric h119
  refine cl_v (run_V (As := [.int x3]) (rest := []) X (w_X2_countSymmetric l V A ad h119) mw_X2_countSymmetric ln_X2_128 (rcX2 X hW) hW hS rfl hl.1 rfl (Nat.le_of_ble_eq_true rfl) ⟨Nat.le_of_ble_eq_true rfl, Nat.le_of_ble_eq_true rfl⟩ ⟨by simp only [dc, ds, rmF]; omega, by simp only [dc, ds, rmF]; omega⟩ dX2_keep_119) hS (fun H locs hW hS => ?_)
  refine W.widen (k := dc s0 b119) (n := ds s0 b119) (by simp only [dc, ds]; omega) (by simp only [dc, ds]; omega) ?_
  exact f_X2_keep_J122_w X hr hlk _ _ _ _ _ _ _ _  hf hW hS (lv_sub hl [0, 1, 2, 3, 4] rfl) (by omega)
noncomputable def f_X2_keep_L17 : Nat → St → Int32 → Int32 → Int32 → Int32 → Int32 → Option St
  | 0, _, _, _, _, _, _ => none
  | fu + 1, st, x1, x2, x3, x4, x5 => (f_X6_length st).bind fun b23 => if b23 ≤ x5 then if x1 = x2 then (f_X4_append st 1 x1 x2).bind fun b114 => f_X2_keep_J117 b114 x1 x2 x3 x4 else f_X2_keep_J122 st x1 x2 x3 x4 else (f_X6_length st).bind fun b36 => (f_X7_packedWord x1 x5 b36).bind fun b39 => (f_X6_length st).bind fun b51 => (f_X7_packedWord x2 x5 b51).bind fun b54 => if inb b39 16 = true then if inb b39 16 = true then lt (sA st 14 b39.toNatClampNeg ((st.2.1 14 b39.toNatClampNeg) + 1)) fun s69 => if inb b54 16 = true then if inb b54 16 = true then lt (sA s69 15 b54.toNatClampNeg ((s69.2.1 15 b54.toNatClampNeg) + 1)) fun s80 => lt (x3 ||| (1 <<< (b39 &&& 31))) fun w87 => lt (x4 ||| (1 <<< (b54 &&& 31))) fun w95 => lt (x5 + 1) fun w97 => (f_X2_keep_L17 fu) s80 x1 x2 w87 w95 w97 else none else none else none else none
theorem f_X2_keep_L17_l {res : St} : ∀ (n9 : Nat) (st : St) (x1 : Int32) (x2 : Int32) (x3 : Int32) (x4 : Int32) (x5 : Int32), f_X2_keep_L17 n9 st x1 x2 x3 x4 x5 = some res → phi st ≤ phi res := by
  intro n9
  induction n9 with
  | zero =>
    intro st x1 x2 x3 x4 x5 hf
    exact absurd hf (by unfold f_X2_keep_L17; exact fun h => by cases h)
  | succ n9 hq17 =>
    intro st x1 x2 x3 x4 x5 hf
    unfold f_X2_keep_L17 at hf
    obtain ⟨b23, h23, hf⟩ := bnd hf
    by_cases c26 : b23 ≤ x5
    · replace hf := ite_t c26 hf
      by_cases c105 : x1 = x2
      · replace hf := ite_t c105 hf
        obtain ⟨b114, h114, hf⟩ := bnd hf
        have p114 := l_X4_append h114
        have q9 := f_X2_keep_J117_l  _ _ _ _ _ hf
        omega
      · replace hf := ite_f c105 hf
        have q9 := f_X2_keep_J122_l  _ _ _ _ _ hf
        omega
    · replace hf := ite_f c26 hf
      obtain ⟨b36, h36, hf⟩ := bnd hf
      obtain ⟨b39, h39, hf⟩ := bnd hf
      obtain ⟨b51, h51, hf⟩ := bnd hf
      obtain ⟨b54, h54, hf⟩ := bnd hf
      obtain ⟨h66, hf⟩ := ite_n hf
      obtain ⟨h69, hf⟩ := ite_n hf
      obtain ⟨s69, e69, hf⟩ := lt_e hf
      have p69 : phi s69 = phi st := by rw [e69]; rfl
      obtain ⟨h77, hf⟩ := ite_n hf
      obtain ⟨h80, hf⟩ := ite_n hf
      obtain ⟨s80, e80, hf⟩ := lt_e hf
      have p80 : phi s80 = phi s69 := by rw [e80]; rfl
      obtain ⟨w87, e87, hf⟩ := lt_e hf
      obtain ⟨w95, e95, hf⟩ := lt_e hf
      obtain ⟨w97, e97, hf⟩ := lt_e hf
      have q9 := hq17 _ _ _ _ _ _ hf
      omega
set_option maxRecDepth 100000 in
theorem f_X2_keep_L17_w {s0 : St} {res : St} (X : Cx V A cX2_keep 8 RX2 p m c s args) (hr : meth.sig.returnType = none) (hlk : meth.locks = false)  : ∀ (n9 : Nat) (st : St) (x1 : Int32) (x2 : Int32) (x3 : Int32) (x4 : Int32) (x5 : Int32) (H : Heap) (locs : List Loc) (ls : Array Slot), f_X2_keep_L17 n9 st x1 x2 x3 x4 x5 = some res → (WdC V ad A) st H → va_S A s.heap H locs → lv_has ls 8 [(0, .ref (ad 3)), (1, .int x1), (2, .int x2), (3, .int x3), (4, .int x4), (5, .int x5)] → phi s0 ≤ phi st → W p l e (rmF 4 104 (dc s0 res) (ds s0 res)) s m args below meth c H locs (dc s0 st) (ds s0 st) (MQ below (Qwv A (WdC V ad A) res) args s (dc s0 res) (ds s0 res) A) (F0 m 17 ls []) := by
  intro n9
  induction n9 with
  | zero =>
    intro st x1 x2 x3 x4 x5 H locs ls hf
    exact absurd hf (by unfold f_X2_keep_L17; exact fun h => by cases h)
  | succ n9 hr17 =>
    have hq17 := f_X2_keep_L17_l (res := res)  n9
    intro st x1 x2 x3 x4 x5 H locs ls hf hW hS hl h0
    have hm := f_X2_keep_L17_l  _ _ _ _ _ _ _ hf
    unfold f_X2_keep_L17 at hf
    refine lv_iload X.hx X.hb dX2_keep_17 (lv_at hl 5 rfl) ?_
    refine lv_aload_n X.hx X.hb dX2_keep_19 rfl (lv_at hl 0 rfl) ?_
    refine gX2_list X hW dX2_keep_20 ?_
    obtain ⟨b23, h23, hf⟩ := bnd hf
    refine cl_i (run_V (As := []) (rest := [.int x5]) X (w_X6_length l V A ad h23) mw_X6_length ln_X2_96 (rcX6 X hW) hW hS rfl hl.1 rfl (Nat.le_of_ble_eq_true rfl) ⟨Nat.le_of_ble_eq_true rfl, Nat.le_of_ble_eq_true rfl⟩ ⟨by simp only [dc, ds, rmF]; omega, by simp only [dc, ds, rmF]; omega⟩ dX2_keep_23) hS (fun H locs hW hS => ?_)
    refine lv_icmp_ge (tgt := 103) X.hx X.hb dX2_keep_26 (by decide) (fun c26 => ?_) (fun c26 => ?_)
    · replace hf := ite_t c26 hf
      refine lv_iload_n X.hx X.hb dX2_keep_103 rfl (lv_at hl 1 rfl) ?_
      refine lv_iload_n X.hx X.hb dX2_keep_104 rfl (lv_at hl 2 rfl) ?_
      refine lv_icmp_ne (tgt := 122) X.hx X.hb dX2_keep_105 (by decide) (fun c105 => ?_) (fun c105 => ?_)
      · replace hf := ite_f c105 hf
        exact f_X2_keep_J122_w X hr hlk _ _ _ _ _ _ _ _  hf hW hS (lv_sub hl [0, 1, 2, 3, 4] rfl) (by omega)
      · replace hf := ite_t c105 hf
        refine lv_aload_n X.hx X.hb dX2_keep_108 rfl (lv_at hl 0 rfl) ?_
        refine gX2_symmetric X hW dX2_keep_109 ?_
        refine lv_iload_n X.hx X.hb dX2_keep_112 rfl (lv_at hl 1 rfl) ?_
        refine lv_iload_n X.hx X.hb dX2_keep_113 rfl (lv_at hl 2 rfl) ?_
        obtain ⟨b114, h114, hf⟩ := bnd hf
        have q9 := f_X2_keep_J117_l  _ _ _ _ _ hf
        have p114 := l_X4_append h114
        refine cl_v (run_V (As := [.int x1, .int x2]) (rest := []) X (w_X4_append l V A ad (by decide) h114) mw_X4_append ln_X2_122 (rcX4 X (by decide) hW) hW hS rfl hl.1 rfl (Nat.le_of_ble_eq_true rfl) ⟨Nat.le_of_ble_eq_true rfl, Nat.le_of_ble_eq_true rfl⟩ ⟨by simp only [dc, ds, rmF]; omega, by simp only [dc, ds, rmF]; omega⟩ dX2_keep_114) hS (fun H locs hW hS => ?_)
        refine W.widen (k := dc s0 b114) (n := ds s0 b114) (by simp only [dc, ds]; omega) (by simp only [dc, ds]; omega) ?_
        exact f_X2_keep_J117_w X hr hlk _ _ _ _ _ _ _ _  hf hW hS (lv_sub hl [0, 1, 2, 3, 4] rfl) (by omega)
    · replace hf := ite_f c26 hf
      refine lv_iload_n X.hx X.hb dX2_keep_29 rfl (lv_at hl 1 rfl) ?_
      refine lv_iload X.hx X.hb dX2_keep_30 (lv_at hl 5 rfl) ?_
      refine lv_aload_n X.hx X.hb dX2_keep_32 rfl (lv_at hl 0 rfl) ?_
      refine gX2_list X hW dX2_keep_33 ?_
      obtain ⟨b36, h36, hf⟩ := bnd hf
      refine cl_i (run_V (As := []) (rest := [.int x5, .int x1]) X (w_X6_length l V A ad h36) mw_X6_length ln_X2_96 (rcX6 X hW) hW hS rfl hl.1 rfl (Nat.le_of_ble_eq_true rfl) ⟨Nat.le_of_ble_eq_true rfl, Nat.le_of_ble_eq_true rfl⟩ ⟨by simp only [dc, ds, rmF]; omega, by simp only [dc, ds, rmF]; omega⟩ dX2_keep_36) hS (fun H locs hW hS => ?_)
      obtain ⟨b39, h39, hf⟩ := bnd hf
      refine cl_i (run_SN (As := [.int x1, .int x5, .int b36]) (rest := []) X (w_X7_packedWord l V A (WdC V ad A) st h39) mw_X7_packedWord (host := RX7) (List.mem_of_getElem? (i := 5) rfl) hW hS rfl hl.1 rfl (Nat.le_of_ble_eq_true rfl) ⟨Nat.le_of_ble_eq_true rfl, Nat.le_of_ble_eq_true rfl⟩ ⟨by simp only [dc, ds, rmF]; omega, by simp only [dc, ds, rmF]; omega⟩ dX2_keep_39) hS (fun H locs hW hS => ?_)
      refine lv_istore (lv' := [(6, .int b39), (0, .ref (ad 3)), (1, .int x1), (2, .int x2), (3, .int x3), (4, .int x4), (5, .int x5)]) X.hx X.hb dX2_keep_42 hl (by decide) rfl (fun ls hl => ?_)
      refine lv_iload_n X.hx X.hb dX2_keep_44 rfl (lv_at hl 3 rfl) ?_
      refine lv_iload X.hx X.hb dX2_keep_45 (lv_at hl 6 rfl) ?_
      refine lv_aload_n X.hx X.hb dX2_keep_47 rfl (lv_at hl 1 rfl) ?_
      refine gX2_list X hW dX2_keep_48 ?_
      obtain ⟨b51, h51, hf⟩ := bnd hf
      refine cl_i (run_V (As := []) (rest := [.int x5, .int x2]) X (w_X6_length l V A ad h51) mw_X6_length ln_X2_96 (rcX6 X hW) hW hS rfl hl.1 rfl (Nat.le_of_ble_eq_true rfl) ⟨Nat.le_of_ble_eq_true rfl, Nat.le_of_ble_eq_true rfl⟩ ⟨by simp only [dc, ds, rmF]; omega, by simp only [dc, ds, rmF]; omega⟩ dX2_keep_51) hS (fun H locs hW hS => ?_)
      obtain ⟨b54, h54, hf⟩ := bnd hf
      refine cl_i (run_SN (As := [.int x2, .int x5, .int b51]) (rest := []) X (w_X7_packedWord l V A (WdC V ad A) st h54) mw_X7_packedWord (host := RX7) (List.mem_of_getElem? (i := 5) rfl) hW hS rfl hl.1 rfl (Nat.le_of_ble_eq_true rfl) ⟨Nat.le_of_ble_eq_true rfl, Nat.le_of_ble_eq_true rfl⟩ ⟨by simp only [dc, ds, rmF]; omega, by simp only [dc, ds, rmF]; omega⟩ dX2_keep_54) hS (fun H locs hW hS => ?_)
      refine lv_istore (lv' := [(7, .int b54), (6, .int b39), (0, .ref (ad 3)), (1, .int x1), (2, .int x2), (3, .int x3), (4, .int x4), (5, .int x5)]) X.hx X.hb dX2_keep_57 hl (by decide) rfl (fun ls hl => ?_)
      refine lv_aload_n X.hx X.hb dX2_keep_59 rfl (lv_at hl 2 rfl) ?_
      refine gX2_inRows X hW dX2_keep_60 ?_
      refine lv_iload X.hx X.hb dX2_keep_63 (lv_at hl 1 rfl) ?_
      refine lv_dup2_11 X.hx X.hb dX2_keep_65 rfl rfl ?_
      obtain ⟨h66, hf⟩ := ite_n hf
      refine aC_ld X hW isA_14 rfl h66 dX2_keep_66 ?_
      refine lv_iconst (v := 1) X.hx X.hb dX2_keep_67 (by decide) ?_
      refine lv_iadd X.hx X.hb dX2_keep_68 ?_
      obtain ⟨h69, hf⟩ := ite_n hf
      obtain ⟨s69, e69, hf⟩ := lt_e hf
      refine aC_st X hW hS isA_14 rfl h69 dX2_keep_69 (fun H locs hW hS => ?_)
      rw [← e69] at hW
      have p69 : phi s69 = phi st := by rw [e69]; rfl
      refine W.widen (k := dc s0 s69) (n := ds s0 s69) (by simp only [dc, ds]; omega) (by simp only [dc, ds]; omega) ?_
      refine lv_aload_n X.hx X.hb dX2_keep_70 rfl (lv_at hl 2 rfl) ?_
      refine gX2_inColumns X hW dX2_keep_71 ?_
      refine lv_iload X.hx X.hb dX2_keep_74 (lv_at hl 0 rfl) ?_
      refine lv_dup2_11 X.hx X.hb dX2_keep_76 rfl rfl ?_
      obtain ⟨h77, hf⟩ := ite_n hf
      refine aC_ld X hW isA_15 rfl h77 dX2_keep_77 ?_
      refine lv_iconst (v := 1) X.hx X.hb dX2_keep_78 (by decide) ?_
      refine lv_iadd X.hx X.hb dX2_keep_79 ?_
      obtain ⟨h80, hf⟩ := ite_n hf
      obtain ⟨s80, e80, hf⟩ := lt_e hf
      refine aC_st X hW hS isA_15 rfl h80 dX2_keep_80 (fun H locs hW hS => ?_)
      rw [← e80] at hW
      have p80 : phi s80 = phi s69 := by rw [e80]; rfl
      refine W.widen (k := dc s0 s80) (n := ds s0 s80) (by simp only [dc, ds]; omega) (by simp only [dc, ds]; omega) ?_
      refine lv_iload_n X.hx X.hb dX2_keep_81 rfl (lv_at hl 5 rfl) ?_
      refine lv_iconst (v := 1) X.hx X.hb dX2_keep_82 (by decide) ?_
      refine lv_iload X.hx X.hb dX2_keep_83 (lv_at hl 1 rfl) ?_
      refine lv_ishl X.hx X.hb dX2_keep_85 ?_
      refine lv_ior X.hx X.hb dX2_keep_86 ?_
      obtain ⟨w87, e87, hf⟩ := lt_e hf
      refine lv_nm e87 ?_
      refine lv_istore_n (lv' := [(3, .int w87), (7, .int b54), (6, .int b39), (0, .ref (ad 3)), (1, .int x1), (2, .int x2), (4, .int x4), (5, .int x5)]) X.hx X.hb dX2_keep_87 rfl hl (by decide) rfl (fun ls hl => ?_)
      refine lv_iload X.hx X.hb dX2_keep_88 (lv_at hl 6 rfl) ?_
      refine lv_iconst (v := 1) X.hx X.hb dX2_keep_90 (by decide) ?_
      refine lv_iload X.hx X.hb dX2_keep_91 (lv_at hl 1 rfl) ?_
      refine lv_ishl X.hx X.hb dX2_keep_93 ?_
      refine lv_ior X.hx X.hb dX2_keep_94 ?_
      obtain ⟨w95, e95, hf⟩ := lt_e hf
      refine lv_nm e95 ?_
      refine lv_istore (lv' := [(4, .int w95), (3, .int w87), (7, .int b54), (6, .int b39), (0, .ref (ad 3)), (1, .int x1), (2, .int x2), (5, .int x5)]) X.hx X.hb dX2_keep_95 hl (by decide) rfl (fun ls hl => ?_)
      obtain ⟨w97, e97, hf⟩ := lt_e hf
      refine lv_iinc (v := w97) (lv' := [(5, .int w97), (4, .int w95), (3, .int w87), (7, .int b54), (6, .int b39), (0, .ref (ad 3)), (1, .int x1), (2, .int x2)]) X.hx X.hb dX2_keep_97 hl (k := 7) rfl (by rw [e97]; rfl) (by decide) rfl (fun ls hl => ?_)
      refine lv_goto (tgt := 17) X.hx X.hb dX2_keep_100 (by decide) ?_
      exact hr17 _ _ _ _ _ _ _ _ _  hf hW hS (lv_sub hl [5, 6, 7, 2, 1, 0] rfl) (by omega)
noncomputable def f_X2_keep_J9 (st : St) (x1 : Int32) (x2 : Int32) : Option St := f_X2_keep_L17 FU st x1 x2 0 0 0
theorem f_X2_keep_J9_l {res : St} (st : St) (x1 : Int32) (x2 : Int32) (hf : f_X2_keep_J9 st x1 x2 = some res) : phi st ≤ phi res := by
  unfold f_X2_keep_J9 at hf
  have q9 := f_X2_keep_L17_l  FU _ _ _ _ _ _ hf
  omega
set_option maxRecDepth 100000 in
theorem f_X2_keep_J9_w {s0 : St} {res : St} (X : Cx V A cX2_keep 8 RX2 p m c s args) (hr : meth.sig.returnType = none) (hlk : meth.locks = false)  (st : St) (x1 : Int32) (x2 : Int32) (H : Heap) (locs : List Loc) (ls : Array Slot)  (hf : f_X2_keep_J9 st x1 x2 = some res) (hW : (WdC V ad A) st H) (hS : va_S A s.heap H locs) (hl : lv_has ls 8 [(0, .ref (ad 3)), (1, .int x1), (2, .int x2)]) (h0 : phi s0 ≤ phi st) : W p l e (rmF 4 104 (dc s0 res) (ds s0 res)) s m args below meth c H locs (dc s0 st) (ds s0 st) (MQ below (Qwv A (WdC V ad A) res) args s (dc s0 res) (ds s0 res) A) (F0 m 9 ls []) := by
  have hm := f_X2_keep_J9_l  _ _ _ hf
  unfold f_X2_keep_J9 at hf
  refine lv_iconst (v := 0) X.hx X.hb dX2_keep_9 (by decide) ?_
  refine lv_istore_n (lv' := [(3, .int 0), (0, .ref (ad 3)), (1, .int x1), (2, .int x2)]) X.hx X.hb dX2_keep_10 rfl hl (by decide) rfl (fun ls hl => ?_)
  refine lv_iconst (v := 0) X.hx X.hb dX2_keep_11 (by decide) ?_
  refine lv_istore (lv' := [(4, .int 0), (3, .int 0), (0, .ref (ad 3)), (1, .int x1), (2, .int x2)]) X.hx X.hb dX2_keep_12 hl (by decide) rfl (fun ls hl => ?_)
  refine lv_iconst (v := 0) X.hx X.hb dX2_keep_14 (by decide) ?_
  refine lv_istore (lv' := [(5, .int 0), (4, .int 0), (3, .int 0), (0, .ref (ad 3)), (1, .int x1), (2, .int x2)]) X.hx X.hb dX2_keep_15 hl (by decide) rfl (fun ls hl => ?_)
  exact f_X2_keep_L17_w X hr hlk FU _ _ _ _ _ _ _ _ _  hf hW hS (lv_sub hl [3, 4, 5, 2, 1, 0] rfl) (by omega)
noncomputable def f_X2_keep (st : St) (a1 : Int32) (a2 : Int32) : Option St := (f_X4_append st 0 a1 a2).bind fun b6 => f_X2_keep_J9 b6 a1 a2
theorem l_X2_keep {st : St} {a1 : Int32} {a2 : Int32} {res : St} (hf : f_X2_keep st a1 a2 = some res) : phi st ≤ phi res := by
  unfold f_X2_keep at hf
  obtain ⟨b6, h6, hf⟩ := bnd hf
  have p6 := l_X4_append h6
  have q9 := f_X2_keep_J9_l  _ _ _ hf
  omega
set_option maxRecDepth 100000 in
theorem w_X2_keep (l : Launch) (V : Ev) (A : Nat → Prop) (ad : Nat → Nat) {st : St} {a1 : Int32} {a2 : Int32} {res : St} (hf : f_X2_keep st a1 a2 = some res) : Cn l yX2_keep cX2_keep 8 none 4 104 (dc st res) (ds st res) V A (WdC V ad A) st [.ref (ad 3), .int a1, .int a2] (Qwv A (WdC V ad A) res) := by
  refine cn_of RX2 (by decide) rfl (fun p e s m below meth c ls X hr hlk hW hS hl => ?_) (Nat.le_of_ble_eq_true rfl)
  have hl : lv_has ls 8 [(0, .ref (ad 3)), (1, .int a1), (2, .int a2)] := hl
  have hm := l_X2_keep hf
  obtain ⟨s0, e0⟩ : ∃ z, z = st := ⟨_, rfl⟩
  refine W.widen (k := dc s0 st) (n := ds s0 st) (Nat.zero_le _) (Nat.zero_le _) ?_
  have h0 : phi s0 ≤ phi st := by rw [e0]; exact Nat.le_refl _
  have e1 : dc st res = dc s0 res := by rw [e0]
  have e2 : ds st res = ds s0 res := by rw [e0]
  rw [e1, e2]
  unfold f_X2_keep at hf
  refine lv_aload_n X.hx X.hb dX2_keep_0 rfl (lv_at hl 0 rfl) ?_
  refine gX2_all X hW dX2_keep_1 ?_
  refine lv_iload_n X.hx X.hb dX2_keep_4 rfl (lv_at hl 1 rfl) ?_
  refine lv_iload_n X.hx X.hb dX2_keep_5 rfl (lv_at hl 2 rfl) ?_
  obtain ⟨b6, h6, hf⟩ := bnd hf
  have q9 := f_X2_keep_J9_l  _ _ _ hf
  have p6 := l_X4_append h6
  refine cl_v (run_V (As := [.int a1, .int a2]) (rest := []) X (w_X4_append l V A ad (by decide) h6) mw_X4_append ln_X2_122 (rcX4 X (by decide) hW) hW hS rfl hl.1 rfl (Nat.le_of_ble_eq_true rfl) ⟨Nat.le_of_ble_eq_true rfl, Nat.le_of_ble_eq_true rfl⟩ ⟨by simp only [dc, ds, rmF]; omega, by simp only [dc, ds, rmF]; omega⟩ dX2_keep_6) hS (fun H locs hW hS => ?_)
  refine W.widen (k := dc s0 b6) (n := ds s0 b6) (by simp only [dc, ds]; omega) (by simp only [dc, ds]; omega) ?_
  exact f_X2_keep_J9_w X hr hlk _ _ _ _ _ _  hf hW hS (lv_sub hl [0, 1, 2] rfl) (by omega)
-- WordSquares$Finder.explore
noncomputable def f_X2_explore_J27 (self : St → Int32 → Int32 → Int32 → Option (Int32 × St)) (st : St) : Option (Int32 × St) := some (1, st)
theorem f_X2_explore_J27_l {self : St → Int32 → Int32 → Int32 → Option (Int32 × St)} {res : (Int32 × St)} (hsq : ∀ (st : St) (a1 : Int32) (a2 : Int32) (a3 : Int32) (res : (Int32 × St)), self st a1 a2 a3 = some res → phi st ≤ phi res.2) (st : St) (hf : f_X2_explore_J27 self st = some res) : phi st ≤ phi res.2 := by
  unfold f_X2_explore_J27 at hf
  have q9 := congrArg (fun z => phi z.2) (Option.some.inj hf)
  dsimp only at q9
  omega
set_option maxRecDepth 100000 in
theorem f_X2_explore_J27_w {s0 : St} {d : Nat} {self : St → Int32 → Int32 → Int32 → Option (Int32 × St)} {res : (Int32 × St)} (X : Cx V A cX2_explore 7 RX2 p m c s args) (hr : meth.sig.returnType = (some .boolean)) (hlk : meth.locks = false) (hself : ∀ (st : St) (a1 : Int32) (a2 : Int32) (a3 : Int32) (res : (Int32 × St)), self st a1 a2 a3 = some res → Cn l yX2_explore cX2_explore 7 (some .boolean) (5 + d) (131 + d * 26) (dc st res.2) (ds st res.2) V A (WdC V ad A) st [.ref (ad 3), .int a1, .int a2, .int a3] (Qwi A (WdC V ad A) res.1 res.2)) (hsq : ∀ (st : St) (a1 : Int32) (a2 : Int32) (a3 : Int32) (res : (Int32 × St)), self st a1 a2 a3 = some res → phi st ≤ phi res.2)  (st : St) (H : Heap) (locs : List Loc) (ls : Array Slot)  (hf : f_X2_explore_J27 self st = some res) (hW : (WdC V ad A) st H) (hS : va_S A s.heap H locs) (hl : lv_has ls 7 []) (h0 : phi s0 ≤ phi st) : W p l e (rmF (5 + (d + 1)) (131 + (d + 1) * 26) (dc s0 res.2) (ds s0 res.2)) s m args below meth c H locs (dc s0 st) (ds s0 st) (MQ below (Qwi A (WdC V ad A) res.1 res.2) args s (dc s0 res.2) (ds s0 res.2) A) (F0 m 27 ls []) := by
  have hm := f_X2_explore_J27_l hsq _ hf
  unfold f_X2_explore_J27 at hf
  refine lv_iconst (v := 1) X.hx X.hb dX2_explore_27 (by decide) ?_
  exact rt_z X hr hlk (by rw [← Option.some.inj hf]; exact hW) hS (Or.inr rfl) (by rw [← Option.some.inj hf]) (by rw [← Option.some.inj hf]; exact Nat.le_refl _) (by rw [← Option.some.inj hf]; exact Nat.le_refl _) dX2_explore_28
noncomputable def f_X2_explore_J98 (self : St → Int32 → Int32 → Int32 → Option (Int32 × St)) (r46 : St → Int32 → Int32 → Int32 → Int32 → Int32 → Int32 → Option (Int32 × St)) (st : St) (x1 : Int32) (x2 : Int32) (x3 : Int32) (x4 : Int32) (x5 : Int32) (x6 : Int32) : Option (Int32 × St) := lt (x6 + 1) fun w98 => r46 st x1 x2 x3 x4 x5 w98
theorem f_X2_explore_J98_l {self : St → Int32 → Int32 → Int32 → Option (Int32 × St)} {r46 : St → Int32 → Int32 → Int32 → Int32 → Int32 → Int32 → Option (Int32 × St)} {res : (Int32 × St)} (hsq : ∀ (st : St) (a1 : Int32) (a2 : Int32) (a3 : Int32) (res : (Int32 × St)), self st a1 a2 a3 = some res → phi st ≤ phi res.2) (hq46 : ∀ (st : St) (x1 : Int32) (x2 : Int32) (x3 : Int32) (x4 : Int32) (x5 : Int32) (x6 : Int32), r46 st x1 x2 x3 x4 x5 x6 = some res → phi st ≤ phi res.2) (st : St) (x1 : Int32) (x2 : Int32) (x3 : Int32) (x4 : Int32) (x5 : Int32) (x6 : Int32) (hf : f_X2_explore_J98 self r46 st x1 x2 x3 x4 x5 x6 = some res) : phi st ≤ phi res.2 := by
  unfold f_X2_explore_J98 at hf
  obtain ⟨w98, e98, hf⟩ := lt_e hf
  have q9 := hq46 _ _ _ _ _ _ _ hf
  omega
set_option maxRecDepth 100000 in
theorem f_X2_explore_J98_w {s0 : St} {d : Nat} {self : St → Int32 → Int32 → Int32 → Option (Int32 × St)} {r46 : St → Int32 → Int32 → Int32 → Int32 → Int32 → Int32 → Option (Int32 × St)} {res : (Int32 × St)} (X : Cx V A cX2_explore 7 RX2 p m c s args) (hr : meth.sig.returnType = (some .boolean)) (hlk : meth.locks = false) (hself : ∀ (st : St) (a1 : Int32) (a2 : Int32) (a3 : Int32) (res : (Int32 × St)), self st a1 a2 a3 = some res → Cn l yX2_explore cX2_explore 7 (some .boolean) (5 + d) (131 + d * 26) (dc st res.2) (ds st res.2) V A (WdC V ad A) st [.ref (ad 3), .int a1, .int a2, .int a3] (Qwi A (WdC V ad A) res.1 res.2)) (hsq : ∀ (st : St) (a1 : Int32) (a2 : Int32) (a3 : Int32) (res : (Int32 × St)), self st a1 a2 a3 = some res → phi st ≤ phi res.2) (hr46 : ∀ (st : St) (x1 : Int32) (x2 : Int32) (x3 : Int32) (x4 : Int32) (x5 : Int32) (x6 : Int32) (H : Heap) (locs : List Loc) (ls : Array Slot), r46 st x1 x2 x3 x4 x5 x6 = some res → (WdC V ad A) st H → va_S A s.heap H locs → lv_has ls 7 [(0, .ref (ad 3)), (1, .int x1), (2, .int x2), (3, .int x3), (4, .int x4), (5, .int x5), (6, .int x6)] → phi s0 ≤ phi st → W p l e (rmF (5 + (d + 1)) (131 + (d + 1) * 26) (dc s0 res.2) (ds s0 res.2)) s m args below meth c H locs (dc s0 st) (ds s0 st) (MQ below (Qwi A (WdC V ad A) res.1 res.2) args s (dc s0 res.2) (ds s0 res.2) A) (F0 m 46 ls [])) (hq46 : ∀ (st : St) (x1 : Int32) (x2 : Int32) (x3 : Int32) (x4 : Int32) (x5 : Int32) (x6 : Int32), r46 st x1 x2 x3 x4 x5 x6 = some res → phi st ≤ phi res.2) (st : St) (x1 : Int32) (x2 : Int32) (x3 : Int32) (x4 : Int32) (x5 : Int32) (x6 : Int32) (H : Heap) (locs : List Loc) (ls : Array Slot)  (hf : f_X2_explore_J98 self r46 st x1 x2 x3 x4 x5 x6 = some res) (hW : (WdC V ad A) st H) (hS : va_S A s.heap H locs) (hl : lv_has ls 7 [(0, .ref (ad 3)), (1, .int x1), (2, .int x2), (3, .int x3), (4, .int x4), (5, .int x5), (6, .int x6)]) (h0 : phi s0 ≤ phi st) : W p l e (rmF (5 + (d + 1)) (131 + (d + 1) * 26) (dc s0 res.2) (ds s0 res.2)) s m args below meth c H locs (dc s0 st) (ds s0 st) (MQ below (Qwi A (WdC V ad A) res.1 res.2) args s (dc s0 res.2) (ds s0 res.2) A) (F0 m 98 ls []) := by
  have hm := f_X2_explore_J98_l hsq hq46 _ _ _ _ _ _ _ hf
  unfold f_X2_explore_J98 at hf
  obtain ⟨w98, e98, hf⟩ := lt_e hf
  refine lv_iinc (v := w98) (lv' := [(6, .int w98), (0, .ref (ad 3)), (1, .int x1), (2, .int x2), (3, .int x3), (4, .int x4), (5, .int x5)]) X.hx X.hb dX2_explore_98 hl (k := 6) rfl (by rw [e98]; rfl) (by decide) rfl (fun ls hl => ?_)
  refine lv_goto (tgt := 46) X.hx X.hb dX2_explore_101 (by decide) ?_
  exact hr46 _ _ _ _ _ _ _ _ _ _  hf hW hS (lv_sub hl [1, 2, 3, 4, 5, 6, 0] rfl) (by omega)
noncomputable def f_X2_explore_J92 (self : St → Int32 → Int32 → Int32 → Option (Int32 × St)) (r46 : St → Int32 → Int32 → Int32 → Int32 → Int32 → Int32 → Option (Int32 × St)) (st : St) (x1 : Int32) (x2 : Int32) (x3 : Int32) (x4 : Int32) (x5 : Int32) (x6 : Int32) (t0 : Int32) : Option (Int32 × St) := if t0 = 0 then f_X2_explore_J98 self r46 st x1 x2 x3 x4 x5 x6 else f_X2_explore_J98 self r46 st x1 x2 x3 x4 1 x6
theorem f_X2_explore_J92_l {self : St → Int32 → Int32 → Int32 → Option (Int32 × St)} {r46 : St → Int32 → Int32 → Int32 → Int32 → Int32 → Int32 → Option (Int32 × St)} {res : (Int32 × St)} (hsq : ∀ (st : St) (a1 : Int32) (a2 : Int32) (a3 : Int32) (res : (Int32 × St)), self st a1 a2 a3 = some res → phi st ≤ phi res.2) (hq46 : ∀ (st : St) (x1 : Int32) (x2 : Int32) (x3 : Int32) (x4 : Int32) (x5 : Int32) (x6 : Int32), r46 st x1 x2 x3 x4 x5 x6 = some res → phi st ≤ phi res.2) (st : St) (x1 : Int32) (x2 : Int32) (x3 : Int32) (x4 : Int32) (x5 : Int32) (x6 : Int32) (t0 : Int32) (hf : f_X2_explore_J92 self r46 st x1 x2 x3 x4 x5 x6 t0 = some res) : phi st ≤ phi res.2 := by
  unfold f_X2_explore_J92 at hf
  by_cases c92 : t0 = 0
  · replace hf := ite_t c92 hf
    have q9 := f_X2_explore_J98_l hsq hq46 _ _ _ _ _ _ _ hf
    omega
  · replace hf := ite_f c92 hf
    have q9 := f_X2_explore_J98_l hsq hq46 _ _ _ _ _ _ _ hf
    omega
set_option maxRecDepth 100000 in
theorem f_X2_explore_J92_w {s0 : St} {d : Nat} {self : St → Int32 → Int32 → Int32 → Option (Int32 × St)} {r46 : St → Int32 → Int32 → Int32 → Int32 → Int32 → Int32 → Option (Int32 × St)} {res : (Int32 × St)} (X : Cx V A cX2_explore 7 RX2 p m c s args) (hr : meth.sig.returnType = (some .boolean)) (hlk : meth.locks = false) (hself : ∀ (st : St) (a1 : Int32) (a2 : Int32) (a3 : Int32) (res : (Int32 × St)), self st a1 a2 a3 = some res → Cn l yX2_explore cX2_explore 7 (some .boolean) (5 + d) (131 + d * 26) (dc st res.2) (ds st res.2) V A (WdC V ad A) st [.ref (ad 3), .int a1, .int a2, .int a3] (Qwi A (WdC V ad A) res.1 res.2)) (hsq : ∀ (st : St) (a1 : Int32) (a2 : Int32) (a3 : Int32) (res : (Int32 × St)), self st a1 a2 a3 = some res → phi st ≤ phi res.2) (hr46 : ∀ (st : St) (x1 : Int32) (x2 : Int32) (x3 : Int32) (x4 : Int32) (x5 : Int32) (x6 : Int32) (H : Heap) (locs : List Loc) (ls : Array Slot), r46 st x1 x2 x3 x4 x5 x6 = some res → (WdC V ad A) st H → va_S A s.heap H locs → lv_has ls 7 [(0, .ref (ad 3)), (1, .int x1), (2, .int x2), (3, .int x3), (4, .int x4), (5, .int x5), (6, .int x6)] → phi s0 ≤ phi st → W p l e (rmF (5 + (d + 1)) (131 + (d + 1) * 26) (dc s0 res.2) (ds s0 res.2)) s m args below meth c H locs (dc s0 st) (ds s0 st) (MQ below (Qwi A (WdC V ad A) res.1 res.2) args s (dc s0 res.2) (ds s0 res.2) A) (F0 m 46 ls [])) (hq46 : ∀ (st : St) (x1 : Int32) (x2 : Int32) (x3 : Int32) (x4 : Int32) (x5 : Int32) (x6 : Int32), r46 st x1 x2 x3 x4 x5 x6 = some res → phi st ≤ phi res.2) (st : St) (x1 : Int32) (x2 : Int32) (x3 : Int32) (x4 : Int32) (x5 : Int32) (x6 : Int32) (t0 : Int32) (H : Heap) (locs : List Loc) (ls : Array Slot)  (hf : f_X2_explore_J92 self r46 st x1 x2 x3 x4 x5 x6 t0 = some res) (hW : (WdC V ad A) st H) (hS : va_S A s.heap H locs) (hl : lv_has ls 7 [(0, .ref (ad 3)), (1, .int x1), (2, .int x2), (3, .int x3), (4, .int x4), (5, .int x5), (6, .int x6)]) (h0 : phi s0 ≤ phi st) : W p l e (rmF (5 + (d + 1)) (131 + (d + 1) * 26) (dc s0 res.2) (ds s0 res.2)) s m args below meth c H locs (dc s0 st) (ds s0 st) (MQ below (Qwi A (WdC V ad A) res.1 res.2) args s (dc s0 res.2) (ds s0 res.2) A) (F0 m 92 ls [.int t0]) := by
  have hm := f_X2_explore_J92_l hsq hq46 _ _ _ _ _ _ _ _ hf
  unfold f_X2_explore_J92 at hf
  refine lv_if_eq (tgt := 98) X.hx X.hb dX2_explore_92 (by decide) (fun c92 => ?_) (fun c92 => ?_)
  · replace hf := ite_t c92 hf
    exact f_X2_explore_J98_w X hr hlk hself hsq hr46 hq46 _ _ _ _ _ _ _ _ _ _  hf hW hS (lv_sub hl [0, 1, 2, 3, 4, 5, 6] rfl) (by omega)
  · replace hf := ite_f c92 hf
    refine lv_iconst (v := 1) X.hx X.hb dX2_explore_95 (by decide) ?_
    refine lv_istore (lv' := [(5, .int 1), (0, .ref (ad 3)), (1, .int x1), (2, .int x2), (3, .int x3), (4, .int x4), (6, .int x6)]) X.hx X.hb dX2_explore_96 hl (by decide) rfl (fun ls hl => ?_)
    exact f_X2_explore_J98_w X hr hlk hself hsq hr46 hq46 _ _ _ _ _ _ _ _ _ _  hf hW hS (lv_sub hl [1, 2, 3, 4, 5, 0, 6] rfl) (by omega)
noncomputable def f_X2_explore_J119 (self : St → Int32 → Int32 → Int32 → Option (Int32 × St)) (st : St) (x5 : Int32) : Option (Int32 × St) := if x5 = 0 ∨ x5 = 1 then some (x5, st) else none
theorem f_X2_explore_J119_l {self : St → Int32 → Int32 → Int32 → Option (Int32 × St)} {res : (Int32 × St)} (hsq : ∀ (st : St) (a1 : Int32) (a2 : Int32) (a3 : Int32) (res : (Int32 × St)), self st a1 a2 a3 = some res → phi st ≤ phi res.2) (st : St) (x5 : Int32) (hf : f_X2_explore_J119 self st x5 = some res) : phi st ≤ phi res.2 := by
  unfold f_X2_explore_J119 at hf
  obtain ⟨h121, hf⟩ := ite_n hf
  have q9 := congrArg (fun z => phi z.2) (Option.some.inj hf)
  dsimp only at q9
  omega
set_option maxRecDepth 100000 in
theorem f_X2_explore_J119_w {s0 : St} {d : Nat} {self : St → Int32 → Int32 → Int32 → Option (Int32 × St)} {res : (Int32 × St)} (X : Cx V A cX2_explore 7 RX2 p m c s args) (hr : meth.sig.returnType = (some .boolean)) (hlk : meth.locks = false) (hself : ∀ (st : St) (a1 : Int32) (a2 : Int32) (a3 : Int32) (res : (Int32 × St)), self st a1 a2 a3 = some res → Cn l yX2_explore cX2_explore 7 (some .boolean) (5 + d) (131 + d * 26) (dc st res.2) (ds st res.2) V A (WdC V ad A) st [.ref (ad 3), .int a1, .int a2, .int a3] (Qwi A (WdC V ad A) res.1 res.2)) (hsq : ∀ (st : St) (a1 : Int32) (a2 : Int32) (a3 : Int32) (res : (Int32 × St)), self st a1 a2 a3 = some res → phi st ≤ phi res.2)  (st : St) (x5 : Int32) (H : Heap) (locs : List Loc) (ls : Array Slot)  (hf : f_X2_explore_J119 self st x5 = some res) (hW : (WdC V ad A) st H) (hS : va_S A s.heap H locs) (hl : lv_has ls 7 [(5, .int x5)]) (h0 : phi s0 ≤ phi st) : W p l e (rmF (5 + (d + 1)) (131 + (d + 1) * 26) (dc s0 res.2) (ds s0 res.2)) s m args below meth c H locs (dc s0 st) (ds s0 st) (MQ below (Qwi A (WdC V ad A) res.1 res.2) args s (dc s0 res.2) (ds s0 res.2) A) (F0 m 119 ls []) := by
  have hm := f_X2_explore_J119_l hsq _ _ hf
  unfold f_X2_explore_J119 at hf
  refine lv_iload X.hx X.hb dX2_explore_119 (lv_at hl 0 rfl) ?_
  obtain ⟨h121, hf⟩ := ite_n hf
  exact rt_z X hr hlk (by rw [← Option.some.inj hf]; exact hW) hS h121 (by rw [← Option.some.inj hf]) (by rw [← Option.some.inj hf]; exact Nat.le_refl _) (by rw [← Option.some.inj hf]; exact Nat.le_refl _) dX2_explore_121
noncomputable def f_X2_explore_L46 (self : St → Int32 → Int32 → Int32 → Option (Int32 × St)) : Nat → St → Int32 → Int32 → Int32 → Int32 → Int32 → Int32 → Option (Int32 × St)
  | 0, _, _, _, _, _, _, _ => none
  | fu + 1, st, x1, x2, x3, x4, x5, x6 => (f_X6_size st).bind fun b52 => if b52 ≤ x6 then if x5 = 0 then lt (sI st 8 ((st.1 8) + 1)) fun s116 => f_X2_explore_J119 self s116 x5 else f_X2_explore_J119 self st x5 else if ((x4 >>> (x6 &&& 31)) &&& 1) = 0 then f_X2_explore_J98 self ((f_X2_explore_L46 self fu)) st x1 x2 x3 x4 x5 x6 else (f_X3_headsWith st x1 x3 x6).bind fun b86 => (self st (x1 + 1) ((x2 <<< (4 &&& 31)) ||| x6) b86).bind fun b89 => f_X2_explore_J92 self ((f_X2_explore_L46 self fu)) b89.2 x1 x2 x3 x4 x5 x6 b89.1
theorem f_X2_explore_L46_l {self : St → Int32 → Int32 → Int32 → Option (Int32 × St)} {res : (Int32 × St)} (hsq : ∀ (st : St) (a1 : Int32) (a2 : Int32) (a3 : Int32) (res : (Int32 × St)), self st a1 a2 a3 = some res → phi st ≤ phi res.2) : ∀ (n9 : Nat) (st : St) (x1 : Int32) (x2 : Int32) (x3 : Int32) (x4 : Int32) (x5 : Int32) (x6 : Int32), f_X2_explore_L46 self n9 st x1 x2 x3 x4 x5 x6 = some res → phi st ≤ phi res.2 := by
  intro n9
  induction n9 with
  | zero =>
    intro st x1 x2 x3 x4 x5 x6 hf
    exact absurd hf (by unfold f_X2_explore_L46; exact fun h => by cases h)
  | succ n9 hq46 =>
    intro st x1 x2 x3 x4 x5 x6 hf
    unfold f_X2_explore_L46 at hf
    obtain ⟨b52, h52, hf⟩ := bnd hf
    by_cases c55 : b52 ≤ x6
    · replace hf := ite_t c55 hf
      by_cases c106 : x5 = 0
      · replace hf := ite_t c106 hf
        obtain ⟨s116, e116, hf⟩ := lt_e hf
        have p116 : phi s116 = phi st := by rw [e116]; rfl
        have q9 := f_X2_explore_J119_l hsq _ _ hf
        omega
      · replace hf := ite_f c106 hf
        have q9 := f_X2_explore_J119_l hsq _ _ hf
        omega
    · replace hf := ite_f c55 hf
      by_cases c65 : ((x4 >>> (x6 &&& 31)) &&& 1) = 0
      · replace hf := ite_t c65 hf
        have q9 := f_X2_explore_J98_l hsq hq46 _ _ _ _ _ _ _ hf
        omega
      · replace hf := ite_f c65 hf
        obtain ⟨b86, h86, hf⟩ := bnd hf
        obtain ⟨b89, h89, hf⟩ := bnd hf
        have p89 := hsq _ _ _ _ _ h89
        have q9 := f_X2_explore_J92_l hsq hq46 _ _ _ _ _ _ _ _ hf
        omega
set_option maxRecDepth 100000 in
theorem f_X2_explore_L46_w {s0 : St} {d : Nat} {self : St → Int32 → Int32 → Int32 → Option (Int32 × St)} {res : (Int32 × St)} (X : Cx V A cX2_explore 7 RX2 p m c s args) (hr : meth.sig.returnType = (some .boolean)) (hlk : meth.locks = false) (hself : ∀ (st : St) (a1 : Int32) (a2 : Int32) (a3 : Int32) (res : (Int32 × St)), self st a1 a2 a3 = some res → Cn l yX2_explore cX2_explore 7 (some .boolean) (5 + d) (131 + d * 26) (dc st res.2) (ds st res.2) V A (WdC V ad A) st [.ref (ad 3), .int a1, .int a2, .int a3] (Qwi A (WdC V ad A) res.1 res.2)) (hsq : ∀ (st : St) (a1 : Int32) (a2 : Int32) (a3 : Int32) (res : (Int32 × St)), self st a1 a2 a3 = some res → phi st ≤ phi res.2)  : ∀ (n9 : Nat) (st : St) (x1 : Int32) (x2 : Int32) (x3 : Int32) (x4 : Int32) (x5 : Int32) (x6 : Int32) (H : Heap) (locs : List Loc) (ls : Array Slot), f_X2_explore_L46 self n9 st x1 x2 x3 x4 x5 x6 = some res → (WdC V ad A) st H → va_S A s.heap H locs → lv_has ls 7 [(0, .ref (ad 3)), (1, .int x1), (2, .int x2), (3, .int x3), (4, .int x4), (5, .int x5), (6, .int x6)] → phi s0 ≤ phi st → W p l e (rmF (5 + (d + 1)) (131 + (d + 1) * 26) (dc s0 res.2) (ds s0 res.2)) s m args below meth c H locs (dc s0 st) (ds s0 st) (MQ below (Qwi A (WdC V ad A) res.1 res.2) args s (dc s0 res.2) (ds s0 res.2) A) (F0 m 46 ls []) := by
  intro n9
  induction n9 with
  | zero =>
    intro st x1 x2 x3 x4 x5 x6 H locs ls hf
    exact absurd hf (by unfold f_X2_explore_L46; exact fun h => by cases h)
  | succ n9 hr46 =>
    have hq46 := f_X2_explore_L46_l (res := res) hsq n9
    intro st x1 x2 x3 x4 x5 x6 H locs ls hf hW hS hl h0
    have hm := f_X2_explore_L46_l hsq _ _ _ _ _ _ _ _ hf
    unfold f_X2_explore_L46 at hf
    refine lv_iload X.hx X.hb dX2_explore_46 (lv_at hl 6 rfl) ?_
    refine lv_aload_n X.hx X.hb dX2_explore_48 rfl (lv_at hl 0 rfl) ?_
    refine gX2_list X hW dX2_explore_49 ?_
    obtain ⟨b52, h52, hf⟩ := bnd hf
    refine cl_i (run_V (As := []) (rest := [.int x6]) X (w_X6_size l V A ad h52) mw_X6_size ln_X2_74 (rcX6 X hW) hW hS rfl hl.1 rfl (Nat.le_of_ble_eq_true rfl) ⟨by simp only [rmF]; omega, by simp only [rmF]; omega⟩ ⟨by simp only [dc, ds, rmF]; omega, by simp only [dc, ds, rmF]; omega⟩ dX2_explore_52) hS (fun H locs hW hS => ?_)
    refine lv_icmp_ge (tgt := 104) X.hx X.hb dX2_explore_55 (by decide) (fun c55 => ?_) (fun c55 => ?_)
    · replace hf := ite_t c55 hf
      refine lv_iload X.hx X.hb dX2_explore_104 (lv_at hl 5 rfl) ?_
      refine lv_if_ne (tgt := 119) X.hx X.hb dX2_explore_106 (by decide) (fun c106 => ?_) (fun c106 => ?_)
      · replace hf := ite_f c106 hf
        exact f_X2_explore_J119_w X hr hlk hself hsq _ _ _ _ _  hf hW hS (lv_sub hl [5] rfl) (by omega)
      · replace hf := ite_t c106 hf
        refine lv_aload_n X.hx X.hb dX2_explore_109 rfl (lv_at hl 0 rfl) ?_
        refine lv_dup X.hx X.hb dX2_explore_110 rfl ?_
        refine gX2_dead X hW dX2_explore_111 ?_
        refine lv_iconst (v := 1) X.hx X.hb dX2_explore_114 (by decide) ?_
        refine lv_iadd X.hx X.hb dX2_explore_115 ?_
        obtain ⟨s116, e116, hf⟩ := lt_e hf
        refine pX2_dead X hW hS dX2_explore_116 (fun H locs hW hS => ?_)
        rw [← e116] at hW
        have p116 : phi s116 = phi st := by rw [e116]; rfl
        refine W.widen (k := dc s0 s116) (n := ds s0 s116) (by simp only [dc, ds]; omega) (by simp only [dc, ds]; omega) ?_
        exact f_X2_explore_J119_w X hr hlk hself hsq _ _ _ _ _  hf hW hS (lv_sub hl [5] rfl) (by omega)
    · replace hf := ite_f c55 hf
      refine lv_iload X.hx X.hb dX2_explore_58 (lv_at hl 4 rfl) ?_
      refine lv_iload X.hx X.hb dX2_explore_60 (lv_at hl 6 rfl) ?_
      refine lv_ishr X.hx X.hb dX2_explore_62 ?_
      refine lv_iconst (v := 1) X.hx X.hb dX2_explore_63 (by decide) ?_
      refine lv_iand X.hx X.hb dX2_explore_64 ?_
      refine lv_if_eq (tgt := 98) X.hx X.hb dX2_explore_65 (by decide) (fun c65 => ?_) (fun c65 => ?_)
      · replace hf := ite_t c65 hf
        exact f_X2_explore_J98_w X hr hlk hself hsq hr46 hq46 _ _ _ _ _ _ _ _ _ _  hf hW hS (lv_sub hl [0, 1, 2, 3, 4, 5, 6] rfl) (by omega)
      · replace hf := ite_f c65 hf
        refine lv_aload_n X.hx X.hb dX2_explore_68 rfl (lv_at hl 0 rfl) ?_
        refine lv_iload_n X.hx X.hb dX2_explore_69 rfl (lv_at hl 1 rfl) ?_
        refine lv_iconst (v := 1) X.hx X.hb dX2_explore_70 (by decide) ?_
        refine lv_iadd X.hx X.hb dX2_explore_71 ?_
        refine lv_iload_n X.hx X.hb dX2_explore_72 rfl (lv_at hl 2 rfl) ?_
        refine lv_iconst (v := 4) X.hx X.hb dX2_explore_73 (by decide) ?_
        refine lv_ishl X.hx X.hb dX2_explore_74 ?_
        refine lv_iload X.hx X.hb dX2_explore_75 (lv_at hl 6 rfl) ?_
        refine lv_ior X.hx X.hb dX2_explore_77 ?_
        refine lv_aload_n X.hx X.hb dX2_explore_78 rfl (lv_at hl 0 rfl) ?_
        refine gX2_prefixes X hW dX2_explore_79 ?_
        refine lv_iload_n X.hx X.hb dX2_explore_82 rfl (lv_at hl 1 rfl) ?_
        refine lv_iload_n X.hx X.hb dX2_explore_83 rfl (lv_at hl 3 rfl) ?_
        refine lv_iload X.hx X.hb dX2_explore_84 (lv_at hl 6 rfl) ?_
        obtain ⟨b86, h86, hf⟩ := bnd hf
        refine cl_i (run_V (As := [.int x1, .int x3, .int x6]) (rest := [.int ((x2 <<< (4 &&& 31)) ||| x6), .int (x1 + 1), .ref (ad 3)]) X (w_X3_headsWith l V A ad h86) mw_X3_headsWith ln_X2_107 (rcX3 X hW) hW hS rfl hl.1 rfl (Nat.le_of_ble_eq_true rfl) ⟨by simp only [rmF]; omega, by simp only [rmF]; omega⟩ ⟨by simp only [dc, ds, rmF]; omega, by simp only [dc, ds, rmF]; omega⟩ dX2_explore_86) hS (fun H locs hW hS => ?_)
        obtain ⟨b89, h89, hf⟩ := bnd hf
        have q9 := f_X2_explore_J92_l hsq hq46 _ _ _ _ _ _ _ _ hf
        have p89 := hsq _ _ _ _ _ h89
        refine cl_i (run_V (As := [.int (x1 + 1), .int ((x2 <<< (4 &&& 31)) ||| x6), .int b86]) (rest := []) X (hself _ _ _ _ _ h89) mw_X2_explore ln_X2_80 (rcX2 X hW) hW hS rfl hl.1 rfl (Nat.le_of_ble_eq_true rfl) ⟨by simp only [rmF]; omega, by simp only [rmF]; omega⟩ ⟨by simp only [dc, ds, rmF]; omega, by simp only [dc, ds, rmF]; omega⟩ dX2_explore_89) hS (fun H locs hW hS => ?_)
        refine W.widen (k := dc s0 b89.2) (n := ds s0 b89.2) (by simp only [dc, ds]; omega) (by simp only [dc, ds]; omega) ?_
        exact f_X2_explore_J92_w X hr hlk hself hsq hr46 hq46 _ _ _ _ _ _ _ _ _ _ _  hf hW hS (lv_sub hl [0, 1, 2, 3, 4, 5, 6] rfl) (by omega)
noncomputable def f_X2_explore : Nat → St → Int32 → Int32 → Int32 → Option (Int32 × St)
  | 0, _, _, _, _ => none
  | d + 1, st, a1, a2, a3 => lt (sI st 7 ((st.1 7) + 1)) fun s7 => (f_X6_length s7).bind fun b15 => if a1 < b15 then (f_X3_nextRows s7 a1 a3).bind fun b35 => f_X2_explore_L46 (f_X2_explore d) FU s7 a1 a2 a3 b35 0 0 else (f_X2_keep s7 a2 a3).bind fun b24 => f_X2_explore_J27 (f_X2_explore d) b24
theorem l_X2_explore : ∀ (d : Nat) {st : St} {a1 : Int32} {a2 : Int32} {a3 : Int32} {res : (Int32 × St)}, f_X2_explore d st a1 a2 a3 = some res → phi st ≤ phi res.2 := by
  intro d
  induction d with
  | zero => intro st a1 a2 a3 res hf; exact absurd hf (by unfold f_X2_explore; exact fun h => by cases h)
  | succ d ihd =>
    intro st a1 a2 a3 res hf
    have hsq : ∀ (st : St) (a1 : Int32) (a2 : Int32) (a3 : Int32) (res : (Int32 × St)), f_X2_explore d st a1 a2 a3 = some res → phi st ≤ phi res.2 := fun _ _ _ _ _ h => ihd h
    unfold f_X2_explore at hf
    obtain ⟨s7, e7, hf⟩ := lt_e hf
    have p7 : phi s7 = phi st := by rw [e7]; rfl
    obtain ⟨b15, h15, hf⟩ := bnd hf
    by_cases c18 : a1 < b15
    · replace hf := ite_t c18 hf
      obtain ⟨b35, h35, hf⟩ := bnd hf
      have q9 := f_X2_explore_L46_l hsq FU _ _ _ _ _ _ _ hf
      omega
    · replace hf := ite_f c18 hf
      obtain ⟨b24, h24, hf⟩ := bnd hf
      have p24 := l_X2_keep h24
      have q9 := f_X2_explore_J27_l hsq _ hf
      omega
set_option maxRecDepth 100000 in
theorem w_X2_explore (l : Launch) (V : Ev) (A : Nat → Prop) (ad : Nat → Nat) : ∀ (d : Nat) (st : St) (a1 : Int32) (a2 : Int32) (a3 : Int32) (res : (Int32 × St)), f_X2_explore d st a1 a2 a3 = some res → Cn l yX2_explore cX2_explore 7 (some .boolean) (5 + d) (131 + d * 26) (dc st res.2) (ds st res.2) V A (WdC V ad A) st [.ref (ad 3), .int a1, .int a2, .int a3] (Qwi A (WdC V ad A) res.1 res.2) := by
  intro d
  induction d with
  | zero => intro st a1 a2 a3 res hf; exact absurd hf (by unfold f_X2_explore; exact fun h => by cases h)
  | succ d hself =>
    intro st a1 a2 a3 res hf
    refine cn_of RX2 (by decide) rfl (fun p e s m below meth c ls X hr hlk hW hS hl => ?_) (Nat.le_of_ble_eq_true rfl)
    have hl : lv_has ls 7 [(0, .ref (ad 3)), (1, .int a1), (2, .int a2), (3, .int a3)] := hl
    have hsq : ∀ (st : St) (a1 : Int32) (a2 : Int32) (a3 : Int32) (res : (Int32 × St)), f_X2_explore d st a1 a2 a3 = some res → phi st ≤ phi res.2 := fun _ _ _ _ _ h => l_X2_explore d h
    have hm := l_X2_explore _ hf
    obtain ⟨s0, e0⟩ : ∃ z, z = st := ⟨_, rfl⟩
    refine W.widen (k := dc s0 st) (n := ds s0 st) (Nat.zero_le _) (Nat.zero_le _) ?_
    have h0 : phi s0 ≤ phi st := by rw [e0]; exact Nat.le_refl _
    have e1 : dc st res.2 = dc s0 res.2 := by rw [e0]
    have e2 : ds st res.2 = ds s0 res.2 := by rw [e0]
    rw [e1, e2]
    unfold f_X2_explore at hf
    refine lv_aload_n X.hx X.hb dX2_explore_0 rfl (lv_at hl 0 rfl) ?_
    refine lv_dup X.hx X.hb dX2_explore_1 rfl ?_
    refine gX2_visits X hW dX2_explore_2 ?_
    refine lv_iconst (v := 1) X.hx X.hb dX2_explore_5 (by decide) ?_
    refine lv_iadd X.hx X.hb dX2_explore_6 ?_
    obtain ⟨s7, e7, hf⟩ := lt_e hf
    refine pX2_visits X hW hS dX2_explore_7 (fun H locs hW hS => ?_)
    rw [← e7] at hW
    have p7 : phi s7 = phi st := by rw [e7]; rfl
    refine W.widen (k := dc s0 s7) (n := ds s0 s7) (by simp only [dc, ds]; omega) (by simp only [dc, ds]; omega) ?_
    refine lv_iload_n X.hx X.hb dX2_explore_10 rfl (lv_at hl 1 rfl) ?_
    refine lv_aload_n X.hx X.hb dX2_explore_11 rfl (lv_at hl 0 rfl) ?_
    refine gX2_list X hW dX2_explore_12 ?_
    obtain ⟨b15, h15, hf⟩ := bnd hf
    refine cl_i (run_V (As := []) (rest := [.int a1]) X (w_X6_length l V A ad h15) mw_X6_length ln_X2_96 (rcX6 X hW) hW hS rfl hl.1 rfl (Nat.le_of_ble_eq_true rfl) ⟨by simp only [rmF]; omega, by simp only [rmF]; omega⟩ ⟨by simp only [dc, ds, rmF]; omega, by simp only [dc, ds, rmF]; omega⟩ dX2_explore_15) hS (fun H locs hW hS => ?_)
    refine lv_icmp_lt (tgt := 29) X.hx X.hb dX2_explore_18 (by decide) (fun c18 => ?_) (fun c18 => ?_)
    · replace hf := ite_t c18 hf
      refine lv_aload_n X.hx X.hb dX2_explore_29 rfl (lv_at hl 0 rfl) ?_
      refine gX2_prefixes X hW dX2_explore_30 ?_
      refine lv_iload_n X.hx X.hb dX2_explore_33 rfl (lv_at hl 1 rfl) ?_
      refine lv_iload_n X.hx X.hb dX2_explore_34 rfl (lv_at hl 3 rfl) ?_
      obtain ⟨b35, h35, hf⟩ := bnd hf
      refine cl_i (run_V (As := [.int a1, .int a3]) (rest := []) X (w_X3_nextRows l V A ad h35) mw_X3_nextRows ln_X2_103 (rcX3 X hW) hW hS rfl hl.1 rfl (Nat.le_of_ble_eq_true rfl) ⟨by simp only [rmF]; omega, by simp only [rmF]; omega⟩ ⟨by simp only [dc, ds, rmF]; omega, by simp only [dc, ds, rmF]; omega⟩ dX2_explore_35) hS (fun H locs hW hS => ?_)
      refine lv_istore (lv' := [(4, .int b35), (0, .ref (ad 3)), (1, .int a1), (2, .int a2), (3, .int a3)]) X.hx X.hb dX2_explore_38 hl (by decide) rfl (fun ls hl => ?_)
      refine lv_iconst (v := 0) X.hx X.hb dX2_explore_40 (by decide) ?_
      refine lv_istore (lv' := [(5, .int 0), (4, .int b35), (0, .ref (ad 3)), (1, .int a1), (2, .int a2), (3, .int a3)]) X.hx X.hb dX2_explore_41 hl (by decide) rfl (fun ls hl => ?_)
      refine lv_iconst (v := 0) X.hx X.hb dX2_explore_43 (by decide) ?_
      refine lv_istore (lv' := [(6, .int 0), (5, .int 0), (4, .int b35), (0, .ref (ad 3)), (1, .int a1), (2, .int a2), (3, .int a3)]) X.hx X.hb dX2_explore_44 hl (by decide) rfl (fun ls hl => ?_)
      exact f_X2_explore_L46_w X hr hlk hself hsq FU _ _ _ _ _ _ _ _ _ _  hf hW hS (lv_sub hl [3, 4, 5, 6, 2, 1, 0] rfl) (by omega)
    · replace hf := ite_f c18 hf
      refine lv_aload_n X.hx X.hb dX2_explore_21 rfl (lv_at hl 0 rfl) ?_
      refine lv_iload_n X.hx X.hb dX2_explore_22 rfl (lv_at hl 2 rfl) ?_
      refine lv_iload_n X.hx X.hb dX2_explore_23 rfl (lv_at hl 3 rfl) ?_
      obtain ⟨b24, h24, hf⟩ := bnd hf
      have q9 := f_X2_explore_J27_l hsq _ hf
      have p24 := l_X2_keep h24
      refine cl_v (run_V (As := [.int a2, .int a3]) (rest := []) X (w_X2_keep l V A ad h24) mw_X2_keep ln_X2_99 (rcX2 X hW) hW hS rfl hl.1 rfl (Nat.le_of_ble_eq_true rfl) ⟨by simp only [rmF]; omega, by simp only [rmF]; omega⟩ ⟨by simp only [dc, ds, rmF]; omega, by simp only [dc, ds, rmF]; omega⟩ dX2_explore_24) hS (fun H locs hW hS => ?_)
      refine W.widen (k := dc s0 b24) (n := ds s0 b24) (by simp only [dc, ds]; omega) (by simp only [dc, ds]; omega) ?_
      exact f_X2_explore_J27_w X hr hlk hself hsq _ _ _ _  hf hW hS (lv_sub hl [] rfl) (by omega)
-- WordSquares$Finder.run
noncomputable def f_X2_run_J28 (st : St) (t0 : Int32) : Option St := (f_X2_exploreWithMemory 6 st 0 0).bind fun b32 => some b32.2
theorem f_X2_run_J28_l {res : St} (st : St) (t0 : Int32) (hf : f_X2_run_J28 st t0 = some res) : phi st ≤ phi res := by
  unfold f_X2_run_J28 at hf
  obtain ⟨b32, h32, hf⟩ := bnd hf
  have p32 := l_X2_exploreWithMemory 6 h32
  have q9 := congrArg phi (Option.some.inj hf)
  omega
set_option maxRecDepth 100000 in
theorem f_X2_run_J28_w {s0 : St} {res : St} (X : Cx V A cX2_run 1 RX2 p m c s args) (hr : meth.sig.returnType = none) (hlk : meth.locks = false)  (st : St) (t0 : Int32) (H : Heap) (locs : List Loc) (ls : Array Slot)  (hf : f_X2_run_J28 st t0 = some res) (hW : (WdC V ad A) st H) (hS : va_S A s.heap H locs) (hl : lv_has ls 1 [(0, .ref (ad 3))]) (h0 : phi s0 ≤ phi st) : W p l e (rmF 12 313 (dc s0 res) (ds s0 res)) s m args below meth c H locs (dc s0 st) (ds s0 st) (MQ below (Qwv A (WdC V ad A) res) args s (dc s0 res) (ds s0 res) A) (F0 m 28 ls [.int t0]) := by
  have hm := f_X2_run_J28_l  _ _ hf
  unfold f_X2_run_J28 at hf
  refine lv_pop X.hx X.hb dX2_run_28 rfl ?_
  refine lv_aload_n X.hx X.hb dX2_run_29 rfl (lv_at hl 0 rfl) ?_
  refine lv_iconst (v := 0) X.hx X.hb dX2_run_30 (by decide) ?_
  refine lv_iconst (v := 0) X.hx X.hb dX2_run_31 (by decide) ?_
  obtain ⟨b32, h32, hf⟩ := bnd hf
  have p32 := l_X2_exploreWithMemory 6 h32
  refine cl_i (run_V (As := [.int 0, .int 0]) (rest := []) X (w_X2_exploreWithMemory l V A ad 6 _ _ _ _ h32) mw_X2_exploreWithMemory ln_X2_84 (rcX2 X hW) hW hS rfl hl.1 rfl (Nat.le_of_ble_eq_true rfl) ⟨Nat.le_of_ble_eq_true rfl, Nat.le_of_ble_eq_true rfl⟩ ⟨by simp only [dc, ds, rmF]; omega, by simp only [dc, ds, rmF]; omega⟩ dX2_run_32) hS (fun H locs hW hS => ?_)
  refine W.widen (k := dc s0 b32.2) (n := ds s0 b32.2) (by simp only [dc, ds]; omega) (by simp only [dc, ds]; omega) ?_
  refine lv_pop X.hx X.hb dX2_run_35 rfl ?_
  exact rt_v X hr hlk (by rw [← Option.some.inj hf]; exact hW) hS (by rw [← Option.some.inj hf]; exact Nat.le_refl _) (by rw [← Option.some.inj hf]; exact Nat.le_refl _) dX2_run_36
noncomputable def f_X2_run (st : St) : Option St := (f_X2_clear st).bind fun b1 => (f_X6_size b1).bind fun b8 => if b8 ≤ 0 then some b1 else (f_X3_build b1).bind fun b18 => (f_X2_explore 6 b18 0 0 0).bind fun b25 => f_X2_run_J28 b25.2 b25.1
theorem l_X2_run {st : St} {res : St} (hf : f_X2_run st = some res) : phi st ≤ phi res := by
  unfold f_X2_run at hf
  obtain ⟨b1, h1, hf⟩ := bnd hf
  have p1 := l_X2_clear h1
  obtain ⟨b8, h8, hf⟩ := bnd hf
  by_cases c11 : b8 ≤ 0
  · replace hf := ite_t c11 hf
    have q9 := congrArg phi (Option.some.inj hf)
    omega
  · replace hf := ite_f c11 hf
    obtain ⟨b18, h18, hf⟩ := bnd hf
    have p18 := l_X3_build h18
    obtain ⟨b25, h25, hf⟩ := bnd hf
    have p25 := l_X2_explore 6 h25
    have q9 := f_X2_run_J28_l  _ _ hf
    omega
set_option maxRecDepth 100000 in
theorem w_X2_run (l : Launch) (V : Ev) (A : Nat → Prop) (ad : Nat → Nat) {st : St} {res : St} (hf : f_X2_run st = some res) : Cn l yX2_run cX2_run 1 none 12 313 (dc st res) (ds st res) V A (WdC V ad A) st [.ref (ad 3)] (Qwv A (WdC V ad A) res) := by
  refine cn_of RX2 (by decide) rfl (fun p e s m below meth c ls X hr hlk hW hS hl => ?_) (Nat.le_of_ble_eq_true rfl)
  have hl : lv_has ls 1 [(0, .ref (ad 3))] := hl
  have hm := l_X2_run hf
  obtain ⟨s0, e0⟩ : ∃ z, z = st := ⟨_, rfl⟩
  refine W.widen (k := dc s0 st) (n := ds s0 st) (Nat.zero_le _) (Nat.zero_le _) ?_
  have h0 : phi s0 ≤ phi st := by rw [e0]; exact Nat.le_refl _
  have e1 : dc st res = dc s0 res := by rw [e0]
  have e2 : ds st res = ds s0 res := by rw [e0]
  rw [e1, e2]
  unfold f_X2_run at hf
  refine lv_aload_n X.hx X.hb dX2_run_0 rfl (lv_at hl 0 rfl) ?_
  obtain ⟨b1, h1, hf⟩ := bnd hf
  have p1 := l_X2_clear h1
  refine cl_v (run_V (As := []) (rest := []) X (w_X2_clear l V A ad h1) mw_X2_clear ln_X2_71 (rcX2 X hW) hW hS rfl hl.1 rfl (Nat.le_of_ble_eq_true rfl) ⟨Nat.le_of_ble_eq_true rfl, Nat.le_of_ble_eq_true rfl⟩ ⟨by simp only [dc, ds, rmF]; omega, by simp only [dc, ds, rmF]; omega⟩ dX2_run_1) hS (fun H locs hW hS => ?_)
  refine W.widen (k := dc s0 b1) (n := ds s0 b1) (by simp only [dc, ds]; omega) (by simp only [dc, ds]; omega) ?_
  refine lv_aload_n X.hx X.hb dX2_run_4 rfl (lv_at hl 0 rfl) ?_
  refine gX2_list X hW dX2_run_5 ?_
  obtain ⟨b8, h8, hf⟩ := bnd hf
  refine cl_i (run_V (As := []) (rest := []) X (w_X6_size l V A ad h8) mw_X6_size ln_X2_74 (rcX6 X hW) hW hS rfl hl.1 rfl (Nat.le_of_ble_eq_true rfl) ⟨Nat.le_of_ble_eq_true rfl, Nat.le_of_ble_eq_true rfl⟩ ⟨by simp only [dc, ds, rmF]; omega, by simp only [dc, ds, rmF]; omega⟩ dX2_run_8) hS (fun H locs hW hS => ?_)
  refine lv_if_le (tgt := 36) X.hx X.hb dX2_run_11 (by decide) (fun c11 => ?_) (fun c11 => ?_)
  · replace hf := ite_t c11 hf
    exact rt_v X hr hlk (by rw [← Option.some.inj hf]; exact hW) hS (by rw [← Option.some.inj hf]; exact Nat.le_refl _) (by rw [← Option.some.inj hf]; exact Nat.le_refl _) dX2_run_36
  · replace hf := ite_f c11 hf
    refine lv_aload_n X.hx X.hb dX2_run_14 rfl (lv_at hl 0 rfl) ?_
    refine gX2_prefixes X hW dX2_run_15 ?_
    obtain ⟨b18, h18, hf⟩ := bnd hf
    have p18 := l_X3_build h18
    refine cl_v (run_V (As := []) (rest := []) X (w_X3_build l V A ad h18) mw_X3_build ln_X2_77 (rcX3 X hW) hW hS rfl hl.1 rfl (Nat.le_of_ble_eq_true rfl) ⟨Nat.le_of_ble_eq_true rfl, Nat.le_of_ble_eq_true rfl⟩ ⟨by simp only [dc, ds, rmF]; omega, by simp only [dc, ds, rmF]; omega⟩ dX2_run_18) hS (fun H locs hW hS => ?_)
    refine W.widen (k := dc s0 b18) (n := ds s0 b18) (by simp only [dc, ds]; omega) (by simp only [dc, ds]; omega) ?_
    refine lv_aload_n X.hx X.hb dX2_run_21 rfl (lv_at hl 0 rfl) ?_
    refine lv_iconst (v := 0) X.hx X.hb dX2_run_22 (by decide) ?_
    refine lv_iconst (v := 0) X.hx X.hb dX2_run_23 (by decide) ?_
    refine lv_iconst (v := 0) X.hx X.hb dX2_run_24 (by decide) ?_
    obtain ⟨b25, h25, hf⟩ := bnd hf
    have q9 := f_X2_run_J28_l  _ _ hf
    have p25 := l_X2_explore 6 h25
    refine cl_i (run_V (As := [.int 0, .int 0, .int 0]) (rest := []) X (w_X2_explore l V A ad 6 _ _ _ _ _ h25) mw_X2_explore ln_X2_80 (rcX2 X hW) hW hS rfl hl.1 rfl (Nat.le_of_ble_eq_true rfl) ⟨Nat.le_of_ble_eq_true rfl, Nat.le_of_ble_eq_true rfl⟩ ⟨by simp only [dc, ds, rmF]; omega, by simp only [dc, ds, rmF]; omega⟩ dX2_run_25) hS (fun H locs hW hS => ?_)
    refine W.widen (k := dc s0 b25.2) (n := ds s0 b25.2) (by simp only [dc, ds]; omega) (by simp only [dc, ds]; omega) ?_
    exact f_X2_run_J28_w X hr hlk _ _ _ _ _  hf hW hS (lv_sub hl [0] rfl) (by omega)
end GW
