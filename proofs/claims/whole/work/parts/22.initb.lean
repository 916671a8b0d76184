/-- arrays of rows of numbers can be made -/
def Ovr (U : State) : Prop := (Cond.arrayOver (.array .int)).before #[] U = true
theorem Ovr.moved {s U : State} (hw : s.WarmedH U.vm) (h : Ovr s) : Ovr U := by
  have h1 := Cond.arrayOver_setVmC (args := #[]) hw.alike (FieldType.array .int)
  exact h1.trans h
def PwO (V : Ev) (A : Nat → Prop) (ws : va_W) (av : List Value) : Array Value → State → Prop := va_Pc av (fun U => (va_P V.1 vwCl ws U.heap ∧ va_D A ws) ∧ va_K V.1 vwCl (tyL V) U ∧ (∀ q, U.heap.size ≤ q → A q) ∧ Nst U ∧ Ovr U)
theorem PwO_blind {V : Ev} {A : Nat → Prop} {ws : va_W} {av : List Value} : FrameBlind (PwO V A ws av) := fun a U g mk h => by
  obtain ⟨h0, h1, h2, h3, h4, h5⟩ := h
  exact ⟨h0, h1, va_K.moved (u := U) (U := U.calling g mk a) (Vm.Alike.refl U.vm) h2, h3, h4.same rfl, h5⟩
theorem PwO_at {V : Ev} {A : Nat → Prop} {ws : va_W} {av : List Value} {s : State} {H : Heap} {locs : List Loc} (hP : va_P V.1 vwCl ws H) (hD : va_D A ws) (hK : va_K V.1 vwCl (tyL V) s) (hA : ∀ q, s.heap.size ≤ q → A q) (hN : Nst s) (hO : Ovr s) (hS : va_S A s.heap H locs) : ∀ U : State, U.heap = H → s.WarmedH U.vm → PwO V A ws av av.toArray U := fun U hU hw =>
  ⟨rfl, ⟨by rw [hU]; exact hP, hD⟩, va_K.moved hw.alike hK, fun q hq => hA q (Nat.le_trans hS.1 (by rw [← hU]; exact hq)), hN.moved hw, hO.moved hw⟩
abbrev QwL (V : Ev) (A : Nat → Prop) (L : (Nat → Nat) → va_W) := va_Qv (fun (_ : Nat → Nat) => True) (fun u t => va_P V.1 vwCl (L u) t.heap ∧ va_D A (L u)) A
theorem apG {F L : va_W} (i : Nat) : (F ++ L)[F.length + i]? = L[i]? := by rw [List.getElem?_append_right (by omega)]; congr 1; omega
theorem apS {F L : va_W} (i : Nat) (x : Nat × va_E) : (F ++ L).set (F.length + i) x = F ++ L.set i x := by rw [List.set_append_right _ _ (by omega)]; congr 2; omega
theorem cT_eq {V : Ev} {U : State} {cA : ClassId} {ty : FieldType} (i : Nat) {cB : ClassId} (hi : (tyL V)[i]? = some (cB, ty)) (hl : i < 4) (hne : ∀ C, ty ≠ .object C) (h : va_K V.1 vwCl (tyL V ++ [(cA, ty)]) U) : cA = cB := by
  have h1 := (h.2 4 (cA, ty) rfl).2
  have h2 := (h.2 i (cB, ty) (by rw [List.getElem?_append_left hl]; exact hi)).2
  cases ty <;> first | exact Option.some.inj (h1.symm.trans h2) | exact absurd rfl (hne _)
theorem im_obj : Cond.instanceMethod objectInit ∈ G := inG 101 (by decide +kernel) (by decide +kernel)
theorem kc_obj : Cond.code objectInit ⟨#[0xb1]⟩ 1 none ∈ G := inG 102 (by decide +kernel) (by decide +kernel)
theorem kc_arrj : Cond.arrayClass .long ∈ G := inG 155 (by decide +kernel) (by decide +kernel)
theorem kc_arrz : Cond.arrayClass .boolean ∈ G := inG 887 (by decide +kernel) (by decide +kernel)
section IN
variable {p : Program} {l : Launch} {e : Env} {R : Room} {s : State} {m : MethodId} {args : Array Value} {below : List Frame} {meth : Method} {c : Code} {H : Heap} {locs : List Loc} {cells slots : Nat} {Q : State → Prop}
variable {pc : Nat} {ls : Array Slot} {rest stk As : List Value} {cc bytes : ByteArray} {nL maxL idx n fr lo mc ms b : Nat} {own host : String} {V : Ev} {A : Nat → Prop} {y : MethodName} {ws : va_W} {Qc : Array Value → State → Outcome → State → Prop}
theorem run_IO (X : Cx V A cc nL own p m c s args) (hO : Ovr s) (hM : Met l y (Cond.code y bytes maxL none :: G) (rmF fr lo mc ms) (PwO V A ws (.ref b :: As)) Qc mc ms A) (hk : Cond.code y bytes maxL none ∈ G) (hi : Cond.instanceMethod y ∈ G) (hini : Cond.initialized y.cls ∈ G) (hy : y.name = "<init>") (hd : y.cls ≠ "java/lang/invoke/MethodHandle" ∧ y.cls ≠ "java/lang/invoke/VarHandle" ∧ (parseMethodDescriptor y.desc).map (fun d => d.parameters.length) = some n) (hl : Cond.methodLink own idx y ∈ G) (hP : va_P V.1 vwCl ws H) (hD : va_D A ws) (hS : va_S A s.heap H locs)
    (hn : As.length = n) (hsz : ls.size = nL) (hstk : stk = As.reverse ++ .ref b :: rest) (hcat : (rest.map fun v => v.category).sum ≤ 8) (hR : fr + 1 ≤ R.frames ∧ 8 + (maxL + 11) + lo ≤ R.locals) (hf : cells + mc ≤ R.cells ∧ slots + ms ≤ R.slots) (hdg : decode cc pc = .ok (.invokespecial idx, 3)) :
    va_Run p l e R s m args below meth c H locs cells slots mc ms (F0 m pc ls stk) rest (Qc (Value.ref b :: As).toArray) A :=
  va_runI X.1 hM ⟨callB_of n X.1.2.2.2.2 (G_ok hk) rfl rfl rfl (X.ts hini) (X.ts hl) hd hR, hy, X.ts hi⟩ ⟨PwO_blind, PwO_at hP hD X.hK X.hA X.hN hO hS⟩ rfl hn hsz hstk (lv_room hcat) hdg hf
theorem run_INO (X : Cx V A cc nL own p m c s args) (hO : Ovr s) (hM : Met l y (Cond.code y bytes maxL none :: G) (rmF fr lo mc ms) (PwO V A ws (.ref b :: As)) Qc mc ms A) (hk : Cond.code y bytes maxL none ∈ G) (hi : Cond.instanceMethod y ∈ G) (hini : Cond.initialized y.cls ∈ G) (hy : y.name = "<init>") (hd : y.cls ≠ "java/lang/invoke/MethodHandle" ∧ y.cls ≠ "java/lang/invoke/VarHandle" ∧ (parseMethodDescriptor y.desc).map (fun d => d.parameters.length) = some n) (hl : (own, idx, y, host) ∈ nestL) (hP : va_P V.1 vwCl ws H) (hD : va_D A ws) (hS : va_S A s.heap H locs)
    (hn : As.length = n) (hsz : ls.size = nL) (hstk : stk = As.reverse ++ .ref b :: rest) (hcat : (rest.map fun v => v.category).sum ≤ 8) (hR : fr + 1 ≤ R.frames ∧ 8 + (maxL + 11) + lo ≤ R.locals) (hf : cells + mc ≤ R.cells ∧ slots + ms ≤ R.slots) (hdg : decode cc pc = .ok (.invokespecial idx, 3)) :
    va_Run p l e R s m args below meth c H locs cells slots mc ms (F0 m pc ls stk) rest (Qc (Value.ref b :: As).toArray) A :=
  va_runIN (host := host) X.1 hM ⟨va_cnB n X.1.2.2.2.2 (G_ok hk) rfl rfl rfl (X.hN _ hl) (X.ts hini) hd hR, hy, X.ts hi⟩ ⟨PwO_blind, PwO_at hP hD X.hK X.hA X.hN hO hS⟩ rfl hn hsz hstk (lv_room hcat) hdg hf
theorem cn_ofO {cc : ByteArray} {av : List Value} (own : String) (hy : plainName y.cls = true) (ho : y.cls = own) (hni : y.name = "<init>")
    (body : ∀ (p : Program) (e : Env) (s : State) (m : MethodId) (below : List Frame) (meth : Method) (c : Code) (ls : Array Slot), Cx V A cc maxL own p m c s av.toArray → Ovr s → meth.name = "<init>" → meth.sig.returnType = none → meth.locks = false → va_P V.1 vwCl ws s.heap → va_D A ws → va_S A s.heap s.heap [] → lv_has ls maxL (lv_args 0 av) →
      W p l e (rmF fr lo mc ms) s m av.toArray below meth c s.heap [] 0 0 (MQ below Qc av.toArray s mc ms A) (F0 m 0 ls [])) (hle : (lg_sl av).length ≤ maxL) : Met l y (Cond.code y cc maxL none :: G) (rmF fr lo mc ms) (PwO V A ws av) Qc mc ms A := by
  refine Met.ofW (cc := cc) (maxL := maxL) (ret := none) hy rfl ?_
  intro p e s m args below meth c s₁ B hml hv
  obtain ⟨rfl, ⟨hP, hD⟩, hK, hA, hN, hO⟩ := hv
  have hts := atoms_spec (ws := Cond.code y cc maxL none :: G) B.pre
  have hown : s.vm.findClass own = some m.cls := by rw [← ho]; exact findClass_of_methodNamed B.named
  have hl := lv_entry av (n := maxL) hle
  rw [lg_entry_eq]
  generalize (lg_sl av ++ List.replicate (maxL - (lg_sl av).length) Slot.unset).toArray = ls at hl ⊢
  exact body p e s m below meth c ls ⟨⟨B.exec, B.bytes, hml, hown, fun w hw => hts w (List.mem_cons_of_mem _ hw)⟩, hK, hA, hN⟩ hO ((name_of_methodNamed B.named B.method).1.trans hni) B.returns B.notSynchronized hP hD va_S.rf hl
theorem rt_vO {L : (Nat → Nat) → va_W} (u : Nat → Nat) (X : Cx V A cc nL own p m c s args) (hr : meth.sig.returnType = none) (hlocks : meth.locks = false) (hP : va_P V.1 vwCl (L u) H) (hD : va_D A (L u)) (hS : va_S A s.heap H locs) (h1 : cells ≤ mc) (h2 : slots ≤ ms) (hdg : decode cc pc = .ok (.return_, 1)) :
    W p l e R s m args below meth c H locs cells slots (MQ below (QwL V A L) args s mc ms A) (F0 m pc ls []) :=
  W.widen h1 h2 (W.vret X.hx X.hb hr (fun t ht _ => ⟨⟨u, rfl, trivial, by show va_P V.1 vwCl (L u) t.heap; rw [ht]; exact hP, hD⟩, hS.F ht⟩) hS.2.2 hdg)
/-- new int[4][k]: the outer row, then the four inner ones -/
theorem mna4 (X : Cx V A cc nL own p m c s args) (hO : Ovr s) {index : Nat} (hcl : Cond.classLink own index "[[I" ∈ G) (hP : va_P V.1 vwCl ws H) (hD : va_D A ws) (hS : va_S A s.heap H locs) {k : Int32} {K' : Nat} (hk : ¬ k < 0) (hM : k.toNatClampNeg = K') (hb2 : K' * 4 ≤ 536870912) (hcells : cells + (1 + 4) ≤ R.cells) (hslots : slots + (4 + 4 * K') ≤ R.slots) (hdg : decode cc pc = .ok (.multianewarray index 2, 4))
    (kk : ∀ (q : Nat) (H1 : Heap), va_P V.1 vwCl (ws ++ [(q, .inl (V.2.2.2.2, 4, .inr (.inr (.inr (.inr (fun i => if i < 4 then some (q + 1 + i) else none)))))), (q + 1 + 0, .inl (V.2.1, K', .inl (fun _ => 0))), (q + 1 + 1, .inl (V.2.1, K', .inl (fun _ => 0))), (q + 1 + 2, .inl (V.2.1, K', .inl (fun _ => 0))), (q + 1 + 3, .inl (V.2.1, K', .inl (fun _ => 0)))]) H1 → va_D A (ws ++ [(q, .inl (V.2.2.2.2, 4, .inr (.inr (.inr (.inr (fun i => if i < 4 then some (q + 1 + i) else none)))))), (q + 1 + 0, .inl (V.2.1, K', .inl (fun _ => 0))), (q + 1 + 1, .inl (V.2.1, K', .inl (fun _ => 0))), (q + 1 + 2, .inl (V.2.1, K', .inl (fun _ => 0))), (q + 1 + 3, .inl (V.2.1, K', .inl (fun _ => 0)))]) → va_S A s.heap H1 locs →
      W p l e R s m args below meth c H1 locs (cells + 1 + 4) (slots + 4 + 4 * K') Q (F0 m (pc + 4) ls (.ref q :: rest))) : W p l e R s m args below meth c H locs cells slots Q (F0 m pc ls (.int k :: .int 4 :: rest)) := by
  subst hM
  intro T hT Xs
  obtain ⟨vm₁, cA, comp, -, fA, fC, hOo, -, X', step⟩ := Jvm.Stand.multianewarray2F Xs X.hx X.ho (ty := .int) (X.ts hcl) (show (Cond.arrayOver (.array .int)).before args s = true from hO) (X.ts kc_arri) (g := F0 m pc ls (.int k :: .int 4 :: rest)) rfl (by rw [X.hb]; exact hdg) rfl (by decide) hk (by decide) hb2 (by omega) rfl rfl hcells hslots
  have ecA : cA = V.2.2.2.2 := Option.some.inj (fA.symm.trans (X.hK.2 3 _ rfl).2)
  have ecC : comp = V.2.1 := Option.some.inj (fC.symm.trans (X.hK.2 0 _ rfl).2)
  subst ecA
  subst ecC
  have h4 : (4 : Int32).toNatClampNeg = 4 := by decide
  rw [h4] at X' step
  generalize hF : Jvm.Free.Multi.fill (T.setVm vm₁) V.2.2.2.2 V.2.1 4 k.toNatClampNeg (defaultValue .int) 4 = F at X' step
  have hTh : (T.setVm vm₁).heap = H := hT
  obtain ⟨f1, f2, -, -⟩ := Jvm.Free.Multi.fill_facts (T.setVm vm₁) V.2.2.2.2 V.2.1 4 k.toNatClampNeg (defaultValue .int) 4
  rw [hF, hTh] at f1 f2
  have hold : ∀ x : Nat, x < H.size → F.heap[x]? = H[x]? := fun x hx => by
    have := Jvm.Free.Multi.fill_old (T.setVm vm₁) V.2.2.2.2 V.2.1 4 k.toNatClampNeg (defaultValue .int) (a := x) (by rw [hTh]; exact hx) 4
    rw [hF, hTh] at this
    exact this
  have hrow : ∀ j : Nat, j < 4 → F.heap[H.size + 1 + j]? = some (vp_cell V.2.1 (k.toNatClampNeg, .inl (fun _ => 0))) := fun j hj => by
    have := Jvm.Free.Multi.fill_inner (T.setVm vm₁) V.2.2.2.2 V.2.1 4 k.toNatClampNeg (defaultValue .int) 4 j hj
    rw [hF, hTh] at this
    rw [this, vp_cell_i]
    exact congrArg some (arrV_new _ _ _)
  have hout : ∀ i : Nat, Jvm.Free.Multi.outerC V.2.2.2.2 4 H.size i = arrV V.2.2.2.2 4 (fun j => va_rf (if j < i then some (H.size + 1 + j) else none)) := fun i => by
    induction i with
    | zero =>
      show ({ cls := _, slots := Array.replicate 4 .null, vm := .none } : Cell) = _
      rw [arrV_new]
      exact congrArg (arrV _ 4) (funext fun j => by simp [va_rf])
    | succ i ih =>
      show (Jvm.Free.Multi.outerC V.2.2.2.2 4 H.size i).setSlot i (.ref (H.size + 1 + i)) = _
      rw [ih, arrV_store]
      refine congrArg (arrV _ 4) (funext fun j => ?_)
      by_cases e : j = i
      · subst e; simp [updV, va_rf]
      · by_cases h : j < i
        · simp [updV, e, h, Nat.lt_succ_of_lt h]
        · simp [updV, e, h, show ¬ j < i + 1 by omega]
  have hsz : F.heap.size = H.size + 5 := by rw [f1]
  have hat : ∀ (k9 : Nat) (x : Nat × va_E), ([((H.size, .inl (V.2.2.2.2, 4, .inr (.inr (.inr (.inr (fun i => if i < 4 then some (H.size + 1 + i) else none)))))) : Nat × va_E), (H.size + 1 + 0, .inl (V.2.1, k.toNatClampNeg, .inl (fun _ => 0))), (H.size + 1 + 1, .inl (V.2.1, k.toNatClampNeg, .inl (fun _ => 0))), (H.size + 1 + 2, .inl (V.2.1, k.toNatClampNeg, .inl (fun _ => 0))), (H.size + 1 + 3, .inl (V.2.1, k.toNatClampNeg, .inl (fun _ => 0)))])[k9]? = some x → k9 < 5 ∧ x.1 = H.size + k9 ∧ va_at V.1 vwCl x F.heap := fun k9 x hx => by
    match k9, hx with
    | 0, hx =>
      cases hx
      refine ⟨by decide, rfl, ?_⟩
      show F.heap[H.size]? = some (vp_cell V.2.2.2.2 _)
      rw [f2, hout 4, vp_cell_q]
    | 1, hx => cases hx; exact ⟨by decide, rfl, hrow 0 (by decide)⟩
    | 2, hx => cases hx; exact ⟨by decide, rfl, hrow 1 (by decide)⟩
    | 3, hx => cases hx; exact ⟨by decide, rfl, hrow 2 (by decide)⟩
    | 4, hx => cases hx; exact ⟨by decide, rfl, hrow 3 (by decide)⟩
    | k9 + 5, hx => simp at hx
  have hP1 := (hP.kept (H1 := F.heap) (fun k9 x hx => hold x.1 ((hP k9 x hx).lt))).app (fun k9 x hx => (hat k9 x hx).2.2)
  have hD1 := hD.app (w2 := [((H.size, .inl (V.2.2.2.2, 4, .inr (.inr (.inr (.inr (fun i => if i < 4 then some (H.size + 1 + i) else none)))))) : Nat × va_E), (H.size + 1 + 0, .inl (V.2.1, k.toNatClampNeg, .inl (fun _ => 0))), (H.size + 1 + 1, .inl (V.2.1, k.toNatClampNeg, .inl (fun _ => 0))), (H.size + 1 + 2, .inl (V.2.1, k.toNatClampNeg, .inl (fun _ => 0))), (H.size + 1 + 3, .inl (V.2.1, k.toNatClampNeg, .inl (fun _ => 0)))]) ⟨fun i j x y hx hy e => by
      have h1 := (hat i x hx).2.1
      have h2 := (hat j y hy).2.1
      omega, fun k9 x hx => X.hA _ (by have h1 := (hat k9 x hx).2.1; have := hS.1; omega)⟩ (fun i j x y hx hy e => by
      have h1 := (hP i x hx).lt
      have h2 := (hat j y hy).2.1
      omega)
  obtain ⟨t, a1, b1⟩ := kk H.size F.heap hP1 hD1 ⟨by rw [hsz]; have := hS.1; omega, fun x h1 h2 => (hold x (Nat.lt_of_lt_of_le h1 hS.1)).trans (hS.2.1 x h1 h2), hS.2.2⟩ F rfl X'
  refine ⟨t, step t ?_, b1⟩
  have e : T.heap.size = H.size := by rw [hT]
  rw [e]
  exact a1
end IN
theorem cl_L_7 : Cond.classLink RL 7 RX7 ∈ G := inG 95 (by decide +kernel) (by decide +kernel)
theorem ns_X7 : Cond.instantiable RX7 9 ∈ G := inG 96 (by decide +kernel) (by decide +kernel)
theorem im_X7_init : Cond.instanceMethod yX7_init ∈ G := inG 98 (by decide +kernel) (by decide +kernel)
theorem lo_X7 : Cond.methodLink RX7 1 objectInit ∈ G := inG 100 (by decide +kernel) (by decide +kernel)
theorem cl_X7_7 : Cond.classLink RX7 7 RX5 ∈ G := inG 103 (by decide +kernel) (by decide +kernel)
theorem ns_X5 : Cond.instantiable RX5 2 ∈ G := inG 104 (by decide +kernel) (by decide +kernel)
theorem im_X5_init : Cond.instanceMethod yX5_init ∈ G := inG 106 (by decide +kernel) (by decide +kernel)
theorem lo_X5 : Cond.methodLink RX5 3 objectInit ∈ G := inG 108 (by decide +kernel) (by decide +kernel)
theorem cl_X7_16 : Cond.classLink RX7 16 RX6 ∈ G := inG 117 (by decide +kernel) (by decide +kernel)
theorem ns_X6 : Cond.instantiable RX6 4 ∈ G := inG 118 (by decide +kernel) (by decide +kernel)
theorem im_X6_init : Cond.instanceMethod yX6_init ∈ G := inG 120 (by decide +kernel) (by decide +kernel)
theorem lo_X6 : Cond.methodLink RX6 3 objectInit ∈ G := inG 122 (by decide +kernel) (by decide +kernel)
theorem cl_X7_23 : Cond.classLink RX7 23 RX2 ∈ G := inG 136 (by decide +kernel) (by decide +kernel)
theorem ns_X2 : Cond.instantiable RX2 13 ∈ G := inG 137 (by decide +kernel) (by decide +kernel)
theorem im_X2_init : Cond.instanceMethod yX2_init ∈ G := inG 139 (by decide +kernel) (by decide +kernel)
theorem lo_X2 : Cond.methodLink RX2 3 objectInit ∈ G := inG 141 (by decide +kernel) (by decide +kernel)
theorem cl_X2_9 : Cond.classLink RX2 9 RX1 ∈ G := inG 142 (by decide +kernel) (by decide +kernel)
theorem ns_X1 : Cond.instantiable RX1 2 ∈ G := inG 143 (by decide +kernel) (by decide +kernel)
theorem im_X1_init : Cond.instanceMethod yX1_init ∈ G := inG 145 (by decide +kernel) (by decide +kernel)
theorem lo_X1 : Cond.methodLink RX1 1 objectInit ∈ G := inG 147 (by decide +kernel) (by decide +kernel)
theorem cl_X2_18 : Cond.classLink RX2 18 RX4 ∈ G := inG 156 (by decide +kernel) (by decide +kernel)
theorem ns_X4 : Cond.instantiable RX4 2 ∈ G := inG 157 (by decide +kernel) (by decide +kernel)
theorem im_X4_init : Cond.instanceMethod yX4_init ∈ G := inG 159 (by decide +kernel) (by decide +kernel)
theorem lo_X4 : Cond.methodLink RX4 1 objectInit ∈ G := inG 161 (by decide +kernel) (by decide +kernel)
theorem cl_X2_58 : Cond.classLink RX2 58 RX3 ∈ G := inG 169 (by decide +kernel) (by decide +kernel)
theorem ns_X3 : Cond.instantiable RX3 4 ∈ G := inG 170 (by decide +kernel) (by decide +kernel)
theorem im_X3_init : Cond.instanceMethod yX3_init ∈ G := inG 172 (by decide +kernel) (by decide +kernel)
theorem lo_X3 : Cond.methodLink RX3 3 objectInit ∈ G := inG 174 (by decide +kernel) (by decide +kernel)
theorem cl_X3_9 : Cond.classLink RX3 9 "[[I" ∈ G := inG 175 (by decide +kernel) (by decide +kernel)
theorem cl_X7_32 : Cond.classLink RX7 32 RX0 ∈ G := inG 230 (by decide +kernel) (by decide +kernel)
theorem ns_X0 : Cond.instantiable RX0 3 ∈ G := inG 231 (by decide +kernel) (by decide +kernel)
theorem im_X0_init : Cond.instanceMethod yX0_init ∈ G := inG 233 (by decide +kernel) (by decide +kernel)
theorem lo_X0 : Cond.methodLink RX0 3 objectInit ∈ G := inG 235 (by decide +kernel) (by decide +kernel)
theorem cl_J7_317 : Cond.classLink RJ7 317 "[I" ∈ G := inG 452 (by decide +kernel) (by decide +kernel)
theorem cl_L_10 : Cond.classLink RL 10 RX8 ∈ G := inG 783 (by decide +kernel) (by decide +kernel)
theorem ns_X8 : Cond.instantiable RX8 31 ∈ G := inG 784 (by decide +kernel) (by decide +kernel)
theorem im_X8_init : Cond.instanceMethod yX8_init ∈ G := inG 786 (by decide +kernel) (by decide +kernel)
theorem lo_X8 : Cond.methodLink RX8 1 objectInit ∈ G := inG 788 (by decide +kernel) (by decide +kernel)
