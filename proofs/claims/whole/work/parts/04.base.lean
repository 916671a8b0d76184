def G : List Cond := lw_tbl.filter goodWord
theorem inG {w : Cond} (i : Nat) (h : lw_tbl[i]? = some w) (hg : goodWord w = true) : w ∈ G := List.mem_filter.mpr ⟨List.mem_of_getElem? h, hg⟩
theorem G_tbl {w : Cond} (h : w ∈ G) : w ∈ lw_tbl := (List.mem_filter.mp h).1
/-- the links of nest mates: said apart -/
def nestL : List (String × Nat × MethodName × String) := [(RX7, 9, yX5_init, RX7), (RX7, 18, yX6_init, RX7), (RX2, 11, yX1_init, RX7), (RX2, 20, yX4_init, RX7), (RX7, 34, yX0_init, RX7), (RX2, 125, yX7_packedWord, RX7), (RX3, 77, yX7_packedWord, RX7), (RX0, 42, yX7_packedWord, RX7)]
def Nst (U : State) : Prop := ∀ q ∈ nestL, va_Nw (.methodLinkNest q.1 q.2.1 q.2.2.1 q.2.2.2) U
theorem Nst.moved {s U : State} (hw : s.WarmedH U.vm) (h : Nst s) : Nst U := fun q hq => va_Nw.warmM hw (h q hq)
theorem Nst.same {s U : State} (e : s.vm = U.vm) (h : Nst s) : Nst U := fun q hq => va_Nw.same rfl e (h q hq)
theorem G_ok {y : MethodName} {cc : ByteArray} {n : Nat} {ret : Option FieldType} (h : Cond.code y cc n ret ∈ G) : GoodIn G (Cond.code y cc n ret :: G) := fun w hw => by
  have hm : w ∈ G := by
    rcases List.mem_cons.mp hw with e | e
    · rw [e]; exact h
    · exact e
  exact ⟨hm, good_of_word (List.mem_filter.mp hm).2⟩
/-- all fuel that a loop needs -/
theorem FU_ex : ∃ n : Nat, 1000000 ≤ n := ⟨1000000, Nat.le_refl _⟩
noncomputable def FU : Nat := Classical.choose FU_ex
theorem FU_big : 1000000 ≤ FU := Classical.choose_spec FU_ex
/-- a state: numbers, rows of numbers, longs, lengths -/
abbrev St : Type := (Nat → Int32) × (Nat → Nat → Int32) × (Nat → Int64) × (Nat → Nat)
def sI (st : St) (k : Nat) (v : Int32) : St := (va_up st.1 k v, st.2)
def sA (st : St) (c i : Nat) (v : Int32) : St := (st.1, va_up st.2.1 c (upd (st.2.1 c) i v), st.2.2)
def sJ (st : St) (i : Nat) (v : Int64) : St := (st.1, st.2.1, vp_updL st.2.2.1 i v, st.2.2.2)
def inb (i : Int32) (n : Nat) : Bool := decide (0 ≤ i.toInt ∧ i.toInt < n)
theorem inb_in {i : Int32} {n : Nat} (h : inb i n = true) : vp_in i n := vp_in_iff.mpr (of_decide_eq_true h)
theorem ite_n {α : Type} {c : Prop} {x : Decidable c} {a : Option α} {r : α} (h : (@ite _ c x a none) = some r) : c ∧ a = some r := by
  by_cases hc : c
  · rw [if_pos hc] at h; exact ⟨hc, h⟩
  · rw [if_neg hc] at h; cases h
theorem ite_t {α : Type} {c : Prop} {x : Decidable c} {a b : Option α} {r : α} (hc : c) (h : (@ite _ c x a b) = some r) : a = some r := by
  rw [if_pos hc] at h; exact h
theorem ite_f {α : Type} {c : Prop} {x : Decidable c} {a b : Option α} {r : α} (hc : ¬ c) (h : (@ite _ c x a b) = some r) : b = some r := by
  rw [if_neg hc] at h; exact h
theorem bnd {α β : Type} {o : Option α} {f : α → Option β} {r : β} (h : o.bind f = some r) : ∃ a, o = some a ∧ f a = some r := Option.bind_eq_some_iff.mp h
/-- cells by number -/
def cw (ad : Nat → Nat) (E : Nat → va_E) (n : Nat) : va_W := (List.range n).map (fun c => (ad c, E c))
theorem cw_at {ad : Nat → Nat} {E : Nat → va_E} {n c : Nat} (h : c < n) : (cw ad E n)[c]? = some (ad c, E c) := by
  unfold cw
  rw [List.getElem?_map, List.getElem?_range h]
  rfl
theorem cw_ate {ad : Nat → Nat} {E : Nat → va_E} {n c : Nat} {x : va_E} (h : c < n) (he : E c = x) : (cw ad E n)[c]? = some (ad c, x) := by
  rw [← he]; exact cw_at h
theorem cw_out {ad : Nat → Nat} {E : Nat → va_E} {n c : Nat} (h : ¬ c < n) : (cw ad E n)[c]? = none := by
  unfold cw
  apply List.getElem?_eq_none
  rw [List.length_map, List.length_range]
  omega
theorem cw_set {ad : Nat → Nat} {E E' : Nat → va_E} {n c : Nat} {x : va_E} (h : c < n) (hc : E' c = x) (ho : ∀ j, j < n → j ≠ c → E' j = E j) : (cw ad E n).set c (ad c, x) = cw ad E' n := by
  apply List.ext_getElem?
  intro j
  rw [List.getElem?_set]
  by_cases hj : j < n
  · by_cases e : c = j
    · subst e
      rw [if_pos rfl, cw_at hj, hc]
      have hl : c < (cw ad E n).length := by unfold cw; rw [List.length_map, List.length_range]; exact h
      rw [if_pos hl]
    · rw [if_neg e, cw_at hj, cw_at hj, ho j hj (fun q => e q.symm)]
  · have hl : (cw ad E' n)[j]? = none := cw_out hj
    rw [hl, if_neg (by omega), cw_out hj]
abbrev Ev : Type := va_G × (ClassId × ClassId × ClassId × ClassId)
abbrev tyL (V : Ev) : List (ClassId × FieldType) := [(V.2.1, .int), (V.2.2.1, .long), (V.2.2.2.1, .boolean), (V.2.2.2.2, .array .int)]
/-- what stands at each step of a method -/
def Cx (V : Ev) (A : Nat → Prop) (cc : ByteArray) (nL : Nat) (own : String) (p : Program) (m : MethodId) (c : Code) (s : State) (args : Array Value) : Prop :=
  CallFix p m c cc nL s args G own ∧ va_K V.1 vwCl (tyL V) s ∧ (∀ q, s.heap.size ≤ q → A q) ∧ Nst s
def Pw (V : Ev) (A : Nat → Prop) (Wd : St → Heap → Prop) (st : St) (av : List Value) : Array Value → State → Prop := va_Pc av (fun U => Wd st U.heap ∧ va_K V.1 vwCl (tyL V) U ∧ (∀ q, U.heap.size ≤ q → A q) ∧ Nst U)
theorem Pw_blind {V : Ev} {A : Nat → Prop} {Wd : St → Heap → Prop} {st : St} {av : List Value} : FrameBlind (Pw V A Wd st av) := fun a U g mk h => by
  obtain ⟨h0, h1, h2, h3, h4⟩ := h
  exact ⟨h0, h1, va_K.moved (u := U) (U := U.calling g mk a) (Vm.Alike.refl U.vm) h2, h3, h4.same rfl⟩
theorem Pw_at {V : Ev} {A : Nat → Prop} {Wd : St → Heap → Prop} {st : St} {av : List Value} {s : State} {H : Heap} {locs : List Loc} (hW : Wd st H) (hK : va_K V.1 vwCl (tyL V) s) (hA : ∀ q, s.heap.size ≤ q → A q) (hN : Nst s) (hS : va_S A s.heap H locs) : ∀ U : State, U.heap = H → s.WarmedH U.vm → Pw V A Wd st av av.toArray U := fun U hU hw =>
  ⟨rfl, by rw [hU]; exact hW, va_K.moved hw.alike hK, fun q hq => hA q (Nat.le_trans hS.1 (by rw [← hU]; exact hq)), hN.moved hw⟩
abbrev Qwi (A : Nat → Prop) (Wd : St → Heap → Prop) (r : Int32) (st' : St) := va_Qi (fun (r' : Int32) (_ : Unit) => r' = r) (fun _ t => Wd st' t.heap) A
abbrev Qwl (A : Nat → Prop) (Wd : St → Heap → Prop) (r : Int64) (st' : St) := va_Ql (fun (r' : Int64) (_ : Unit) => r' = r) (fun _ t => Wd st' t.heap) A
abbrev Qwv (A : Nat → Prop) (Wd : St → Heap → Prop) (st' : St) := va_Qv (fun (_ : Unit) => True) (fun _ t => Wd st' t.heap) A
abbrev Qwr (A : Nat → Prop) (Wd : St → Heap → Prop) (r : Nat) (st' : St) := va_Qr (fun (_ : Unit) => True) (fun _ a t => a = r ∧ Wd st' t.heap) A
abbrev rmF (fr lo mc ms : Nat) : Room := { frames := fr, cells := mc, slots := ms, locals := lo }
abbrev Cn (l : Launch) (y : MethodName) (cc : ByteArray) (n : Nat) (ret : Option FieldType) (fr lo mc ms : Nat) (V : Ev) (A : Nat → Prop) (Wd : St → Heap → Prop) (st : St) (av : List Value) (Qc : Array Value → State → Outcome → State → Prop) : Prop :=
  Met l y (Cond.code y cc n ret :: G) (rmF fr lo mc ms) (Pw V A Wd st av) Qc mc ms A
/-- a method's words: of an instance's, of a static one -/
def Mwv (y : MethodName) (cc : ByteArray) (n k : Nat) (ret : Option FieldType) : Prop := Cond.code y cc n ret ∈ G ∧ Cond.instanceMethod y ∈ G ∧ Cond.selects y.cls y y ∈ G ∧ Cond.initialized y.cls ∈ G ∧ (y.cls ≠ "java/lang/invoke/MethodHandle" ∧ y.cls ≠ "java/lang/invoke/VarHandle" ∧ (parseMethodDescriptor y.desc).map (fun d => d.parameters.length) = some k)
def Mws (y : MethodName) (cc : ByteArray) (n k : Nat) (ret : Option FieldType) : Prop := Cond.code y cc n ret ∈ G ∧ Cond.static y ∈ G ∧ Cond.initialized y.cls ∈ G ∧ (y.cls ≠ "java/lang/invoke/MethodHandle" ∧ y.cls ≠ "java/lang/invoke/VarHandle" ∧ (parseMethodDescriptor y.desc).map (fun d => d.parameters.length) = some k)
section BASE
variable {p : Program} {l : Launch} {e : Env} {R : Room} {s : State} {m : MethodId} {args : Array Value} {below : List Frame} {meth : Method} {c : Code} {H : Heap} {locs : List Loc} {cells slots : Nat} {Q : State → Prop}
variable {pc : Nat} {ls : Array Slot} {rest stk As : List Value} {cc bytes : ByteArray} {nL maxL idx n fr lo mc ms b : Nat} {own host : String} {V : Ev} {A : Nat → Prop} {Wd : St → Heap → Prop} {st st' : St} {y : MethodName} {ret : Option FieldType} {Qc : Array Value → State → Outcome → State → Prop}
theorem Cx.hx (X : Cx V A cc nL own p m c s args) : p.tables.exec = Jvm.exec := X.1.1
theorem Cx.hb (X : Cx V A cc nL own p m c s args) : c.code = cc := X.1.2.1
theorem Cx.hml (X : Cx V A cc nL own p m c s args) : c.maxLocals = nL := X.1.2.2.1
theorem Cx.ho (X : Cx V A cc nL own p m c s args) : s.vm.findClass own = some m.cls := X.1.2.2.2.1
theorem Cx.ts (X : Cx V A cc nL own p m c s args) {w : Cond} (h : w ∈ G) : w.before args s = true := X.1.2.2.2.2 w h
theorem Cx.hK (X : Cx V A cc nL own p m c s args) : va_K V.1 vwCl (tyL V) s := X.2.1
theorem Cx.hA (X : Cx V A cc nL own p m c s args) : ∀ q, s.heap.size ≤ q → A q := X.2.2.1
theorem Cx.hN (X : Cx V A cc nL own p m c s args) : Nst s := X.2.2.2
/-- an object's cell of a class -/
def Rcv (s : State) (H : Heap) (C : String) (b : Nat) : Prop := ∃ cell : Cell, H[b]? = some cell ∧ cell.vm.isStatics = false ∧ s.vm.findClass C = some cell.cls
theorem run_V (X : Cx V A cc nL own p m c s args) (hM : Cn l y bytes maxL ret fr lo mc ms V A Wd st (.ref b :: As) Qc) (mw : Mwv y bytes maxL n ret) (hl : Cond.methodLink own idx y ∈ G) (hrc : Rcv s H y.cls b) (hW : Wd st H) (hS : va_S A s.heap H locs)
    (hn : As.length = n) (hsz : ls.size = nL) (hstk : stk = As.reverse ++ .ref b :: rest) (hcat : (rest.map fun v => v.category).sum ≤ 8) (hR : fr + 1 ≤ R.frames ∧ 8 + (maxL + 11) + lo ≤ R.locals) (hf : cells + mc ≤ R.cells ∧ slots + ms ≤ R.slots) (hdg : decode cc pc = .ok (.invokevirtual idx, 3)) :
    va_Run p l e R s m args below meth c H locs cells slots mc ms (F0 m pc ls stk) rest (Qc (Value.ref b :: As).toArray) A :=
  va_runV X.1 hM ⟨callB_of n X.1.2.2.2.2 (G_ok mw.1) rfl rfl rfl (X.ts mw.2.2.2.1) (X.ts hl) mw.2.2.2.2 hR, X.ts mw.2.1, X.ts mw.2.2.1⟩ ⟨Pw_blind, hrc, Pw_at hW X.hK X.hA X.hN hS⟩ rfl hn hsz hstk (lv_room hcat) hdg hf
theorem run_S (X : Cx V A cc nL own p m c s args) (hM : Cn l y bytes maxL ret fr lo mc ms V A Wd st As Qc) (mw : Mws y bytes maxL n ret) (hl : Cond.methodLink own idx y ∈ G) (hW : Wd st H) (hS : va_S A s.heap H locs)
    (hn : As.length = n) (hsz : ls.size = nL) (hstk : stk = As.reverse ++ rest) (hcat : (rest.map fun v => v.category).sum ≤ 8) (hR : fr + 1 ≤ R.frames ∧ 8 + (maxL + 11) + lo ≤ R.locals) (hf : cells + mc ≤ R.cells ∧ slots + ms ≤ R.slots) (hdg : decode cc pc = .ok (.invokestatic idx, 3)) :
    va_Run p l e R s m args below meth c H locs cells slots mc ms (F0 m pc ls stk) rest (Qc As.toArray) A :=
  va_runS X.1 hM ⟨callB_of n X.1.2.2.2.2 (G_ok mw.1) rfl rfl rfl (X.ts mw.2.2.1) (X.ts hl) mw.2.2.2 hR, X.ts mw.2.1⟩ ⟨Pw_blind, Pw_at hW X.hK X.hA X.hN hS⟩ rfl hn hsz hstk (lv_room hcat) hdg hf
theorem run_SN (X : Cx V A cc nL own p m c s args) (hM : Cn l y bytes maxL ret fr lo mc ms V A Wd st As Qc) (mw : Mws y bytes maxL n ret) (hl : (own, idx, y, host) ∈ nestL) (hW : Wd st H) (hS : va_S A s.heap H locs)
    (hn : As.length = n) (hsz : ls.size = nL) (hstk : stk = As.reverse ++ rest) (hcat : (rest.map fun v => v.category).sum ≤ 8) (hR : fr + 1 ≤ R.frames ∧ 8 + (maxL + 11) + lo ≤ R.locals) (hf : cells + mc ≤ R.cells ∧ slots + ms ≤ R.slots) (hdg : decode cc pc = .ok (.invokestatic idx, 3)) :
    va_Run p l e R s m args below meth c H locs cells slots mc ms (F0 m pc ls stk) rest (Qc As.toArray) A :=
  va_runSN (host := host) X.1 hM ⟨va_cnB n X.1.2.2.2.2 (G_ok mw.1) rfl rfl rfl (X.hN _ hl) (X.ts mw.2.2.1) mw.2.2.2 hR, X.ts mw.2.1, trivial⟩ ⟨Pw_blind, Pw_at hW X.hK X.hA X.hN hS⟩ rfl hn hsz hstk (lv_room hcat) hdg hf
theorem cl_i {r : Int32} {a : Array Value} (hr : va_Run p l e R s m args below meth c H locs cells slots mc ms (F0 m pc ls stk) rest (Qwi A Wd r st' a) A) (hS : va_S A s.heap H locs)
    (kk : ∀ (H : Heap) (locs : List Loc), Wd st' H → va_S A s.heap H locs → W p l e R s m args below meth c H locs (cells + mc) (slots + ms) Q (F0 m (pc + 3) ls (.int r :: rest))) : W p l e R s m args below meth c H locs cells slots Q (F0 m pc ls stk) :=
  va_calli hr hS (fun _ _ h => h) (fun _ h => h) (fun r2 u t H1 locs1 ht hvm hp hB _ _ hS => by
    subst hp
    rw [ht] at hB
    exact kk H1 locs1 hB hS)
theorem cl_l {r : Int64} {a : Array Value} (hr : va_Run p l e R s m args below meth c H locs cells slots mc ms (F0 m pc ls stk) rest (Qwl A Wd r st' a) A) (hS : va_S A s.heap H locs)
    (kk : ∀ (H : Heap) (locs : List Loc), Wd st' H → va_S A s.heap H locs → W p l e R s m args below meth c H locs (cells + mc) (slots + ms) Q (F0 m (pc + 3) ls (.long r :: rest))) : W p l e R s m args below meth c H locs cells slots Q (F0 m pc ls stk) :=
  va_calll hr hS (fun _ _ h => h) (fun _ h => h) (fun r2 u t H1 locs1 ht hvm hp hB _ _ hS => by
    subst hp
    rw [ht] at hB
    exact kk H1 locs1 hB hS)
theorem cl_v {a : Array Value} (hr : va_Run p l e R s m args below meth c H locs cells slots mc ms (F0 m pc ls stk) rest (Qwv A Wd st' a) A) (hS : va_S A s.heap H locs)
    (kk : ∀ (H : Heap) (locs : List Loc), Wd st' H → va_S A s.heap H locs → W p l e R s m args below meth c H locs (cells + mc) (slots + ms) Q (F0 m (pc + 3) ls rest)) : W p l e R s m args below meth c H locs cells slots Q (F0 m pc ls stk) :=
  va_callv hr hS (fun _ _ h => h) (fun _ h => h) (fun u t H1 locs1 ht hvm hp hB _ _ hS => by
    rw [ht] at hB
    exact kk H1 locs1 hB hS)
theorem cl_r {r : Nat} {a : Array Value} (hr : va_Run p l e R s m args below meth c H locs cells slots mc ms (F0 m pc ls stk) rest (Qwr A Wd r st' a) A) (hS : va_S A s.heap H locs)
    (kk : ∀ (H : Heap) (locs : List Loc), Wd st' H → va_S A s.heap H locs → W p l e R s m args below meth c H locs (cells + mc) (slots + ms) Q (F0 m (pc + 3) ls (.ref r :: rest))) : W p l e R s m args below meth c H locs cells slots Q (F0 m pc ls stk) :=
  va_callr hr hS (fun _ _ h => h) (fun _ h => h) (fun u a t H1 locs1 ht hvm hp hB _ _ hS => by
    obtain ⟨rfl, hB⟩ := hB
    rw [ht] at hB
    exact kk H1 locs1 hB hS)
/-- ends -/
theorem rt_i {r v : Int32} (X : Cx V A cc nL own p m c s args) (hr : meth.sig.returnType = some .int) (hlocks : meth.locks = false) (hW : Wd st H) (hS : va_S A s.heap H locs) (hv : v = r) (h1 : cells ≤ mc) (h2 : slots ≤ ms) (hdg : decode cc pc = .ok (.ireturn, 1)) :
    W p l e R s m args below meth c H locs cells slots (MQ below (Qwi A Wd r st) args s mc ms A) (F0 m pc ls [.int v]) :=
  W.widen h1 h2 (W.iret (v := v) X.hx X.hb hr (fun t ht _ => ⟨⟨v, (), rfl, hv, by show Wd st t.heap; rw [ht]; exact hW⟩, hS.F ht⟩) hS.2.2 hdg)
theorem rt_z {r v : Int32} (X : Cx V A cc nL own p m c s args) (hr : meth.sig.returnType = some .boolean) (hlocks : meth.locks = false) (hW : Wd st H) (hS : va_S A s.heap H locs) (hz : v = 0 ∨ v = 1) (hv : v = r) (h1 : cells ≤ mc) (h2 : slots ≤ ms) (hdg : decode cc pc = .ok (.ireturn, 1)) :
    W p l e R s m args below meth c H locs cells slots (MQ below (Qwi A Wd r st) args s mc ms A) (F0 m pc ls [.int v]) :=
  W.widen h1 h2 (W.zret (v := v) X.hx X.hb hr (by rcases hz with h | h <;> rw [h] <;> decide) (fun t ht _ => ⟨⟨v, (), rfl, hv, by show Wd st t.heap; rw [ht]; exact hW⟩, hS.F ht⟩) hS.2.2 hdg)
theorem rt_l {r v : Int64} (X : Cx V A cc nL own p m c s args) (hr : meth.sig.returnType = some .long) (hlocks : meth.locks = false) (hW : Wd st H) (hS : va_S A s.heap H locs) (hv : v = r) (h1 : cells ≤ mc) (h2 : slots ≤ ms) (hdg : decode cc pc = .ok (.lreturn, 1)) :
    W p l e R s m args below meth c H locs cells slots (MQ below (Qwl A Wd r st) args s mc ms A) (F0 m pc ls [.long v]) :=
  W.widen h1 h2 (W.lret (v := v) X.hx X.hb hr (fun t ht _ => ⟨⟨v, (), rfl, hv, by show Wd st t.heap; rw [ht]; exact hW⟩, hS.F ht⟩) hS.2.2 hdg)
theorem rt_v (X : Cx V A cc nL own p m c s args) (hr : meth.sig.returnType = none) (hlocks : meth.locks = false) (hW : Wd st H) (hS : va_S A s.heap H locs) (h1 : cells ≤ mc) (h2 : slots ≤ ms) (hdg : decode cc pc = .ok (.return_, 1)) :
    W p l e R s m args below meth c H locs cells slots (MQ below (Qwv A Wd st) args s mc ms A) (F0 m pc ls []) :=
  W.widen h1 h2 (W.vret X.hx X.hb hr (fun t ht _ => ⟨⟨(), rfl, trivial, by show Wd st t.heap; rw [ht]; exact hW⟩, hS.F ht⟩) hS.2.2 hdg)
theorem rt_r {r : Nat} {C : String} (X : Cx V A cc nL own p m c s args) (hr : meth.sig.returnType = some (.object C)) (hlocks : meth.locks = false) (hW : Wd st H) (hS : va_S A s.heap H locs) {v : Nat} (hv : v = r) (h1 : cells ≤ mc) (h2 : slots ≤ ms) (hdg : decode cc pc = .ok (.areturn, 1)) :
    W p l e R s m args below meth c H locs cells slots (MQ below (Qwr A Wd r st) args s mc ms A) (F0 m pc ls [.ref v]) :=
  W.widen h1 h2 (W.aret (v := .ref v) X.hx X.hb hr (Or.inl ⟨_, rfl⟩) (Or.inr ⟨_, rfl⟩) (fun t ht _ => ⟨⟨(), v, rfl, trivial, hv, by show Wd st t.heap; rw [ht]; exact hW⟩, hS.F ht⟩) hS.2.2 hdg)
/-- a method's start: its contract out of the walk from its entry -/
theorem cn_of {cc : ByteArray} {av : List Value} (own : String) (hy : plainName y.cls = true) (ho : y.cls = own)
    (body : ∀ (p : Program) (e : Env) (s : State) (m : MethodId) (below : List Frame) (meth : Method) (c : Code) (ls : Array Slot), Cx V A cc maxL own p m c s av.toArray → meth.sig.returnType = ret → meth.locks = false → Wd st s.heap → va_S A s.heap s.heap [] → lv_has ls maxL (lv_args 0 av) →
      W p l e (rmF fr lo mc ms) s m av.toArray below meth c s.heap [] 0 0 (MQ below Qc av.toArray s mc ms A) (F0 m 0 ls [])) (hle : (lg_sl av).length ≤ maxL) : Cn l y cc maxL ret fr lo mc ms V A Wd st av Qc := by
  refine Met.ofW (cc := cc) (maxL := maxL) (ret := ret) hy rfl ?_
  intro p e s m args below meth c s₁ B hml hv
  obtain ⟨rfl, hW, hK, hA, hN⟩ := hv
  have hts := atoms_spec (ws := Cond.code y cc maxL ret :: G) B.pre
  have hown : s.vm.findClass own = some m.cls := by rw [← ho]; exact findClass_of_methodNamed B.named
  have hl := lv_entry av (n := maxL) hle
  rw [lg_entry_eq]
  generalize (lg_sl av ++ List.replicate (maxL - (lg_sl av).length) Slot.unset).toArray = ls at hl ⊢
  exact body p e s m below meth c ls ⟨⟨B.exec, B.bytes, hml, hown, fun w hw => hts w (List.mem_cons_of_mem _ hw)⟩, hK, hA, hN⟩ B.returns B.notSynchronized hW va_S.rf hl
end BASE
