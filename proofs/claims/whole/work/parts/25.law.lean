/-! THE CLAIM OUT OF ONE WALK OF THE LAW'S BODY. Your part is whole_start (and what it stands on); all else here is the same for every law, but numbers. -/
def R_law : String := "WordSquaresLaw"
def lw_P (b : Addr) (xs : List Int32) (args : Array Value) (s : State) : Prop := args = #[.ref b] ∧ s.IntsAt b xs ∧ xs.length ≤ 2048 ∧ (Jvm.Cond.and given_1 narrow_1).before args s = true
def lw_Q (_ : Array Value) (s : State) (o : Outcome) (t : State) : Prop := o = .returned (some (.int 1)) ∧ Framed s o t [] 600000 7302250
def lw_Z (below : List Frame) (a : Array Value) (s : State) : State → Prop := fun t => ∃ o, t.status = .running ∧ Ended t below o ∧ lw_Q a s o t
/-- the law's own end, with 1 on the stack, nothing written that was there before, its room as the claim has it -/
theorem lw_ret {p : Program} {l : Launch} {e : Env} {s : State} {m : MethodId} {below : List Frame} {meth : Method} {c : Code} {b : Nat} (hx : p.tables.exec = Jvm.exec) (hb : c.code = code) (hr : meth.sig.returnType = ret) (hlocks : meth.locks = false) {pc : Nat} {H : Heap} {ls : Array Slot} (hdg : decode code pc = .ok (.ireturn, 1)) : W p l e room_1 s m #[Value.ref b] below meth c H [] 600000 7302250 (lw_Z below #[Value.ref b] s) (F0 m pc ls [.int 1]) := by
  intro T hT X
  obtain ⟨fs, hret, hrun, hended, hW, hframe⟩ := X.leave (v := some (.int 1)) (hlocks := hlocks) (fun h => by rw [hr] at h; cases h)
  have hmeth' : T.vm.method? m = some meth := X.method'
  refine ⟨T.setFrames fs, ?_, .returned (some (.int 1)), hrun, hended, rfl, ⟨_, rfl⟩, hW, hframe⟩
  jvm_step X.here [X.here.top, hx, hb, hdg, hmeth', hr, ret, narrow_b1]
  (try refine ⟨rfl, ?_⟩); (try refine ⟨rfl, ?_⟩)
  first | (intro acts; rw [hret _ acts rfl rfl rfl]) | rw [hret _ _ rfl rfl rfl]
  exact Steps.refl _
/-- what holds at the law's entry: the machine, the code, the tables' words (any of lw_tbl by 'hts w (by decide +kernel)'), the script of L ints xs at the cell b, what the Statement gives of the start (any of its parts by flat_of_before) -/
def lw_At (p : Program) (s : State) (m : MethodId) (meth : Method) (c : Code) (b L : Nat) (xs : Nat → Int32) : Prop :=
  p.tables.exec = Jvm.exec ∧ c.code = code ∧ meth.sig.returnType = ret ∧ c.maxLocals = 4 ∧ s.vm.findClass R_law = some m.cls ∧ (∀ w ∈ lw_tbl, w.before #[Value.ref b] s = true) ∧ va_X b L xs s s.heap ∧ b < s.heap.size ∧ meth.locks = false ∧ (Jvm.Cond.and given_1 narrow_1).before #[Value.ref b] s = true

/-! what the law asks of each call: class and reference answer alike, and stay alike -/
def Op_0 (Rel : St → St → Prop) : Prop := ∀ (c m : St) (a1 : Int32), Rel c m → ∃ (r : Int32) (c' : St) (m' : St), f_X7_letter c a1 = some (r, c') ∧ f_X8_letter m a1 = some (r, m') ∧ Rel c' m'
def Op_1 (Rel : St → St → Prop) : Prop := ∀ (c m : St), Rel c m → ∃ (r : Int32) (c' : St) (m' : St), f_X7_blank c = some (r, c') ∧ f_X8_blank m = some (r, m') ∧ Rel c' m'
def Op_2 (Rel : St → St → Prop) : Prop := ∀ (c m : St), Rel c m → ∃ (r : Int32) (m' : St), f_X7_fault c = some r ∧ f_X8_fault m = some (r, m') ∧ Rel c m'
def Op_3 (Rel : St → St → Prop) : Prop := ∀ (c m : St), Rel c m → ∃ (r : Int32) (c' : St) (m' : St), f_X7_words c = some (r, c') ∧ f_X8_words m = some (r, m') ∧ Rel c' m'
def Op_4 (Rel : St → St → Prop) : Prop := ∀ (c m : St) (a1 : Int32), Rel c m → ∃ (r : Int32) (c' : St) (m' : St), f_X7_strike c a1 = some (r, c') ∧ f_X8_strike m a1 = some (r, m') ∧ Rel c' m'
def Op_5 (Rel : St → St → Prop) : Prop := ∀ (c m : St) (a1 : Int32) (a2 : Int32), Rel c m → ∃ (r : Int32) (c' : St) (m' : St), f_X7_weigh c a1 a2 = some (r, c') ∧ f_X8_weigh m a1 a2 = some (r, m') ∧ Rel c' m'
def Op_6 (Rel : St → St → Prop) : Prop := ∀ (c m : St) (a1 : Int32), Rel c m → ∃ (r : Int32), f_X7_about c a1 = some r ∧ f_X8_about m a1 = some r ∧ Rel c m
def Op_7 (Rel : St → St → Prop) : Prop := ∀ (c m : St) (a1 : Int32) (a2 : Int32), Rel c m → ∃ (r : Int32) (m' : St), f_X7_word c a1 a2 = some r ∧ f_X8_word m a1 a2 = some (r, m') ∧ Rel c m'
def Op_8 (Rel : St → St → Prop) : Prop := ∀ (c m : St) (a1 : Int32) (a2 : Int32), Rel c m → ∃ (r : Int32), f_X7_sign c a1 a2 = some r ∧ f_X8_sign m a1 a2 = some r ∧ Rel c m
def Op_9 (Rel : St → St → Prop) : Prop := ∀ (c m : St) (a1 : Int32) (a2 : Int32), Rel c m → ∃ (r : Int32), f_X7_begins c a1 a2 = some r ∧ f_X8_begins m a1 a2 = some r ∧ Rel c m
def Op_10 (Rel : St → St → Prop) : Prop := ∀ (c m : St) (a1 : Int32), Rel c m → ∃ (r : Int32) (m' : St), f_X7_squares c a1 = some r ∧ f_X8_squares m a1 = some (r, m') ∧ Rel c m'
def Op_11 (Rel : St → St → Prop) : Prop := ∀ (c m : St) (a1 : Int32) (a2 : Int32) (a3 : Int32), Rel c m → ∃ (r : Int32) (m' : St), f_X7_row c a1 a2 a3 = some r ∧ f_X8_row m a1 a2 a3 = some (r, m') ∧ Rel c m'
def Op_12 (Rel : St → St → Prop) : Prop := ∀ (c m : St) (a1 : Int32), Rel c m → ∃ (r : Int32) (m' : St), f_X7_turned c a1 = some r ∧ f_X8_turned m a1 = some (r, m') ∧ Rel c m'
def Op_13 (Rel : St → St → Prop) : Prop := ∀ (c m : St) (a1 : Int32), Rel c m → ∃ (r : Int32) (c' : St) (m' : St), f_X7_heaviest c a1 = some (r, c') ∧ f_X8_heaviest m a1 = some (r, m') ∧ Rel c' m'
def Op_14 (Rel : St → St → Prop) : Prop := ∀ (c m : St) (a1 : Int32), Rel c m → ∃ (r : Int32) (m' : St), f_X7_heavy c a1 = some r ∧ f_X8_heavy m a1 = some (r, m') ∧ Rel c m'
def Op_15 (Rel : St → St → Prop) : Prop := ∀ (c m : St) (a1 : Int32) (a2 : Int32), Rel c m → ∃ (r : Int32) (c' : St) (m' : St), f_X7_put c a1 a2 = some (r, c') ∧ f_X8_put m a1 a2 = some (r, m') ∧ Rel c' m'
def Op_16 (Rel : St → St → Prop) : Prop := ∀ (c m : St) (a1 : Int32), Rel c m → ∃ (r : Int32) (c' : St) (m' : St), f_X7_lift c a1 = some (r, c') ∧ f_X8_lift m a1 = some (r, m') ∧ Rel c' m'
def Op_17 (Rel : St → St → Prop) : Prop := ∀ (c m : St) (a1 : Int32), Rel c m → ∃ (r : Int32), f_X7_board c a1 = some r ∧ f_X8_board m a1 = some r ∧ Rel c m
def Op_18 (Rel : St → St → Prop) : Prop := ∀ (c m : St), Rel c m → ∃ (r : Int32) (c' : St) (m' : St), f_X7_fitting c = some (r, c') ∧ f_X8_fitting m = some (r, m') ∧ Rel c' m'
def Op_19 (Rel : St → St → Prop) : Prop := ∀ (c m : St) (a1 : Int32), Rel c m → ∃ (r : Int32) (c' : St) (m' : St), f_X7_may c a1 = some (r, c') ∧ f_X8_may m a1 = some (r, m') ∧ Rel c' m'
def Op_20 (Rel : St → St → Prop) : Prop := ∀ (c m : St) (a1 : Int32) (a2 : Int32), Rel c m → ∃ (r : Int32) (c' : St) (m' : St), f_X7_sure c a1 a2 = some (r, c') ∧ f_X8_sure m a1 a2 = some (r, m') ∧ Rel c' m'
def Op_21 (Rel : St → St → Prop) : Prop := ∀ (c m : St) (a1 : Int32), Rel c m → ∃ (r : Int32) (m' : St), f_X7_search c a1 = some r ∧ f_X8_search m a1 = some (r, m') ∧ Rel c m'
def Op_22 (Rel : St → St → Prop) : Prop := ∀ (c m : St) (a1 : Int32), Rel c m → ∃ (r : Int32), f_X7_count c a1 = some r ∧ f_X8_count m a1 = some r ∧ Rel c m
def Op_23 (Rel : St → St → Prop) : Prop := ∀ (c m : St), Rel c m → ∃ (r : Int64) (c' : St) (m' : St), f_X7_digest c = some (r, c') ∧ f_X8_digest m = some (r, m') ∧ Rel c' m'
def Ops (Rel : St → St → Prop) : Prop := Op_0 Rel ∧ Op_1 Rel ∧ Op_2 Rel ∧ Op_3 Rel ∧ Op_4 Rel ∧ Op_5 Rel ∧ Op_6 Rel ∧ Op_7 Rel ∧ Op_8 Rel ∧ Op_9 Rel ∧ Op_10 Rel ∧ Op_11 Rel ∧ Op_12 Rel ∧ Op_13 Rel ∧ Op_14 Rel ∧ Op_15 Rel ∧ Op_16 Rel ∧ Op_17 Rel ∧ Op_18 Rel ∧ Op_19 Rel ∧ Op_20 Rel ∧ Op_21 Rel ∧ Op_22 Rel ∧ Op_23 Rel ∧ ∀ c m, Rel c m → 192 ≤ phi c ∧ phi c ≤ 124416
def AC (sz : Nat) (aM : Nat → Nat) : Nat → Prop := fun q => sz ≤ q ∧ ∀ j, j < 18 → q ≠ aM j
/-- both worlds, apart -/
def LW (V : Ev) (aC aM : Nat → Nat) (sz : Nat) (c m : St) (H : Heap) : Prop := WdC V aC (AC sz aM) c H ∧ va_P V.1 vwCl (cw aM (mE V aM m) 18) H ∧ va_D (fun q => sz ≤ q) (cw aM (mE V aM m) 18)
def AM (aM : Nat → Nat) (h : Nat) : Nat → Prop := fun q => (∃ j, j < 18 ∧ q = aM j) ∨ h ≤ q
theorem LW.lt {V : Ev} {aC aM : Nat → Nat} {sz : Nat} {c m : St} {H : Heap} (h : LW V aC aM sz c m H) : ∀ j, j < 18 → aM j < H.size := fun j hj => (h.2.1 j _ (cw_at hj)).lt
theorem LW.ge {V : Ev} {aC aM : Nat → Nat} {sz : Nat} {c m : St} {H : Heap} (h : LW V aC aM sz c m H) : ∀ j, j < 18 → sz ≤ aM j := fun j hj => h.2.2.2 j _ (cw_at hj)
theorem LW.afterC {V : Ev} {aC aM : Nat → Nat} {sz : Nat} {c m c' : St} {H H1 : Heap} (h : LW V aC aM sz c m H) (hW : WdC V aC (AC sz aM) c' H1) (hk : ∀ q : Nat, q < H.size → ¬ AC sz aM q → H1[q]? = H[q]?) : LW V aC aM sz c' m H1 := by
  refine ⟨hW, h.2.1.kept (fun k q hq => ?_), h.2.2⟩
  by_cases hn : k < 18
  · rw [cw_at hn] at hq
    cases hq
    exact hk _ (h.lt k hn) (fun g => g.2 k hn rfl)
  · rw [cw_out hn] at hq
    cases hq
theorem LW.wdM {V : Ev} {aC aM : Nat → Nat} {sz : Nat} {c m : St} {H : Heap} (h : LW V aC aM sz c m H) : WdM V aM (AM aM H.size) m H := by
  refine ⟨h.2.1, h.2.2.1, fun k q hq => ?_⟩
  by_cases hn : k < 18
  · rw [cw_at hn] at hq
    cases hq
    exact Or.inl ⟨k, hn, rfl⟩
  · rw [cw_out hn] at hq
    cases hq
theorem LW.afterM {V : Ev} {aC aM : Nat → Nat} {sz : Nat} {c m m' : St} {H H1 : Heap} (h : LW V aC aM sz c m H) (hW : WdM V aM (AM aM H.size) m' H1) (hk : ∀ q : Nat, q < H.size → ¬ AM aM H.size q → H1[q]? = H[q]?) : LW V aC aM sz c m' H1 := by
  obtain ⟨⟨ad', ha, hP, hD⟩, hPm, hDm⟩ := h
  refine ⟨⟨ad', ha, hP.kept (fun k q hq => ?_), hD⟩, hW.1, hW.2.1, fun k q hq => ?_⟩
  · have hl := (hP k q hq).lt
    refine hk q.1 hl (fun g => ?_)
    rcases g with ⟨j, hj, e⟩ | g
    · exact (hD.2 k q hq).2 j hj e
    · omega
  · by_cases hn : k < 18
    · rw [cw_at hn] at hq
      cases hq
      exact hDm.2 k (aM k, mE V aM m k) (cw_at hn)
    · rw [cw_out hn] at hq
      cases hq
theorem lg_self (x : Int64) : lg_cmp x x = 0 := by
  unfold lg_cmp
  rw [if_neg (by exact Int64.lt_irrefl), if_pos rfl]
def LC (V : Ev) (p : Program) (m : MethodId) (c : Code) (s : State) (b L : Nat) (xs : Nat → Int32) : Prop := CallFix p m c cL_law 4 s #[Value.ref b] G RL ∧ va_K V.1 vwCl (tyL V) s ∧ Nst s ∧ va_X b L xs s s.heap ∧ b < s.heap.size
section LAW
variable {p : Program} {l : Launch} {e : Env} {s : State} {m : MethodId} {below : List Frame} {meth : Method} {c : Code} {H : Heap} {locs : List Loc} {cells slots : Nat} {Q : State → Prop} {pc : Nat} {ls : Array Slot} {rest stk As : List Value} {bytes : ByteArray} {maxL idx n fr lo mc ms b L : Nat} {V : Ev} {aC aM : Nat → Nat} {xs : Nat → Int32} {y : MethodName} {ret : Option FieldType} {C M : St} {Qc : Array Value → State → Outcome → State → Prop}
theorem run_L {A : Nat → Prop} {Wd : St → Heap → Prop} {st : St} {b9 : Nat} (X : LC V p m c s b L xs) (hM : Cn l y bytes maxL ret fr lo mc ms V A Wd st (.ref b9 :: As) Qc) (mw : Mwv y bytes maxL n ret) (hl : Cond.methodLink RL idx y ∈ G) (hrc : Rcv s H y.cls b9) (hW : Wd st H) (hA : ∀ q, H.size ≤ q → A q)
    (hn : As.length = n) (hsz : ls.size = 4) (hstk : stk = As.reverse ++ .ref b9 :: rest) (hcat : (rest.map fun v => v.category).sum ≤ 8) (hR : fr + 1 ≤ 2048 ∧ 8 + (maxL + 11) + lo ≤ 84000) (hf : cells + mc ≤ 600000 ∧ slots + ms ≤ 7302250) (hdg : decode cL_law pc = .ok (.invokevirtual idx, 3)) :
    va_Run p l e room_1 s m #[Value.ref b] below meth c H locs cells slots mc ms (F0 m pc ls stk) rest (Qc (Value.ref b9 :: As).toArray) A :=
  va_runV X.1 hM ⟨callB_of n X.1.2.2.2.2 (G_ok mw.1) rfl rfl rfl (X.1.2.2.2.2 _ mw.2.2.2.1) (X.1.2.2.2.2 _ hl) mw.2.2.2.2 hR, X.1.2.2.2.2 _ mw.2.1, X.1.2.2.2.2 _ mw.2.2.1⟩ ⟨Pw_blind, hrc, fun U hU hw => ⟨rfl, by rw [hU]; exact hW, va_K.moved hw.alike X.2.1, fun q hq => hA q (by rw [← hU]; exact hq), X.2.2.1.moved hw⟩⟩ rfl hn hsz hstk (lv_room hcat) hdg hf
theorem rcL7 (X : LC V p m c s b L xs) {A : Nat → Prop} (hW : WdC V aC A C H) : Rcv s H RX7 (aC 0) := by
  obtain ⟨ad', ha, hP, -⟩ := hW
  rw [← ha 0 (by decide)]
  exact va_recv X.2.1 hP (ci := 7) (q := (RX7, TX7, 9)) (q0 := 0) rfl (cw_ate (by decide) rfl)
theorem rcL8 (X : LC V p m c s b L xs) {A : Nat → Prop} (hW : WdM V aM A M H) : Rcv s H RX8 (aM 0) := va_recv X.2.1 hW.1 (ci := 8) (q := (RX8, TX8, 31)) (q0 := 0) rfl (cw_ate (by decide) rfl)
theorem lawC_i {r : Int32} {C' : St} (X : LC V p m c s b L xs) (hL : LW V aC aM s.heap.size C M H) (hS : va_S (fun q => s.heap.size ≤ q) s.heap H locs) (hM : Cn l y bytes maxL ret fr lo mc ms V (AC s.heap.size aM) (WdC V aC (AC s.heap.size aM)) C (.ref (aC 0) :: As) (Qwi (AC s.heap.size aM) (WdC V aC (AC s.heap.size aM)) r C')) (mw : Mwv y bytes maxL n ret) (hy : y.cls = RX7) (hl : Cond.methodLink RL idx y ∈ G)
    (hn : As.length = n) (hsz : ls.size = 4) (hstk : stk = As.reverse ++ .ref (aC 0) :: rest) (hcat : (rest.map fun v => v.category).sum ≤ 8) (hR : fr + 1 ≤ 2048 ∧ 8 + (maxL + 11) + lo ≤ 84000) (hf : cells + mc ≤ 600000 ∧ slots + ms ≤ 7302250) (hdg : decode cL_law pc = .ok (.invokevirtual idx, 3))
    (kk : ∀ (H : Heap) (locs : List Loc), LW V aC aM s.heap.size C' M H → va_S (fun q => s.heap.size ≤ q) s.heap H locs → W p l e room_1 s m #[Value.ref b] below meth c H locs (cells + mc) (slots + ms) Q (F0 m (pc + 3) ls (.int r :: rest))) : W p l e room_1 s m #[Value.ref b] below meth c H locs cells slots Q (F0 m pc ls stk) :=
  va_calli (run_L X hM mw hl (by rw [hy]; exact rcL7 X hL.1) hL.1 (fun q hq => ⟨Nat.le_trans hS.1 hq, fun j hj => by have := hL.lt j hj; omega⟩) hn hsz hstk hcat hR hf hdg) hS (fun _ _ h => h.1) (fun _ h => h.1) (fun r2 u t H1 locs1 ht hvm hp hB hz hk hS => by
    subst hp
    rw [ht] at hB
    exact kk H1 locs1 (hL.afterC hB hk) hS)
theorem lawM_i {r : Int32} {M' : St} (X : LC V p m c s b L xs) (hL : LW V aC aM s.heap.size C M H) (hS : va_S (fun q => s.heap.size ≤ q) s.heap H locs) (hM : Cn l y bytes maxL ret fr lo mc ms V (AM aM H.size) (WdM V aM (AM aM H.size)) M (.ref (aM 0) :: As) (Qwi (AM aM H.size) (WdM V aM (AM aM H.size)) r M')) (mw : Mwv y bytes maxL n ret) (hy : y.cls = RX8) (hl : Cond.methodLink RL idx y ∈ G)
    (hn : As.length = n) (hsz : ls.size = 4) (hstk : stk = As.reverse ++ .ref (aM 0) :: rest) (hcat : (rest.map fun v => v.category).sum ≤ 8) (hR : fr + 1 ≤ 2048 ∧ 8 + (maxL + 11) + lo ≤ 84000) (hf : cells + mc ≤ 600000 ∧ slots + ms ≤ 7302250) (hdg : decode cL_law pc = .ok (.invokevirtual idx, 3))
    (kk : ∀ (H : Heap) (locs : List Loc), LW V aC aM s.heap.size C M' H → va_S (fun q => s.heap.size ≤ q) s.heap H locs → W p l e room_1 s m #[Value.ref b] below meth c H locs (cells + mc) (slots + ms) Q (F0 m (pc + 3) ls (.int r :: rest))) : W p l e room_1 s m #[Value.ref b] below meth c H locs cells slots Q (F0 m pc ls stk) :=
  va_calli (run_L X hM mw hl (by rw [hy]; exact rcL8 X hL.wdM) hL.wdM (fun q hq => Or.inr hq) hn hsz hstk hcat hR hf hdg) hS (fun q hq h => by
    rcases h with ⟨j, hj, e⟩ | h
    · rw [e]; exact hL.ge j hj
    · omega) (fun q h => by
    rcases h with ⟨j, hj, e⟩ | h
    · rw [e]; exact hL.ge j hj
    · exact Nat.le_trans hS.1 h) (fun r2 u t H1 locs1 ht hvm hp hB hz hk hS => by
    subst hp
    rw [ht] at hB
    exact kk H1 locs1 (hL.afterM hB hk) hS)
theorem lawC_l {r : Int64} {C' : St} (X : LC V p m c s b L xs) (hL : LW V aC aM s.heap.size C M H) (hS : va_S (fun q => s.heap.size ≤ q) s.heap H locs) (hM : Cn l y bytes maxL ret fr lo mc ms V (AC s.heap.size aM) (WdC V aC (AC s.heap.size aM)) C (.ref (aC 0) :: As) (Qwl (AC s.heap.size aM) (WdC V aC (AC s.heap.size aM)) r C')) (mw : Mwv y bytes maxL n ret) (hy : y.cls = RX7) (hl : Cond.methodLink RL idx y ∈ G)
    (hn : As.length = n) (hsz : ls.size = 4) (hstk : stk = As.reverse ++ .ref (aC 0) :: rest) (hcat : (rest.map fun v => v.category).sum ≤ 8) (hR : fr + 1 ≤ 2048 ∧ 8 + (maxL + 11) + lo ≤ 84000) (hf : cells + mc ≤ 600000 ∧ slots + ms ≤ 7302250) (hdg : decode cL_law pc = .ok (.invokevirtual idx, 3))
    (kk : ∀ (H : Heap) (locs : List Loc), LW V aC aM s.heap.size C' M H → va_S (fun q => s.heap.size ≤ q) s.heap H locs → W p l e room_1 s m #[Value.ref b] below meth c H locs (cells + mc) (slots + ms) Q (F0 m (pc + 3) ls (.long r :: rest))) : W p l e room_1 s m #[Value.ref b] below meth c H locs cells slots Q (F0 m pc ls stk) :=
  va_calll (run_L X hM mw hl (by rw [hy]; exact rcL7 X hL.1) hL.1 (fun q hq => ⟨Nat.le_trans hS.1 hq, fun j hj => by have := hL.lt j hj; omega⟩) hn hsz hstk hcat hR hf hdg) hS (fun _ _ h => h.1) (fun _ h => h.1) (fun r2 u t H1 locs1 ht hvm hp hB hz hk hS => by
    subst hp
    rw [ht] at hB
    exact kk H1 locs1 (hL.afterC hB hk) hS)
theorem lawM_l {r : Int64} {M' : St} (X : LC V p m c s b L xs) (hL : LW V aC aM s.heap.size C M H) (hS : va_S (fun q => s.heap.size ≤ q) s.heap H locs) (hM : Cn l y bytes maxL ret fr lo mc ms V (AM aM H.size) (WdM V aM (AM aM H.size)) M (.ref (aM 0) :: As) (Qwl (AM aM H.size) (WdM V aM (AM aM H.size)) r M')) (mw : Mwv y bytes maxL n ret) (hy : y.cls = RX8) (hl : Cond.methodLink RL idx y ∈ G)
    (hn : As.length = n) (hsz : ls.size = 4) (hstk : stk = As.reverse ++ .ref (aM 0) :: rest) (hcat : (rest.map fun v => v.category).sum ≤ 8) (hR : fr + 1 ≤ 2048 ∧ 8 + (maxL + 11) + lo ≤ 84000) (hf : cells + mc ≤ 600000 ∧ slots + ms ≤ 7302250) (hdg : decode cL_law pc = .ok (.invokevirtual idx, 3))
    (kk : ∀ (H : Heap) (locs : List Loc), LW V aC aM s.heap.size C M' H → va_S (fun q => s.heap.size ≤ q) s.heap H locs → W p l e room_1 s m #[Value.ref b] below meth c H locs (cells + mc) (slots + ms) Q (F0 m (pc + 3) ls (.long r :: rest))) : W p l e room_1 s m #[Value.ref b] below meth c H locs cells slots Q (F0 m pc ls stk) :=
  va_calll (run_L X hM mw hl (by rw [hy]; exact rcL8 X hL.wdM) hL.wdM (fun q hq => Or.inr hq) hn hsz hstk hcat hR hf hdg) hS (fun q hq h => by
    rcases h with ⟨j, hj, e⟩ | h
    · rw [e]; exact hL.ge j hj
    · omega) (fun q h => by
    rcases h with ⟨j, hj, e⟩ | h
    · rw [e]; exact hL.ge j hj
    · exact Nat.le_trans hS.1 h) (fun r2 u t H1 locs1 ht hvm hp hB hz hk hS => by
    subst hp
    rw [ht] at hB
    exact kk H1 locs1 (hL.afterM hB hk) hS)
set_option maxRecDepth 100000 in
theorem law_0 {Rel : St → St → Prop} {x3 : Int32} (hop : Op_0 Rel) (hbd : ∀ c m, Rel c m → 192 ≤ phi c ∧ phi c ≤ 124416) (X : LC V p m c s b L xs) (hRel : Rel C M) (hL : LW V aC aM s.heap.size C M H) (hS : va_S (fun q => s.heap.size ≤ q) s.heap H locs) (hl : lv_has ls 4 [(0, .ref b), (1, .ref (aC 0)), (2, .ref (aM 0)), (3, .int x3)]) (h1 : vp_in (x3 + 1) L) (h2 : vp_in (x3 + 2) L) (h3 : vp_in (x3 + 3) L)
    (next : ∀ (C M : St) (H : Heap) (locs : List Loc), Rel C M → LW V aC aM s.heap.size C M H → va_S (fun q => s.heap.size ≤ q) s.heap H locs → W p l e room_1 s m #[Value.ref b] below meth c H locs (56 + (phi C - 192)) (6347 + 2 * (phi C - 192)) Q (F0 m 727 ls [])) : W p l e room_1 s m #[Value.ref b] below meth c H locs (56 + (phi C - 192)) (6347 + 2 * (phi C - 192)) Q (F0 m 144 ls []) := by
  obtain ⟨r, C', M', hc, hm, hRel2⟩ := hop C M (xs (x3 + 1).toNatClampNeg) hRel
  have hph : phi C' = phi C := l_X7_letter hc
  have hb1 := hbd C M hRel
  have hb2 := hbd C' M' hRel2
  refine lv_aload_n X.1.1 X.1.2.1 dL_law_144 rfl (lv_at hl 1 rfl) ?_
  refine lv_aload_n X.1.1 X.1.2.1 dL_law_145 rfl (lv_at hl 0 rfl) ?_
  refine lv_iload_n X.1.1 X.1.2.1 dL_law_146 rfl (lv_at hl 3 rfl) ?_
  refine lv_iconst (v := 1) X.1.1 X.1.2.1 dL_law_147 (by decide) ?_
  refine lv_iadd X.1.1 X.1.2.1 dL_law_148 ?_
  refine va_sld (A := fun q => s.heap.size ≤ q) X.1.1 X.1.2.1 X.2.2.2.1 X.2.2.2.2 (Nat.not_le.mpr X.2.2.2.2) hS h1 dL_law_149 ?_
  refine lawC_i (As := [.int (xs (x3 + 1).toNatClampNeg)]) (rest := []) X hL hS (w_X7_letter l V _ aC hc) mw_X7_letter rfl ln_L_13 rfl hl.1 rfl (Nat.le_of_ble_eq_true rfl) ⟨Nat.le_of_ble_eq_true rfl, Nat.le_of_ble_eq_true rfl⟩ ⟨by omega, by omega⟩ dL_law_150 (fun H locs hL hS => ?_)
  refine W.widen (k := 56 + (phi C' - 192)) (n := 6347 + 2 * (phi C' - 192)) (by omega) (by omega) ?_
  refine lv_aload_n X.1.1 X.1.2.1 dL_law_153 rfl (lv_at hl 2 rfl) ?_
  refine lv_aload_n X.1.1 X.1.2.1 dL_law_154 rfl (lv_at hl 0 rfl) ?_
  refine lv_iload_n X.1.1 X.1.2.1 dL_law_155 rfl (lv_at hl 3 rfl) ?_
  refine lv_iconst (v := 1) X.1.1 X.1.2.1 dL_law_156 (by decide) ?_
  refine lv_iadd X.1.1 X.1.2.1 dL_law_157 ?_
  refine va_sld (A := fun q => s.heap.size ≤ q) X.1.1 X.1.2.1 X.2.2.2.1 X.2.2.2.2 (Nat.not_le.mpr X.2.2.2.2) hS h1 dL_law_158 ?_
  refine lawM_i (As := [.int (xs (x3 + 1).toNatClampNeg)]) (rest := [.int r]) X hL hS (w_X8_letter l V _ aM hm) mw_X8_letter rfl ln_L_17 rfl hl.1 rfl (Nat.le_of_ble_eq_true rfl) ⟨Nat.le_of_ble_eq_true rfl, Nat.le_of_ble_eq_true rfl⟩ ⟨by omega, by omega⟩ dL_law_159 (fun H locs hL hS => ?_)
  refine lv_icmp_eq (tgt := 727) X.1.1 X.1.2.1 dL_law_162 (by decide) (fun _ => ?_) (fun h => absurd rfl h)
  exact next _ _ _ _ hRel2 hL hS
set_option maxRecDepth 100000 in
theorem law_1 {Rel : St → St → Prop} {x3 : Int32} (hop : Op_1 Rel) (hbd : ∀ c m, Rel c m → 192 ≤ phi c ∧ phi c ≤ 124416) (X : LC V p m c s b L xs) (hRel : Rel C M) (hL : LW V aC aM s.heap.size C M H) (hS : va_S (fun q => s.heap.size ≤ q) s.heap H locs) (hl : lv_has ls 4 [(0, .ref b), (1, .ref (aC 0)), (2, .ref (aM 0)), (3, .int x3)]) (h1 : vp_in (x3 + 1) L) (h2 : vp_in (x3 + 2) L) (h3 : vp_in (x3 + 3) L)
    (next : ∀ (C M : St) (H : Heap) (locs : List Loc), Rel C M → LW V aC aM s.heap.size C M H → va_S (fun q => s.heap.size ≤ q) s.heap H locs → W p l e room_1 s m #[Value.ref b] below meth c H locs (56 + (phi C - 192)) (6347 + 2 * (phi C - 192)) Q (F0 m 727 ls [])) : W p l e room_1 s m #[Value.ref b] below meth c H locs (56 + (phi C - 192)) (6347 + 2 * (phi C - 192)) Q (F0 m 167 ls []) := by
  obtain ⟨r, C', M', hc, hm, hRel2⟩ := hop C M  hRel
  have hph : phi C' = phi C := l_X7_blank hc
  have hb1 := hbd C M hRel
  have hb2 := hbd C' M' hRel2
  refine lv_aload_n X.1.1 X.1.2.1 dL_law_167 rfl (lv_at hl 1 rfl) ?_
  refine lawC_i (As := []) (rest := []) X hL hS (w_X7_blank l V _ aC hc) mw_X7_blank rfl ln_L_18 rfl hl.1 rfl (Nat.le_of_ble_eq_true rfl) ⟨Nat.le_of_ble_eq_true rfl, Nat.le_of_ble_eq_true rfl⟩ ⟨by omega, by omega⟩ dL_law_168 (fun H locs hL hS => ?_)
  refine W.widen (k := 56 + (phi C' - 192)) (n := 6347 + 2 * (phi C' - 192)) (by omega) (by omega) ?_
  refine lv_aload_n X.1.1 X.1.2.1 dL_law_171 rfl (lv_at hl 2 rfl) ?_
  refine lawM_i (As := []) (rest := [.int r]) X hL hS (w_X8_blank l V _ aM hm) mw_X8_blank rfl ln_L_22 rfl hl.1 rfl (Nat.le_of_ble_eq_true rfl) ⟨Nat.le_of_ble_eq_true rfl, Nat.le_of_ble_eq_true rfl⟩ ⟨by omega, by omega⟩ dL_law_172 (fun H locs hL hS => ?_)
  refine lv_icmp_eq (tgt := 727) X.1.1 X.1.2.1 dL_law_175 (by decide) (fun _ => ?_) (fun h => absurd rfl h)
  exact next _ _ _ _ hRel2 hL hS
set_option maxRecDepth 100000 in
theorem law_2 {Rel : St → St → Prop} {x3 : Int32} (hop : Op_2 Rel) (hbd : ∀ c m, Rel c m → 192 ≤ phi c ∧ phi c ≤ 124416) (X : LC V p m c s b L xs) (hRel : Rel C M) (hL : LW V aC aM s.heap.size C M H) (hS : va_S (fun q => s.heap.size ≤ q) s.heap H locs) (hl : lv_has ls 4 [(0, .ref b), (1, .ref (aC 0)), (2, .ref (aM 0)), (3, .int x3)]) (h1 : vp_in (x3 + 1) L) (h2 : vp_in (x3 + 2) L) (h3 : vp_in (x3 + 3) L)
    (next : ∀ (C M : St) (H : Heap) (locs : List Loc), Rel C M → LW V aC aM s.heap.size C M H → va_S (fun q => s.heap.size ≤ q) s.heap H locs → W p l e room_1 s m #[Value.ref b] below meth c H locs (56 + (phi C - 192)) (6347 + 2 * (phi C - 192)) Q (F0 m 727 ls [])) : W p l e room_1 s m #[Value.ref b] below meth c H locs (56 + (phi C - 192)) (6347 + 2 * (phi C - 192)) Q (F0 m 180 ls []) := by
  obtain ⟨r, M', hc, hm, hRel2⟩ := hop C M  hRel
  have hb1 := hbd C M hRel
  have hb2 := hbd C M' hRel2
  refine lv_aload_n X.1.1 X.1.2.1 dL_law_180 rfl (lv_at hl 1 rfl) ?_
  refine lawC_i (As := []) (rest := []) X hL hS (w_X7_fault l V _ aC hc) mw_X7_fault rfl ln_L_23 rfl hl.1 rfl (Nat.le_of_ble_eq_true rfl) ⟨Nat.le_of_ble_eq_true rfl, Nat.le_of_ble_eq_true rfl⟩ ⟨by omega, by omega⟩ dL_law_181 (fun H locs hL hS => ?_)
  refine W.widen (k := 56 + (phi C - 192)) (n := 6347 + 2 * (phi C - 192)) (by omega) (by omega) ?_
  refine lv_aload_n X.1.1 X.1.2.1 dL_law_184 rfl (lv_at hl 2 rfl) ?_
  refine lawM_i (As := []) (rest := [.int r]) X hL hS (w_X8_fault l V _ aM hm) mw_X8_fault rfl ln_L_26 rfl hl.1 rfl (Nat.le_of_ble_eq_true rfl) ⟨Nat.le_of_ble_eq_true rfl, Nat.le_of_ble_eq_true rfl⟩ ⟨by omega, by omega⟩ dL_law_185 (fun H locs hL hS => ?_)
  refine lv_icmp_eq (tgt := 727) X.1.1 X.1.2.1 dL_law_188 (by decide) (fun _ => ?_) (fun h => absurd rfl h)
  exact next _ _ _ _ hRel2 hL hS
set_option maxRecDepth 100000 in
theorem law_3 {Rel : St → St → Prop} {x3 : Int32} (hop : Op_3 Rel) (hbd : ∀ c m, Rel c m → 192 ≤ phi c ∧ phi c ≤ 124416) (X : LC V p m c s b L xs) (hRel : Rel C M) (hL : LW V aC aM s.heap.size C M H) (hS : va_S (fun q => s.heap.size ≤ q) s.heap H locs) (hl : lv_has ls 4 [(0, .ref b), (1, .ref (aC 0)), (2, .ref (aM 0)), (3, .int x3)]) (h1 : vp_in (x3 + 1) L) (h2 : vp_in (x3 + 2) L) (h3 : vp_in (x3 + 3) L)
    (next : ∀ (C M : St) (H : Heap) (locs : List Loc), Rel C M → LW V aC aM s.heap.size C M H → va_S (fun q => s.heap.size ≤ q) s.heap H locs → W p l e room_1 s m #[Value.ref b] below meth c H locs (56 + (phi C - 192)) (6347 + 2 * (phi C - 192)) Q (F0 m 727 ls [])) : W p l e room_1 s m #[Value.ref b] below meth c H locs (56 + (phi C - 192)) (6347 + 2 * (phi C - 192)) Q (F0 m 193 ls []) := by
  obtain ⟨r, C', M', hc, hm, hRel2⟩ := hop C M  hRel
  have hph : phi C ≤ phi C'  := l_X7_words hc
  have hb1 := hbd C M hRel
  have hb2 := hbd C' M' hRel2
  refine lv_aload_n X.1.1 X.1.2.1 dL_law_193 rfl (lv_at hl 1 rfl) ?_
  refine lawC_i (As := []) (rest := []) X hL hS (w_X7_words l V _ aC hc) mw_X7_words rfl ln_L_27 rfl hl.1 rfl (Nat.le_of_ble_eq_true rfl) ⟨Nat.le_of_ble_eq_true rfl, Nat.le_of_ble_eq_true rfl⟩ ⟨by simp only [dc, ds]; omega, by simp only [dc, ds]; omega⟩ dL_law_194 (fun H locs hL hS => ?_)
  refine W.widen (k := 56 + (phi C' - 192)) (n := 6347 + 2 * (phi C' - 192)) (by simp only [dc, ds]; omega) (by simp only [dc, ds]; omega) ?_
  refine lv_aload_n X.1.1 X.1.2.1 dL_law_197 rfl (lv_at hl 2 rfl) ?_
  refine lawM_i (As := []) (rest := [.int r]) X hL hS (w_X8_words l V _ aM hm) mw_X8_words rfl ln_L_30 rfl hl.1 rfl (Nat.le_of_ble_eq_true rfl) ⟨Nat.le_of_ble_eq_true rfl, Nat.le_of_ble_eq_true rfl⟩ ⟨by omega, by omega⟩ dL_law_198 (fun H locs hL hS => ?_)
  refine lv_icmp_eq (tgt := 727) X.1.1 X.1.2.1 dL_law_201 (by decide) (fun _ => ?_) (fun h => absurd rfl h)
  exact next _ _ _ _ hRel2 hL hS
set_option maxRecDepth 100000 in
theorem law_4 {Rel : St → St → Prop} {x3 : Int32} (hop : Op_4 Rel) (hbd : ∀ c m, Rel c m → 192 ≤ phi c ∧ phi c ≤ 124416) (X : LC V p m c s b L xs) (hRel : Rel C M) (hL : LW V aC aM s.heap.size C M H) (hS : va_S (fun q => s.heap.size ≤ q) s.heap H locs) (hl : lv_has ls 4 [(0, .ref b), (1, .ref (aC 0)), (2, .ref (aM 0)), (3, .int x3)]) (h1 : vp_in (x3 + 1) L) (h2 : vp_in (x3 + 2) L) (h3 : vp_in (x3 + 3) L)
    (next : ∀ (C M : St) (H : Heap) (locs : List Loc), Rel C M → LW V aC aM s.heap.size C M H → va_S (fun q => s.heap.size ≤ q) s.heap H locs → W p l e room_1 s m #[Value.ref b] below meth c H locs (56 + (phi C - 192)) (6347 + 2 * (phi C - 192)) Q (F0 m 727 ls [])) : W p l e room_1 s m #[Value.ref b] below meth c H locs (56 + (phi C - 192)) (6347 + 2 * (phi C - 192)) Q (F0 m 206 ls []) := by
  obtain ⟨r, C', M', hc, hm, hRel2⟩ := hop C M (xs (x3 + 1).toNatClampNeg) hRel
  have hph : phi C ≤ phi C'  := l_X7_strike hc
  have hb1 := hbd C M hRel
  have hb2 := hbd C' M' hRel2
  refine lv_aload_n X.1.1 X.1.2.1 dL_law_206 rfl (lv_at hl 1 rfl) ?_
  refine lv_aload_n X.1.1 X.1.2.1 dL_law_207 rfl (lv_at hl 0 rfl) ?_
  refine lv_iload_n X.1.1 X.1.2.1 dL_law_208 rfl (lv_at hl 3 rfl) ?_
  refine lv_iconst (v := 1) X.1.1 X.1.2.1 dL_law_209 (by decide) ?_
  refine lv_iadd X.1.1 X.1.2.1 dL_law_210 ?_
  refine va_sld (A := fun q => s.heap.size ≤ q) X.1.1 X.1.2.1 X.2.2.2.1 X.2.2.2.2 (Nat.not_le.mpr X.2.2.2.2) hS h1 dL_law_211 ?_
  refine lawC_i (As := [.int (xs (x3 + 1).toNatClampNeg)]) (rest := []) X hL hS (w_X7_strike l V _ aC hc) mw_X7_strike rfl ln_L_31 rfl hl.1 rfl (Nat.le_of_ble_eq_true rfl) ⟨Nat.le_of_ble_eq_true rfl, Nat.le_of_ble_eq_true rfl⟩ ⟨by simp only [dc, ds]; omega, by simp only [dc, ds]; omega⟩ dL_law_212 (fun H locs hL hS => ?_)
  refine W.widen (k := 56 + (phi C' - 192)) (n := 6347 + 2 * (phi C' - 192)) (by simp only [dc, ds]; omega) (by simp only [dc, ds]; omega) ?_
  refine lv_aload_n X.1.1 X.1.2.1 dL_law_215 rfl (lv_at hl 2 rfl) ?_
  refine lv_aload_n X.1.1 X.1.2.1 dL_law_216 rfl (lv_at hl 0 rfl) ?_
  refine lv_iload_n X.1.1 X.1.2.1 dL_law_217 rfl (lv_at hl 3 rfl) ?_
  refine lv_iconst (v := 1) X.1.1 X.1.2.1 dL_law_218 (by decide) ?_
  refine lv_iadd X.1.1 X.1.2.1 dL_law_219 ?_
  refine va_sld (A := fun q => s.heap.size ≤ q) X.1.1 X.1.2.1 X.2.2.2.1 X.2.2.2.2 (Nat.not_le.mpr X.2.2.2.2) hS h1 dL_law_220 ?_
  refine lawM_i (As := [.int (xs (x3 + 1).toNatClampNeg)]) (rest := [.int r]) X hL hS (w_X8_strike l V _ aM hm) mw_X8_strike rfl ln_L_34 rfl hl.1 rfl (Nat.le_of_ble_eq_true rfl) ⟨Nat.le_of_ble_eq_true rfl, Nat.le_of_ble_eq_true rfl⟩ ⟨by omega, by omega⟩ dL_law_221 (fun H locs hL hS => ?_)
  refine lv_icmp_eq (tgt := 727) X.1.1 X.1.2.1 dL_law_224 (by decide) (fun _ => ?_) (fun h => absurd rfl h)
  exact next _ _ _ _ hRel2 hL hS
set_option maxRecDepth 100000 in
theorem law_5 {Rel : St → St → Prop} {x3 : Int32} (hop : Op_5 Rel) (hbd : ∀ c m, Rel c m → 192 ≤ phi c ∧ phi c ≤ 124416) (X : LC V p m c s b L xs) (hRel : Rel C M) (hL : LW V aC aM s.heap.size C M H) (hS : va_S (fun q => s.heap.size ≤ q) s.heap H locs) (hl : lv_has ls 4 [(0, .ref b), (1, .ref (aC 0)), (2, .ref (aM 0)), (3, .int x3)]) (h1 : vp_in (x3 + 1) L) (h2 : vp_in (x3 + 2) L) (h3 : vp_in (x3 + 3) L)
    (next : ∀ (C M : St) (H : Heap) (locs : List Loc), Rel C M → LW V aC aM s.heap.size C M H → va_S (fun q => s.heap.size ≤ q) s.heap H locs → W p l e room_1 s m #[Value.ref b] below meth c H locs (56 + (phi C - 192)) (6347 + 2 * (phi C - 192)) Q (F0 m 727 ls [])) : W p l e room_1 s m #[Value.ref b] below meth c H locs (56 + (phi C - 192)) (6347 + 2 * (phi C - 192)) Q (F0 m 229 ls []) := by
  obtain ⟨r, C', M', hc, hm, hRel2⟩ := hop C M (xs (x3 + 1).toNatClampNeg) (xs (x3 + 2).toNatClampNeg) hRel
  have hph : phi C' = phi C := l_X7_weigh hc
  have hb1 := hbd C M hRel
  have hb2 := hbd C' M' hRel2
  refine lv_aload_n X.1.1 X.1.2.1 dL_law_229 rfl (lv_at hl 1 rfl) ?_
  refine lv_aload_n X.1.1 X.1.2.1 dL_law_230 rfl (lv_at hl 0 rfl) ?_
  refine lv_iload_n X.1.1 X.1.2.1 dL_law_231 rfl (lv_at hl 3 rfl) ?_
  refine lv_iconst (v := 1) X.1.1 X.1.2.1 dL_law_232 (by decide) ?_
  refine lv_iadd X.1.1 X.1.2.1 dL_law_233 ?_
  refine va_sld (A := fun q => s.heap.size ≤ q) X.1.1 X.1.2.1 X.2.2.2.1 X.2.2.2.2 (Nat.not_le.mpr X.2.2.2.2) hS h1 dL_law_234 ?_
  refine lv_aload_n X.1.1 X.1.2.1 dL_law_235 rfl (lv_at hl 0 rfl) ?_
  refine lv_iload_n X.1.1 X.1.2.1 dL_law_236 rfl (lv_at hl 3 rfl) ?_
  refine lv_iconst (v := 2) X.1.1 X.1.2.1 dL_law_237 (by decide) ?_
  refine lv_iadd X.1.1 X.1.2.1 dL_law_238 ?_
  refine va_sld (A := fun q => s.heap.size ≤ q) X.1.1 X.1.2.1 X.2.2.2.1 X.2.2.2.2 (Nat.not_le.mpr X.2.2.2.2) hS h2 dL_law_239 ?_
  refine lawC_i (As := [.int (xs (x3 + 1).toNatClampNeg), .int (xs (x3 + 2).toNatClampNeg)]) (rest := []) X hL hS (w_X7_weigh l V _ aC hc) mw_X7_weigh rfl ln_L_35 rfl hl.1 rfl (Nat.le_of_ble_eq_true rfl) ⟨Nat.le_of_ble_eq_true rfl, Nat.le_of_ble_eq_true rfl⟩ ⟨by omega, by omega⟩ dL_law_240 (fun H locs hL hS => ?_)
  refine W.widen (k := 56 + (phi C' - 192)) (n := 6347 + 2 * (phi C' - 192)) (by omega) (by omega) ?_
  refine lv_aload_n X.1.1 X.1.2.1 dL_law_243 rfl (lv_at hl 2 rfl) ?_
  refine lv_aload_n X.1.1 X.1.2.1 dL_law_244 rfl (lv_at hl 0 rfl) ?_
  refine lv_iload_n X.1.1 X.1.2.1 dL_law_245 rfl (lv_at hl 3 rfl) ?_
  refine lv_iconst (v := 1) X.1.1 X.1.2.1 dL_law_246 (by decide) ?_
  refine lv_iadd X.1.1 X.1.2.1 dL_law_247 ?_
  refine va_sld (A := fun q => s.heap.size ≤ q) X.1.1 X.1.2.1 X.2.2.2.1 X.2.2.2.2 (Nat.not_le.mpr X.2.2.2.2) hS h1 dL_law_248 ?_
  refine lv_aload_n X.1.1 X.1.2.1 dL_law_249 rfl (lv_at hl 0 rfl) ?_
  refine lv_iload_n X.1.1 X.1.2.1 dL_law_250 rfl (lv_at hl 3 rfl) ?_
  refine lv_iconst (v := 2) X.1.1 X.1.2.1 dL_law_251 (by decide) ?_
  refine lv_iadd X.1.1 X.1.2.1 dL_law_252 ?_
  refine va_sld (A := fun q => s.heap.size ≤ q) X.1.1 X.1.2.1 X.2.2.2.1 X.2.2.2.2 (Nat.not_le.mpr X.2.2.2.2) hS h2 dL_law_253 ?_
  refine lawM_i (As := [.int (xs (x3 + 1).toNatClampNeg), .int (xs (x3 + 2).toNatClampNeg)]) (rest := [.int r]) X hL hS (w_X8_weigh l V _ aM hm) mw_X8_weigh rfl ln_L_39 rfl hl.1 rfl (Nat.le_of_ble_eq_true rfl) ⟨Nat.le_of_ble_eq_true rfl, Nat.le_of_ble_eq_true rfl⟩ ⟨by omega, by omega⟩ dL_law_254 (fun H locs hL hS => ?_)
  refine lv_icmp_eq (tgt := 727) X.1.1 X.1.2.1 dL_law_257 (by decide) (fun _ => ?_) (fun h => absurd rfl h)
  exact next _ _ _ _ hRel2 hL hS
set_option maxRecDepth 100000 in
theorem law_6 {Rel : St → St → Prop} {x3 : Int32} (hop : Op_6 Rel) (hbd : ∀ c m, Rel c m → 192 ≤ phi c ∧ phi c ≤ 124416) (X : LC V p m c s b L xs) (hRel : Rel C M) (hL : LW V aC aM s.heap.size C M H) (hS : va_S (fun q => s.heap.size ≤ q) s.heap H locs) (hl : lv_has ls 4 [(0, .ref b), (1, .ref (aC 0)), (2, .ref (aM 0)), (3, .int x3)]) (h1 : vp_in (x3 + 1) L) (h2 : vp_in (x3 + 2) L) (h3 : vp_in (x3 + 3) L)
    (next : ∀ (C M : St) (H : Heap) (locs : List Loc), Rel C M → LW V aC aM s.heap.size C M H → va_S (fun q => s.heap.size ≤ q) s.heap H locs → W p l e room_1 s m #[Value.ref b] below meth c H locs (56 + (phi C - 192)) (6347 + 2 * (phi C - 192)) Q (F0 m 727 ls [])) : W p l e room_1 s m #[Value.ref b] below meth c H locs (56 + (phi C - 192)) (6347 + 2 * (phi C - 192)) Q (F0 m 262 ls []) := by
  obtain ⟨r, hc, hm, hRel2⟩ := hop C M (xs (x3 + 1).toNatClampNeg) hRel
  have hb1 := hbd C M hRel
  have hb2 := hbd C M hRel2
  refine lv_aload_n X.1.1 X.1.2.1 dL_law_262 rfl (lv_at hl 1 rfl) ?_
  refine lv_aload_n X.1.1 X.1.2.1 dL_law_263 rfl (lv_at hl 0 rfl) ?_
  refine lv_iload_n X.1.1 X.1.2.1 dL_law_264 rfl (lv_at hl 3 rfl) ?_
  refine lv_iconst (v := 1) X.1.1 X.1.2.1 dL_law_265 (by decide) ?_
  refine lv_iadd X.1.1 X.1.2.1 dL_law_266 ?_
  refine va_sld (A := fun q => s.heap.size ≤ q) X.1.1 X.1.2.1 X.2.2.2.1 X.2.2.2.2 (Nat.not_le.mpr X.2.2.2.2) hS h1 dL_law_267 ?_
  refine lawC_i (As := [.int (xs (x3 + 1).toNatClampNeg)]) (rest := []) X hL hS (w_X7_about l V _ aC hc) mw_X7_about rfl ln_L_40 rfl hl.1 rfl (Nat.le_of_ble_eq_true rfl) ⟨Nat.le_of_ble_eq_true rfl, Nat.le_of_ble_eq_true rfl⟩ ⟨by omega, by omega⟩ dL_law_268 (fun H locs hL hS => ?_)
  refine W.widen (k := 56 + (phi C - 192)) (n := 6347 + 2 * (phi C - 192)) (by omega) (by omega) ?_
  refine lv_aload_n X.1.1 X.1.2.1 dL_law_271 rfl (lv_at hl 2 rfl) ?_
  refine lv_aload_n X.1.1 X.1.2.1 dL_law_272 rfl (lv_at hl 0 rfl) ?_
  refine lv_iload_n X.1.1 X.1.2.1 dL_law_273 rfl (lv_at hl 3 rfl) ?_
  refine lv_iconst (v := 1) X.1.1 X.1.2.1 dL_law_274 (by decide) ?_
  refine lv_iadd X.1.1 X.1.2.1 dL_law_275 ?_
  refine va_sld (A := fun q => s.heap.size ≤ q) X.1.1 X.1.2.1 X.2.2.2.1 X.2.2.2.2 (Nat.not_le.mpr X.2.2.2.2) hS h1 dL_law_276 ?_
  refine lawM_i (As := [.int (xs (x3 + 1).toNatClampNeg)]) (rest := [.int r]) X hL hS (w_X8_about l V _ aM hm) mw_X8_about rfl ln_L_43 rfl hl.1 rfl (Nat.le_of_ble_eq_true rfl) ⟨Nat.le_of_ble_eq_true rfl, Nat.le_of_ble_eq_true rfl⟩ ⟨by omega, by omega⟩ dL_law_277 (fun H locs hL hS => ?_)
  refine lv_icmp_eq (tgt := 727) X.1.1 X.1.2.1 dL_law_280 (by decide) (fun _ => ?_) (fun h => absurd rfl h)
  exact next _ _ _ _ hRel2 hL hS
set_option maxRecDepth 100000 in
theorem law_7 {Rel : St → St → Prop} {x3 : Int32} (hop : Op_7 Rel) (hbd : ∀ c m, Rel c m → 192 ≤ phi c ∧ phi c ≤ 124416) (X : LC V p m c s b L xs) (hRel : Rel C M) (hL : LW V aC aM s.heap.size C M H) (hS : va_S (fun q => s.heap.size ≤ q) s.heap H locs) (hl : lv_has ls 4 [(0, .ref b), (1, .ref (aC 0)), (2, .ref (aM 0)), (3, .int x3)]) (h1 : vp_in (x3 + 1) L) (h2 : vp_in (x3 + 2) L) (h3 : vp_in (x3 + 3) L)
    (next : ∀ (C M : St) (H : Heap) (locs : List Loc), Rel C M → LW V aC aM s.heap.size C M H → va_S (fun q => s.heap.size ≤ q) s.heap H locs → W p l e room_1 s m #[Value.ref b] below meth c H locs (56 + (phi C - 192)) (6347 + 2 * (phi C - 192)) Q (F0 m 727 ls [])) : W p l e room_1 s m #[Value.ref b] below meth c H locs (56 + (phi C - 192)) (6347 + 2 * (phi C - 192)) Q (F0 m 285 ls []) := by
  obtain ⟨r, M', hc, hm, hRel2⟩ := hop C M (xs (x3 + 1).toNatClampNeg) (xs (x3 + 2).toNatClampNeg) hRel
  have hb1 := hbd C M hRel
  have hb2 := hbd C M' hRel2
  refine lv_aload_n X.1.1 X.1.2.1 dL_law_285 rfl (lv_at hl 1 rfl) ?_
  refine lv_aload_n X.1.1 X.1.2.1 dL_law_286 rfl (lv_at hl 0 rfl) ?_
  refine lv_iload_n X.1.1 X.1.2.1 dL_law_287 rfl (lv_at hl 3 rfl) ?_
  refine lv_iconst (v := 1) X.1.1 X.1.2.1 dL_law_288 (by decide) ?_
  refine lv_iadd X.1.1 X.1.2.1 dL_law_289 ?_
  refine va_sld (A := fun q => s.heap.size ≤ q) X.1.1 X.1.2.1 X.2.2.2.1 X.2.2.2.2 (Nat.not_le.mpr X.2.2.2.2) hS h1 dL_law_290 ?_
  refine lv_aload_n X.1.1 X.1.2.1 dL_law_291 rfl (lv_at hl 0 rfl) ?_
  refine lv_iload_n X.1.1 X.1.2.1 dL_law_292 rfl (lv_at hl 3 rfl) ?_
  refine lv_iconst (v := 2) X.1.1 X.1.2.1 dL_law_293 (by decide) ?_
  refine lv_iadd X.1.1 X.1.2.1 dL_law_294 ?_
  refine va_sld (A := fun q => s.heap.size ≤ q) X.1.1 X.1.2.1 X.2.2.2.1 X.2.2.2.2 (Nat.not_le.mpr X.2.2.2.2) hS h2 dL_law_295 ?_
  refine lawC_i (As := [.int (xs (x3 + 1).toNatClampNeg), .int (xs (x3 + 2).toNatClampNeg)]) (rest := []) X hL hS (w_X7_word l V _ aC hc) mw_X7_word rfl ln_L_44 rfl hl.1 rfl (Nat.le_of_ble_eq_true rfl) ⟨Nat.le_of_ble_eq_true rfl, Nat.le_of_ble_eq_true rfl⟩ ⟨by omega, by omega⟩ dL_law_296 (fun H locs hL hS => ?_)
  refine W.widen (k := 56 + (phi C - 192)) (n := 6347 + 2 * (phi C - 192)) (by omega) (by omega) ?_
  refine lv_aload_n X.1.1 X.1.2.1 dL_law_299 rfl (lv_at hl 2 rfl) ?_
  refine lv_aload_n X.1.1 X.1.2.1 dL_law_300 rfl (lv_at hl 0 rfl) ?_
  refine lv_iload_n X.1.1 X.1.2.1 dL_law_301 rfl (lv_at hl 3 rfl) ?_
  refine lv_iconst (v := 1) X.1.1 X.1.2.1 dL_law_302 (by decide) ?_
  refine lv_iadd X.1.1 X.1.2.1 dL_law_303 ?_
  refine va_sld (A := fun q => s.heap.size ≤ q) X.1.1 X.1.2.1 X.2.2.2.1 X.2.2.2.2 (Nat.not_le.mpr X.2.2.2.2) hS h1 dL_law_304 ?_
  refine lv_aload_n X.1.1 X.1.2.1 dL_law_305 rfl (lv_at hl 0 rfl) ?_
  refine lv_iload_n X.1.1 X.1.2.1 dL_law_306 rfl (lv_at hl 3 rfl) ?_
  refine lv_iconst (v := 2) X.1.1 X.1.2.1 dL_law_307 (by decide) ?_
  refine lv_iadd X.1.1 X.1.2.1 dL_law_308 ?_
  refine va_sld (A := fun q => s.heap.size ≤ q) X.1.1 X.1.2.1 X.2.2.2.1 X.2.2.2.2 (Nat.not_le.mpr X.2.2.2.2) hS h2 dL_law_309 ?_
  refine lawM_i (As := [.int (xs (x3 + 1).toNatClampNeg), .int (xs (x3 + 2).toNatClampNeg)]) (rest := [.int r]) X hL hS (w_X8_word l V _ aM hm) mw_X8_word rfl ln_L_47 rfl hl.1 rfl (Nat.le_of_ble_eq_true rfl) ⟨Nat.le_of_ble_eq_true rfl, Nat.le_of_ble_eq_true rfl⟩ ⟨by omega, by omega⟩ dL_law_310 (fun H locs hL hS => ?_)
  refine lv_icmp_eq (tgt := 727) X.1.1 X.1.2.1 dL_law_313 (by decide) (fun _ => ?_) (fun h => absurd rfl h)
  exact next _ _ _ _ hRel2 hL hS
set_option maxRecDepth 100000 in
theorem law_8 {Rel : St → St → Prop} {x3 : Int32} (hop : Op_8 Rel) (hbd : ∀ c m, Rel c m → 192 ≤ phi c ∧ phi c ≤ 124416) (X : LC V p m c s b L xs) (hRel : Rel C M) (hL : LW V aC aM s.heap.size C M H) (hS : va_S (fun q => s.heap.size ≤ q) s.heap H locs) (hl : lv_has ls 4 [(0, .ref b), (1, .ref (aC 0)), (2, .ref (aM 0)), (3, .int x3)]) (h1 : vp_in (x3 + 1) L) (h2 : vp_in (x3 + 2) L) (h3 : vp_in (x3 + 3) L)
    (next : ∀ (C M : St) (H : Heap) (locs : List Loc), Rel C M → LW V aC aM s.heap.size C M H → va_S (fun q => s.heap.size ≤ q) s.heap H locs → W p l e room_1 s m #[Value.ref b] below meth c H locs (56 + (phi C - 192)) (6347 + 2 * (phi C - 192)) Q (F0 m 727 ls [])) : W p l e room_1 s m #[Value.ref b] below meth c H locs (56 + (phi C - 192)) (6347 + 2 * (phi C - 192)) Q (F0 m 318 ls []) := by
  obtain ⟨r, hc, hm, hRel2⟩ := hop C M (xs (x3 + 1).toNatClampNeg) (xs (x3 + 2).toNatClampNeg) hRel
  have hb1 := hbd C M hRel
  have hb2 := hbd C M hRel2
  refine lv_aload_n X.1.1 X.1.2.1 dL_law_318 rfl (lv_at hl 1 rfl) ?_
  refine lv_aload_n X.1.1 X.1.2.1 dL_law_319 rfl (lv_at hl 0 rfl) ?_
  refine lv_iload_n X.1.1 X.1.2.1 dL_law_320 rfl (lv_at hl 3 rfl) ?_
  refine lv_iconst (v := 1) X.1.1 X.1.2.1 dL_law_321 (by decide) ?_
  refine lv_iadd X.1.1 X.1.2.1 dL_law_322 ?_
  refine va_sld (A := fun q => s.heap.size ≤ q) X.1.1 X.1.2.1 X.2.2.2.1 X.2.2.2.2 (Nat.not_le.mpr X.2.2.2.2) hS h1 dL_law_323 ?_
  refine lv_aload_n X.1.1 X.1.2.1 dL_law_324 rfl (lv_at hl 0 rfl) ?_
  refine lv_iload_n X.1.1 X.1.2.1 dL_law_325 rfl (lv_at hl 3 rfl) ?_
  refine lv_iconst (v := 2) X.1.1 X.1.2.1 dL_law_326 (by decide) ?_
  refine lv_iadd X.1.1 X.1.2.1 dL_law_327 ?_
  refine va_sld (A := fun q => s.heap.size ≤ q) X.1.1 X.1.2.1 X.2.2.2.1 X.2.2.2.2 (Nat.not_le.mpr X.2.2.2.2) hS h2 dL_law_328 ?_
  refine lawC_i (As := [.int (xs (x3 + 1).toNatClampNeg), .int (xs (x3 + 2).toNatClampNeg)]) (rest := []) X hL hS (w_X7_sign l V _ aC hc) mw_X7_sign rfl ln_L_48 rfl hl.1 rfl (Nat.le_of_ble_eq_true rfl) ⟨Nat.le_of_ble_eq_true rfl, Nat.le_of_ble_eq_true rfl⟩ ⟨by omega, by omega⟩ dL_law_329 (fun H locs hL hS => ?_)
  refine W.widen (k := 56 + (phi C - 192)) (n := 6347 + 2 * (phi C - 192)) (by omega) (by omega) ?_
  refine lv_aload_n X.1.1 X.1.2.1 dL_law_332 rfl (lv_at hl 2 rfl) ?_
  refine lv_aload_n X.1.1 X.1.2.1 dL_law_333 rfl (lv_at hl 0 rfl) ?_
  refine lv_iload_n X.1.1 X.1.2.1 dL_law_334 rfl (lv_at hl 3 rfl) ?_
  refine lv_iconst (v := 1) X.1.1 X.1.2.1 dL_law_335 (by decide) ?_
  refine lv_iadd X.1.1 X.1.2.1 dL_law_336 ?_
  refine va_sld (A := fun q => s.heap.size ≤ q) X.1.1 X.1.2.1 X.2.2.2.1 X.2.2.2.2 (Nat.not_le.mpr X.2.2.2.2) hS h1 dL_law_337 ?_
  refine lv_aload_n X.1.1 X.1.2.1 dL_law_338 rfl (lv_at hl 0 rfl) ?_
  refine lv_iload_n X.1.1 X.1.2.1 dL_law_339 rfl (lv_at hl 3 rfl) ?_
  refine lv_iconst (v := 2) X.1.1 X.1.2.1 dL_law_340 (by decide) ?_
  refine lv_iadd X.1.1 X.1.2.1 dL_law_341 ?_
  refine va_sld (A := fun q => s.heap.size ≤ q) X.1.1 X.1.2.1 X.2.2.2.1 X.2.2.2.2 (Nat.not_le.mpr X.2.2.2.2) hS h2 dL_law_342 ?_
  refine lawM_i (As := [.int (xs (x3 + 1).toNatClampNeg), .int (xs (x3 + 2).toNatClampNeg)]) (rest := [.int r]) X hL hS (w_X8_sign l V _ aM hm) mw_X8_sign rfl ln_L_51 rfl hl.1 rfl (Nat.le_of_ble_eq_true rfl) ⟨Nat.le_of_ble_eq_true rfl, Nat.le_of_ble_eq_true rfl⟩ ⟨by omega, by omega⟩ dL_law_343 (fun H locs hL hS => ?_)
  refine lv_icmp_eq (tgt := 727) X.1.1 X.1.2.1 dL_law_346 (by decide) (fun _ => ?_) (fun h => absurd rfl h)
  exact next _ _ _ _ hRel2 hL hS
set_option maxRecDepth 100000 in
theorem law_9 {Rel : St → St → Prop} {x3 : Int32} (hop : Op_9 Rel) (hbd : ∀ c m, Rel c m → 192 ≤ phi c ∧ phi c ≤ 124416) (X : LC V p m c s b L xs) (hRel : Rel C M) (hL : LW V aC aM s.heap.size C M H) (hS : va_S (fun q => s.heap.size ≤ q) s.heap H locs) (hl : lv_has ls 4 [(0, .ref b), (1, .ref (aC 0)), (2, .ref (aM 0)), (3, .int x3)]) (h1 : vp_in (x3 + 1) L) (h2 : vp_in (x3 + 2) L) (h3 : vp_in (x3 + 3) L)
    (next : ∀ (C M : St) (H : Heap) (locs : List Loc), Rel C M → LW V aC aM s.heap.size C M H → va_S (fun q => s.heap.size ≤ q) s.heap H locs → W p l e room_1 s m #[Value.ref b] below meth c H locs (56 + (phi C - 192)) (6347 + 2 * (phi C - 192)) Q (F0 m 727 ls [])) : W p l e room_1 s m #[Value.ref b] below meth c H locs (56 + (phi C - 192)) (6347 + 2 * (phi C - 192)) Q (F0 m 351 ls []) := by
  obtain ⟨r, hc, hm, hRel2⟩ := hop C M (xs (x3 + 1).toNatClampNeg) (xs (x3 + 2).toNatClampNeg) hRel
  have hb1 := hbd C M hRel
  have hb2 := hbd C M hRel2
  refine lv_aload_n X.1.1 X.1.2.1 dL_law_351 rfl (lv_at hl 1 rfl) ?_
  refine lv_aload_n X.1.1 X.1.2.1 dL_law_352 rfl (lv_at hl 0 rfl) ?_
  refine lv_iload_n X.1.1 X.1.2.1 dL_law_353 rfl (lv_at hl 3 rfl) ?_
  refine lv_iconst (v := 1) X.1.1 X.1.2.1 dL_law_354 (by decide) ?_
  refine lv_iadd X.1.1 X.1.2.1 dL_law_355 ?_
  refine va_sld (A := fun q => s.heap.size ≤ q) X.1.1 X.1.2.1 X.2.2.2.1 X.2.2.2.2 (Nat.not_le.mpr X.2.2.2.2) hS h1 dL_law_356 ?_
  refine lv_aload_n X.1.1 X.1.2.1 dL_law_357 rfl (lv_at hl 0 rfl) ?_
  refine lv_iload_n X.1.1 X.1.2.1 dL_law_358 rfl (lv_at hl 3 rfl) ?_
  refine lv_iconst (v := 2) X.1.1 X.1.2.1 dL_law_359 (by decide) ?_
  refine lv_iadd X.1.1 X.1.2.1 dL_law_360 ?_
  refine va_sld (A := fun q => s.heap.size ≤ q) X.1.1 X.1.2.1 X.2.2.2.1 X.2.2.2.2 (Nat.not_le.mpr X.2.2.2.2) hS h2 dL_law_361 ?_
  refine lawC_i (As := [.int (xs (x3 + 1).toNatClampNeg), .int (xs (x3 + 2).toNatClampNeg)]) (rest := []) X hL hS (w_X7_begins l V _ aC hc) mw_X7_begins rfl ln_L_52 rfl hl.1 rfl (Nat.le_of_ble_eq_true rfl) ⟨Nat.le_of_ble_eq_true rfl, Nat.le_of_ble_eq_true rfl⟩ ⟨by omega, by omega⟩ dL_law_362 (fun H locs hL hS => ?_)
  refine W.widen (k := 56 + (phi C - 192)) (n := 6347 + 2 * (phi C - 192)) (by omega) (by omega) ?_
  refine lv_aload_n X.1.1 X.1.2.1 dL_law_365 rfl (lv_at hl 2 rfl) ?_
  refine lv_aload_n X.1.1 X.1.2.1 dL_law_366 rfl (lv_at hl 0 rfl) ?_
  refine lv_iload_n X.1.1 X.1.2.1 dL_law_367 rfl (lv_at hl 3 rfl) ?_
  refine lv_iconst (v := 1) X.1.1 X.1.2.1 dL_law_368 (by decide) ?_
  refine lv_iadd X.1.1 X.1.2.1 dL_law_369 ?_
  refine va_sld (A := fun q => s.heap.size ≤ q) X.1.1 X.1.2.1 X.2.2.2.1 X.2.2.2.2 (Nat.not_le.mpr X.2.2.2.2) hS h1 dL_law_370 ?_
  refine lv_aload_n X.1.1 X.1.2.1 dL_law_371 rfl (lv_at hl 0 rfl) ?_
  refine lv_iload_n X.1.1 X.1.2.1 dL_law_372 rfl (lv_at hl 3 rfl) ?_
  refine lv_iconst (v := 2) X.1.1 X.1.2.1 dL_law_373 (by decide) ?_
  refine lv_iadd X.1.1 X.1.2.1 dL_law_374 ?_
  refine va_sld (A := fun q => s.heap.size ≤ q) X.1.1 X.1.2.1 X.2.2.2.1 X.2.2.2.2 (Nat.not_le.mpr X.2.2.2.2) hS h2 dL_law_375 ?_
  refine lawM_i (As := [.int (xs (x3 + 1).toNatClampNeg), .int (xs (x3 + 2).toNatClampNeg)]) (rest := [.int r]) X hL hS (w_X8_begins l V _ aM hm) mw_X8_begins rfl ln_L_55 rfl hl.1 rfl (Nat.le_of_ble_eq_true rfl) ⟨Nat.le_of_ble_eq_true rfl, Nat.le_of_ble_eq_true rfl⟩ ⟨by omega, by omega⟩ dL_law_376 (fun H locs hL hS => ?_)
  refine lv_icmp_eq (tgt := 727) X.1.1 X.1.2.1 dL_law_379 (by decide) (fun _ => ?_) (fun h => absurd rfl h)
  exact next _ _ _ _ hRel2 hL hS
set_option maxRecDepth 100000 in
theorem law_10 {Rel : St → St → Prop} {x3 : Int32} (hop : Op_10 Rel) (hbd : ∀ c m, Rel c m → 192 ≤ phi c ∧ phi c ≤ 124416) (X : LC V p m c s b L xs) (hRel : Rel C M) (hL : LW V aC aM s.heap.size C M H) (hS : va_S (fun q => s.heap.size ≤ q) s.heap H locs) (hl : lv_has ls 4 [(0, .ref b), (1, .ref (aC 0)), (2, .ref (aM 0)), (3, .int x3)]) (h1 : vp_in (x3 + 1) L) (h2 : vp_in (x3 + 2) L) (h3 : vp_in (x3 + 3) L)
    (next : ∀ (C M : St) (H : Heap) (locs : List Loc), Rel C M → LW V aC aM s.heap.size C M H → va_S (fun q => s.heap.size ≤ q) s.heap H locs → W p l e room_1 s m #[Value.ref b] below meth c H locs (56 + (phi C - 192)) (6347 + 2 * (phi C - 192)) Q (F0 m 727 ls [])) : W p l e room_1 s m #[Value.ref b] below meth c H locs (56 + (phi C - 192)) (6347 + 2 * (phi C - 192)) Q (F0 m 384 ls []) := by
  obtain ⟨r, M', hc, hm, hRel2⟩ := hop C M (xs (x3 + 1).toNatClampNeg) hRel
  have hb1 := hbd C M hRel
  have hb2 := hbd C M' hRel2
  refine lv_aload_n X.1.1 X.1.2.1 dL_law_384 rfl (lv_at hl 1 rfl) ?_
  refine lv_aload_n X.1.1 X.1.2.1 dL_law_385 rfl (lv_at hl 0 rfl) ?_
  refine lv_iload_n X.1.1 X.1.2.1 dL_law_386 rfl (lv_at hl 3 rfl) ?_
  refine lv_iconst (v := 1) X.1.1 X.1.2.1 dL_law_387 (by decide) ?_
  refine lv_iadd X.1.1 X.1.2.1 dL_law_388 ?_
  refine va_sld (A := fun q => s.heap.size ≤ q) X.1.1 X.1.2.1 X.2.2.2.1 X.2.2.2.2 (Nat.not_le.mpr X.2.2.2.2) hS h1 dL_law_389 ?_
  refine lawC_i (As := [.int (xs (x3 + 1).toNatClampNeg)]) (rest := []) X hL hS (w_X7_squares l V _ aC hc) mw_X7_squares rfl ln_L_56 rfl hl.1 rfl (Nat.le_of_ble_eq_true rfl) ⟨Nat.le_of_ble_eq_true rfl, Nat.le_of_ble_eq_true rfl⟩ ⟨by omega, by omega⟩ dL_law_390 (fun H locs hL hS => ?_)
  refine W.widen (k := 56 + (phi C - 192)) (n := 6347 + 2 * (phi C - 192)) (by omega) (by omega) ?_
  refine lv_aload_n X.1.1 X.1.2.1 dL_law_393 rfl (lv_at hl 2 rfl) ?_
  refine lv_aload_n X.1.1 X.1.2.1 dL_law_394 rfl (lv_at hl 0 rfl) ?_
  refine lv_iload_n X.1.1 X.1.2.1 dL_law_395 rfl (lv_at hl 3 rfl) ?_
  refine lv_iconst (v := 1) X.1.1 X.1.2.1 dL_law_396 (by decide) ?_
  refine lv_iadd X.1.1 X.1.2.1 dL_law_397 ?_
  refine va_sld (A := fun q => s.heap.size ≤ q) X.1.1 X.1.2.1 X.2.2.2.1 X.2.2.2.2 (Nat.not_le.mpr X.2.2.2.2) hS h1 dL_law_398 ?_
  refine lawM_i (As := [.int (xs (x3 + 1).toNatClampNeg)]) (rest := [.int r]) X hL hS (w_X8_squares l V _ aM hm) mw_X8_squares rfl ln_L_59 rfl hl.1 rfl (Nat.le_of_ble_eq_true rfl) ⟨Nat.le_of_ble_eq_true rfl, Nat.le_of_ble_eq_true rfl⟩ ⟨by omega, by omega⟩ dL_law_399 (fun H locs hL hS => ?_)
  refine lv_icmp_eq (tgt := 727) X.1.1 X.1.2.1 dL_law_402 (by decide) (fun _ => ?_) (fun h => absurd rfl h)
  exact next _ _ _ _ hRel2 hL hS
set_option maxRecDepth 100000 in
theorem law_11 {Rel : St → St → Prop} {x3 : Int32} (hop : Op_11 Rel) (hbd : ∀ c m, Rel c m → 192 ≤ phi c ∧ phi c ≤ 124416) (X : LC V p m c s b L xs) (hRel : Rel C M) (hL : LW V aC aM s.heap.size C M H) (hS : va_S (fun q => s.heap.size ≤ q) s.heap H locs) (hl : lv_has ls 4 [(0, .ref b), (1, .ref (aC 0)), (2, .ref (aM 0)), (3, .int x3)]) (h1 : vp_in (x3 + 1) L) (h2 : vp_in (x3 + 2) L) (h3 : vp_in (x3 + 3) L)
    (next : ∀ (C M : St) (H : Heap) (locs : List Loc), Rel C M → LW V aC aM s.heap.size C M H → va_S (fun q => s.heap.size ≤ q) s.heap H locs → W p l e room_1 s m #[Value.ref b] below meth c H locs (56 + (phi C - 192)) (6347 + 2 * (phi C - 192)) Q (F0 m 727 ls [])) : W p l e room_1 s m #[Value.ref b] below meth c H locs (56 + (phi C - 192)) (6347 + 2 * (phi C - 192)) Q (F0 m 407 ls []) := by
  obtain ⟨r, M', hc, hm, hRel2⟩ := hop C M (xs (x3 + 1).toNatClampNeg) (xs (x3 + 2).toNatClampNeg) (xs (x3 + 3).toNatClampNeg) hRel
  have hb1 := hbd C M hRel
  have hb2 := hbd C M' hRel2
  refine lv_aload_n X.1.1 X.1.2.1 dL_law_407 rfl (lv_at hl 1 rfl) ?_
  refine lv_aload_n X.1.1 X.1.2.1 dL_law_408 rfl (lv_at hl 0 rfl) ?_
  refine lv_iload_n X.1.1 X.1.2.1 dL_law_409 rfl (lv_at hl 3 rfl) ?_
  refine lv_iconst (v := 1) X.1.1 X.1.2.1 dL_law_410 (by decide) ?_
  refine lv_iadd X.1.1 X.1.2.1 dL_law_411 ?_
  refine va_sld (A := fun q => s.heap.size ≤ q) X.1.1 X.1.2.1 X.2.2.2.1 X.2.2.2.2 (Nat.not_le.mpr X.2.2.2.2) hS h1 dL_law_412 ?_
  refine lv_aload_n X.1.1 X.1.2.1 dL_law_413 rfl (lv_at hl 0 rfl) ?_
  refine lv_iload_n X.1.1 X.1.2.1 dL_law_414 rfl (lv_at hl 3 rfl) ?_
  refine lv_iconst (v := 2) X.1.1 X.1.2.1 dL_law_415 (by decide) ?_
  refine lv_iadd X.1.1 X.1.2.1 dL_law_416 ?_
  refine va_sld (A := fun q => s.heap.size ≤ q) X.1.1 X.1.2.1 X.2.2.2.1 X.2.2.2.2 (Nat.not_le.mpr X.2.2.2.2) hS h2 dL_law_417 ?_
  refine lv_aload_n X.1.1 X.1.2.1 dL_law_418 rfl (lv_at hl 0 rfl) ?_
  refine lv_iload_n X.1.1 X.1.2.1 dL_law_419 rfl (lv_at hl 3 rfl) ?_
  refine lv_iconst (v := 3) X.1.1 X.1.2.1 dL_law_420 (by decide) ?_
  refine lv_iadd X.1.1 X.1.2.1 dL_law_421 ?_
  refine va_sld (A := fun q => s.heap.size ≤ q) X.1.1 X.1.2.1 X.2.2.2.1 X.2.2.2.2 (Nat.not_le.mpr X.2.2.2.2) hS h3 dL_law_422 ?_
  refine lawC_i (As := [.int (xs (x3 + 1).toNatClampNeg), .int (xs (x3 + 2).toNatClampNeg), .int (xs (x3 + 3).toNatClampNeg)]) (rest := []) X hL hS (w_X7_row l V _ aC hc) mw_X7_row rfl ln_L_60 rfl hl.1 rfl (Nat.le_of_ble_eq_true rfl) ⟨Nat.le_of_ble_eq_true rfl, Nat.le_of_ble_eq_true rfl⟩ ⟨by omega, by omega⟩ dL_law_423 (fun H locs hL hS => ?_)
  refine W.widen (k := 56 + (phi C - 192)) (n := 6347 + 2 * (phi C - 192)) (by omega) (by omega) ?_
  refine lv_aload_n X.1.1 X.1.2.1 dL_law_426 rfl (lv_at hl 2 rfl) ?_
  refine lv_aload_n X.1.1 X.1.2.1 dL_law_427 rfl (lv_at hl 0 rfl) ?_
  refine lv_iload_n X.1.1 X.1.2.1 dL_law_428 rfl (lv_at hl 3 rfl) ?_
  refine lv_iconst (v := 1) X.1.1 X.1.2.1 dL_law_429 (by decide) ?_
  refine lv_iadd X.1.1 X.1.2.1 dL_law_430 ?_
  refine va_sld (A := fun q => s.heap.size ≤ q) X.1.1 X.1.2.1 X.2.2.2.1 X.2.2.2.2 (Nat.not_le.mpr X.2.2.2.2) hS h1 dL_law_431 ?_
  refine lv_aload_n X.1.1 X.1.2.1 dL_law_432 rfl (lv_at hl 0 rfl) ?_
  refine lv_iload_n X.1.1 X.1.2.1 dL_law_433 rfl (lv_at hl 3 rfl) ?_
  refine lv_iconst (v := 2) X.1.1 X.1.2.1 dL_law_434 (by decide) ?_
  refine lv_iadd X.1.1 X.1.2.1 dL_law_435 ?_
  refine va_sld (A := fun q => s.heap.size ≤ q) X.1.1 X.1.2.1 X.2.2.2.1 X.2.2.2.2 (Nat.not_le.mpr X.2.2.2.2) hS h2 dL_law_436 ?_
  refine lv_aload_n X.1.1 X.1.2.1 dL_law_437 rfl (lv_at hl 0 rfl) ?_
  refine lv_iload_n X.1.1 X.1.2.1 dL_law_438 rfl (lv_at hl 3 rfl) ?_
  refine lv_iconst (v := 3) X.1.1 X.1.2.1 dL_law_439 (by decide) ?_
  refine lv_iadd X.1.1 X.1.2.1 dL_law_440 ?_
  refine va_sld (A := fun q => s.heap.size ≤ q) X.1.1 X.1.2.1 X.2.2.2.1 X.2.2.2.2 (Nat.not_le.mpr X.2.2.2.2) hS h3 dL_law_441 ?_
  refine lawM_i (As := [.int (xs (x3 + 1).toNatClampNeg), .int (xs (x3 + 2).toNatClampNeg), .int (xs (x3 + 3).toNatClampNeg)]) (rest := [.int r]) X hL hS (w_X8_row l V _ aM hm) mw_X8_row rfl ln_L_64 rfl hl.1 rfl (Nat.le_of_ble_eq_true rfl) ⟨Nat.le_of_ble_eq_true rfl, Nat.le_of_ble_eq_true rfl⟩ ⟨by omega, by omega⟩ dL_law_442 (fun H locs hL hS => ?_)
  refine lv_icmp_eq (tgt := 727) X.1.1 X.1.2.1 dL_law_445 (by decide) (fun _ => ?_) (fun h => absurd rfl h)
  exact next _ _ _ _ hRel2 hL hS
set_option maxRecDepth 100000 in
theorem law_12 {Rel : St → St → Prop} {x3 : Int32} (hop : Op_12 Rel) (hbd : ∀ c m, Rel c m → 192 ≤ phi c ∧ phi c ≤ 124416) (X : LC V p m c s b L xs) (hRel : Rel C M) (hL : LW V aC aM s.heap.size C M H) (hS : va_S (fun q => s.heap.size ≤ q) s.heap H locs) (hl : lv_has ls 4 [(0, .ref b), (1, .ref (aC 0)), (2, .ref (aM 0)), (3, .int x3)]) (h1 : vp_in (x3 + 1) L) (h2 : vp_in (x3 + 2) L) (h3 : vp_in (x3 + 3) L)
    (next : ∀ (C M : St) (H : Heap) (locs : List Loc), Rel C M → LW V aC aM s.heap.size C M H → va_S (fun q => s.heap.size ≤ q) s.heap H locs → W p l e room_1 s m #[Value.ref b] below meth c H locs (56 + (phi C - 192)) (6347 + 2 * (phi C - 192)) Q (F0 m 727 ls [])) : W p l e room_1 s m #[Value.ref b] below meth c H locs (56 + (phi C - 192)) (6347 + 2 * (phi C - 192)) Q (F0 m 450 ls []) := by
  obtain ⟨r, M', hc, hm, hRel2⟩ := hop C M (xs (x3 + 1).toNatClampNeg) hRel
  have hb1 := hbd C M hRel
  have hb2 := hbd C M' hRel2
  refine lv_aload_n X.1.1 X.1.2.1 dL_law_450 rfl (lv_at hl 1 rfl) ?_
  refine lv_aload_n X.1.1 X.1.2.1 dL_law_451 rfl (lv_at hl 0 rfl) ?_
  refine lv_iload_n X.1.1 X.1.2.1 dL_law_452 rfl (lv_at hl 3 rfl) ?_
  refine lv_iconst (v := 1) X.1.1 X.1.2.1 dL_law_453 (by decide) ?_
  refine lv_iadd X.1.1 X.1.2.1 dL_law_454 ?_
  refine va_sld (A := fun q => s.heap.size ≤ q) X.1.1 X.1.2.1 X.2.2.2.1 X.2.2.2.2 (Nat.not_le.mpr X.2.2.2.2) hS h1 dL_law_455 ?_
  refine lawC_i (As := [.int (xs (x3 + 1).toNatClampNeg)]) (rest := []) X hL hS (w_X7_turned l V _ aC hc) mw_X7_turned rfl ln_L_65 rfl hl.1 rfl (Nat.le_of_ble_eq_true rfl) ⟨Nat.le_of_ble_eq_true rfl, Nat.le_of_ble_eq_true rfl⟩ ⟨by omega, by omega⟩ dL_law_456 (fun H locs hL hS => ?_)
  refine W.widen (k := 56 + (phi C - 192)) (n := 6347 + 2 * (phi C - 192)) (by omega) (by omega) ?_
  refine lv_aload_n X.1.1 X.1.2.1 dL_law_459 rfl (lv_at hl 2 rfl) ?_
  refine lv_aload_n X.1.1 X.1.2.1 dL_law_460 rfl (lv_at hl 0 rfl) ?_
  refine lv_iload_n X.1.1 X.1.2.1 dL_law_461 rfl (lv_at hl 3 rfl) ?_
  refine lv_iconst (v := 1) X.1.1 X.1.2.1 dL_law_462 (by decide) ?_
  refine lv_iadd X.1.1 X.1.2.1 dL_law_463 ?_
  refine va_sld (A := fun q => s.heap.size ≤ q) X.1.1 X.1.2.1 X.2.2.2.1 X.2.2.2.2 (Nat.not_le.mpr X.2.2.2.2) hS h1 dL_law_464 ?_
  refine lawM_i (As := [.int (xs (x3 + 1).toNatClampNeg)]) (rest := [.int r]) X hL hS (w_X8_turned l V _ aM hm) mw_X8_turned rfl ln_L_68 rfl hl.1 rfl (Nat.le_of_ble_eq_true rfl) ⟨Nat.le_of_ble_eq_true rfl, Nat.le_of_ble_eq_true rfl⟩ ⟨by omega, by omega⟩ dL_law_465 (fun H locs hL hS => ?_)
  refine lv_icmp_eq (tgt := 727) X.1.1 X.1.2.1 dL_law_468 (by decide) (fun _ => ?_) (fun h => absurd rfl h)
  exact next _ _ _ _ hRel2 hL hS
set_option maxRecDepth 100000 in
theorem law_13 {Rel : St → St → Prop} {x3 : Int32} (hop : Op_13 Rel) (hbd : ∀ c m, Rel c m → 192 ≤ phi c ∧ phi c ≤ 124416) (X : LC V p m c s b L xs) (hRel : Rel C M) (hL : LW V aC aM s.heap.size C M H) (hS : va_S (fun q => s.heap.size ≤ q) s.heap H locs) (hl : lv_has ls 4 [(0, .ref b), (1, .ref (aC 0)), (2, .ref (aM 0)), (3, .int x3)]) (h1 : vp_in (x3 + 1) L) (h2 : vp_in (x3 + 2) L) (h3 : vp_in (x3 + 3) L)
    (next : ∀ (C M : St) (H : Heap) (locs : List Loc), Rel C M → LW V aC aM s.heap.size C M H → va_S (fun q => s.heap.size ≤ q) s.heap H locs → W p l e room_1 s m #[Value.ref b] below meth c H locs (56 + (phi C - 192)) (6347 + 2 * (phi C - 192)) Q (F0 m 727 ls [])) : W p l e room_1 s m #[Value.ref b] below meth c H locs (56 + (phi C - 192)) (6347 + 2 * (phi C - 192)) Q (F0 m 473 ls []) := by
  obtain ⟨r, C', M', hc, hm, hRel2⟩ := hop C M (xs (x3 + 1).toNatClampNeg) hRel
  have hph : phi C' = phi C := l_X7_heaviest hc
  have hb1 := hbd C M hRel
  have hb2 := hbd C' M' hRel2
  refine lv_aload_n X.1.1 X.1.2.1 dL_law_473 rfl (lv_at hl 1 rfl) ?_
  refine lv_aload_n X.1.1 X.1.2.1 dL_law_474 rfl (lv_at hl 0 rfl) ?_
  refine lv_iload_n X.1.1 X.1.2.1 dL_law_475 rfl (lv_at hl 3 rfl) ?_
  refine lv_iconst (v := 1) X.1.1 X.1.2.1 dL_law_476 (by decide) ?_
  refine lv_iadd X.1.1 X.1.2.1 dL_law_477 ?_
  refine va_sld (A := fun q => s.heap.size ≤ q) X.1.1 X.1.2.1 X.2.2.2.1 X.2.2.2.2 (Nat.not_le.mpr X.2.2.2.2) hS h1 dL_law_478 ?_
  refine lawC_i (As := [.int (xs (x3 + 1).toNatClampNeg)]) (rest := []) X hL hS (w_X7_heaviest l V _ aC hc) mw_X7_heaviest rfl ln_L_69 rfl hl.1 rfl (Nat.le_of_ble_eq_true rfl) ⟨Nat.le_of_ble_eq_true rfl, Nat.le_of_ble_eq_true rfl⟩ ⟨by omega, by omega⟩ dL_law_479 (fun H locs hL hS => ?_)
  refine W.widen (k := 56 + (phi C' - 192)) (n := 6347 + 2 * (phi C' - 192)) (by omega) (by omega) ?_
  refine lv_aload_n X.1.1 X.1.2.1 dL_law_482 rfl (lv_at hl 2 rfl) ?_
  refine lv_aload_n X.1.1 X.1.2.1 dL_law_483 rfl (lv_at hl 0 rfl) ?_
  refine lv_iload_n X.1.1 X.1.2.1 dL_law_484 rfl (lv_at hl 3 rfl) ?_
  refine lv_iconst (v := 1) X.1.1 X.1.2.1 dL_law_485 (by decide) ?_
  refine lv_iadd X.1.1 X.1.2.1 dL_law_486 ?_
  refine va_sld (A := fun q => s.heap.size ≤ q) X.1.1 X.1.2.1 X.2.2.2.1 X.2.2.2.2 (Nat.not_le.mpr X.2.2.2.2) hS h1 dL_law_487 ?_
  refine lawM_i (As := [.int (xs (x3 + 1).toNatClampNeg)]) (rest := [.int r]) X hL hS (w_X8_heaviest l V _ aM hm) mw_X8_heaviest rfl ln_L_72 rfl hl.1 rfl (Nat.le_of_ble_eq_true rfl) ⟨Nat.le_of_ble_eq_true rfl, Nat.le_of_ble_eq_true rfl⟩ ⟨by omega, by omega⟩ dL_law_488 (fun H locs hL hS => ?_)
  refine lv_icmp_eq (tgt := 727) X.1.1 X.1.2.1 dL_law_491 (by decide) (fun _ => ?_) (fun h => absurd rfl h)
  exact next _ _ _ _ hRel2 hL hS
set_option maxRecDepth 100000 in
theorem law_14 {Rel : St → St → Prop} {x3 : Int32} (hop : Op_14 Rel) (hbd : ∀ c m, Rel c m → 192 ≤ phi c ∧ phi c ≤ 124416) (X : LC V p m c s b L xs) (hRel : Rel C M) (hL : LW V aC aM s.heap.size C M H) (hS : va_S (fun q => s.heap.size ≤ q) s.heap H locs) (hl : lv_has ls 4 [(0, .ref b), (1, .ref (aC 0)), (2, .ref (aM 0)), (3, .int x3)]) (h1 : vp_in (x3 + 1) L) (h2 : vp_in (x3 + 2) L) (h3 : vp_in (x3 + 3) L)
    (next : ∀ (C M : St) (H : Heap) (locs : List Loc), Rel C M → LW V aC aM s.heap.size C M H → va_S (fun q => s.heap.size ≤ q) s.heap H locs → W p l e room_1 s m #[Value.ref b] below meth c H locs (56 + (phi C - 192)) (6347 + 2 * (phi C - 192)) Q (F0 m 727 ls [])) : W p l e room_1 s m #[Value.ref b] below meth c H locs (56 + (phi C - 192)) (6347 + 2 * (phi C - 192)) Q (F0 m 496 ls []) := by
  obtain ⟨r, M', hc, hm, hRel2⟩ := hop C M (xs (x3 + 1).toNatClampNeg) hRel
  have hb1 := hbd C M hRel
  have hb2 := hbd C M' hRel2
  refine lv_aload_n X.1.1 X.1.2.1 dL_law_496 rfl (lv_at hl 1 rfl) ?_
  refine lv_aload_n X.1.1 X.1.2.1 dL_law_497 rfl (lv_at hl 0 rfl) ?_
  refine lv_iload_n X.1.1 X.1.2.1 dL_law_498 rfl (lv_at hl 3 rfl) ?_
  refine lv_iconst (v := 1) X.1.1 X.1.2.1 dL_law_499 (by decide) ?_
  refine lv_iadd X.1.1 X.1.2.1 dL_law_500 ?_
  refine va_sld (A := fun q => s.heap.size ≤ q) X.1.1 X.1.2.1 X.2.2.2.1 X.2.2.2.2 (Nat.not_le.mpr X.2.2.2.2) hS h1 dL_law_501 ?_
  refine lawC_i (As := [.int (xs (x3 + 1).toNatClampNeg)]) (rest := []) X hL hS (w_X7_heavy l V _ aC hc) mw_X7_heavy rfl ln_L_73 rfl hl.1 rfl (Nat.le_of_ble_eq_true rfl) ⟨Nat.le_of_ble_eq_true rfl, Nat.le_of_ble_eq_true rfl⟩ ⟨by omega, by omega⟩ dL_law_502 (fun H locs hL hS => ?_)
  refine W.widen (k := 56 + (phi C - 192)) (n := 6347 + 2 * (phi C - 192)) (by omega) (by omega) ?_
  refine lv_aload_n X.1.1 X.1.2.1 dL_law_505 rfl (lv_at hl 2 rfl) ?_
  refine lv_aload_n X.1.1 X.1.2.1 dL_law_506 rfl (lv_at hl 0 rfl) ?_
  refine lv_iload_n X.1.1 X.1.2.1 dL_law_507 rfl (lv_at hl 3 rfl) ?_
  refine lv_iconst (v := 1) X.1.1 X.1.2.1 dL_law_508 (by decide) ?_
  refine lv_iadd X.1.1 X.1.2.1 dL_law_509 ?_
  refine va_sld (A := fun q => s.heap.size ≤ q) X.1.1 X.1.2.1 X.2.2.2.1 X.2.2.2.2 (Nat.not_le.mpr X.2.2.2.2) hS h1 dL_law_510 ?_
  refine lawM_i (As := [.int (xs (x3 + 1).toNatClampNeg)]) (rest := [.int r]) X hL hS (w_X8_heavy l V _ aM hm) mw_X8_heavy rfl ln_L_76 rfl hl.1 rfl (Nat.le_of_ble_eq_true rfl) ⟨Nat.le_of_ble_eq_true rfl, Nat.le_of_ble_eq_true rfl⟩ ⟨by omega, by omega⟩ dL_law_511 (fun H locs hL hS => ?_)
  refine lv_icmp_eq (tgt := 727) X.1.1 X.1.2.1 dL_law_514 (by decide) (fun _ => ?_) (fun h => absurd rfl h)
  exact next _ _ _ _ hRel2 hL hS
set_option maxRecDepth 100000 in
theorem law_15 {Rel : St → St → Prop} {x3 : Int32} (hop : Op_15 Rel) (hbd : ∀ c m, Rel c m → 192 ≤ phi c ∧ phi c ≤ 124416) (X : LC V p m c s b L xs) (hRel : Rel C M) (hL : LW V aC aM s.heap.size C M H) (hS : va_S (fun q => s.heap.size ≤ q) s.heap H locs) (hl : lv_has ls 4 [(0, .ref b), (1, .ref (aC 0)), (2, .ref (aM 0)), (3, .int x3)]) (h1 : vp_in (x3 + 1) L) (h2 : vp_in (x3 + 2) L) (h3 : vp_in (x3 + 3) L)
    (next : ∀ (C M : St) (H : Heap) (locs : List Loc), Rel C M → LW V aC aM s.heap.size C M H → va_S (fun q => s.heap.size ≤ q) s.heap H locs → W p l e room_1 s m #[Value.ref b] below meth c H locs (56 + (phi C - 192)) (6347 + 2 * (phi C - 192)) Q (F0 m 727 ls [])) : W p l e room_1 s m #[Value.ref b] below meth c H locs (56 + (phi C - 192)) (6347 + 2 * (phi C - 192)) Q (F0 m 519 ls []) := by
  obtain ⟨r, C', M', hc, hm, hRel2⟩ := hop C M (xs (x3 + 1).toNatClampNeg) (xs (x3 + 2).toNatClampNeg) hRel
  have hph : phi C' = phi C := l_X7_put hc
  have hb1 := hbd C M hRel
  have hb2 := hbd C' M' hRel2
  refine lv_aload_n X.1.1 X.1.2.1 dL_law_519 rfl (lv_at hl 1 rfl) ?_
  refine lv_aload_n X.1.1 X.1.2.1 dL_law_520 rfl (lv_at hl 0 rfl) ?_
  refine lv_iload_n X.1.1 X.1.2.1 dL_law_521 rfl (lv_at hl 3 rfl) ?_
  refine lv_iconst (v := 1) X.1.1 X.1.2.1 dL_law_522 (by decide) ?_
  refine lv_iadd X.1.1 X.1.2.1 dL_law_523 ?_
  refine va_sld (A := fun q => s.heap.size ≤ q) X.1.1 X.1.2.1 X.2.2.2.1 X.2.2.2.2 (Nat.not_le.mpr X.2.2.2.2) hS h1 dL_law_524 ?_
  refine lv_aload_n X.1.1 X.1.2.1 dL_law_525 rfl (lv_at hl 0 rfl) ?_
  refine lv_iload_n X.1.1 X.1.2.1 dL_law_526 rfl (lv_at hl 3 rfl) ?_
  refine lv_iconst (v := 2) X.1.1 X.1.2.1 dL_law_527 (by decide) ?_
  refine lv_iadd X.1.1 X.1.2.1 dL_law_528 ?_
  refine va_sld (A := fun q => s.heap.size ≤ q) X.1.1 X.1.2.1 X.2.2.2.1 X.2.2.2.2 (Nat.not_le.mpr X.2.2.2.2) hS h2 dL_law_529 ?_
  refine lawC_i (As := [.int (xs (x3 + 1).toNatClampNeg), .int (xs (x3 + 2).toNatClampNeg)]) (rest := []) X hL hS (w_X7_put l V _ aC hc) mw_X7_put rfl ln_L_77 rfl hl.1 rfl (Nat.le_of_ble_eq_true rfl) ⟨Nat.le_of_ble_eq_true rfl, Nat.le_of_ble_eq_true rfl⟩ ⟨by omega, by omega⟩ dL_law_530 (fun H locs hL hS => ?_)
  refine W.widen (k := 56 + (phi C' - 192)) (n := 6347 + 2 * (phi C' - 192)) (by omega) (by omega) ?_
  refine lv_aload_n X.1.1 X.1.2.1 dL_law_533 rfl (lv_at hl 2 rfl) ?_
  refine lv_aload_n X.1.1 X.1.2.1 dL_law_534 rfl (lv_at hl 0 rfl) ?_
  refine lv_iload_n X.1.1 X.1.2.1 dL_law_535 rfl (lv_at hl 3 rfl) ?_
  refine lv_iconst (v := 1) X.1.1 X.1.2.1 dL_law_536 (by decide) ?_
  refine lv_iadd X.1.1 X.1.2.1 dL_law_537 ?_
  refine va_sld (A := fun q => s.heap.size ≤ q) X.1.1 X.1.2.1 X.2.2.2.1 X.2.2.2.2 (Nat.not_le.mpr X.2.2.2.2) hS h1 dL_law_538 ?_
  refine lv_aload_n X.1.1 X.1.2.1 dL_law_539 rfl (lv_at hl 0 rfl) ?_
  refine lv_iload_n X.1.1 X.1.2.1 dL_law_540 rfl (lv_at hl 3 rfl) ?_
  refine lv_iconst (v := 2) X.1.1 X.1.2.1 dL_law_541 (by decide) ?_
  refine lv_iadd X.1.1 X.1.2.1 dL_law_542 ?_
  refine va_sld (A := fun q => s.heap.size ≤ q) X.1.1 X.1.2.1 X.2.2.2.1 X.2.2.2.2 (Nat.not_le.mpr X.2.2.2.2) hS h2 dL_law_543 ?_
  refine lawM_i (As := [.int (xs (x3 + 1).toNatClampNeg), .int (xs (x3 + 2).toNatClampNeg)]) (rest := [.int r]) X hL hS (w_X8_put l V _ aM hm) mw_X8_put rfl ln_L_80 rfl hl.1 rfl (Nat.le_of_ble_eq_true rfl) ⟨Nat.le_of_ble_eq_true rfl, Nat.le_of_ble_eq_true rfl⟩ ⟨by omega, by omega⟩ dL_law_544 (fun H locs hL hS => ?_)
  refine lv_icmp_eq (tgt := 727) X.1.1 X.1.2.1 dL_law_547 (by decide) (fun _ => ?_) (fun h => absurd rfl h)
  exact next _ _ _ _ hRel2 hL hS
set_option maxRecDepth 100000 in
theorem law_16 {Rel : St → St → Prop} {x3 : Int32} (hop : Op_16 Rel) (hbd : ∀ c m, Rel c m → 192 ≤ phi c ∧ phi c ≤ 124416) (X : LC V p m c s b L xs) (hRel : Rel C M) (hL : LW V aC aM s.heap.size C M H) (hS : va_S (fun q => s.heap.size ≤ q) s.heap H locs) (hl : lv_has ls 4 [(0, .ref b), (1, .ref (aC 0)), (2, .ref (aM 0)), (3, .int x3)]) (h1 : vp_in (x3 + 1) L) (h2 : vp_in (x3 + 2) L) (h3 : vp_in (x3 + 3) L)
    (next : ∀ (C M : St) (H : Heap) (locs : List Loc), Rel C M → LW V aC aM s.heap.size C M H → va_S (fun q => s.heap.size ≤ q) s.heap H locs → W p l e room_1 s m #[Value.ref b] below meth c H locs (56 + (phi C - 192)) (6347 + 2 * (phi C - 192)) Q (F0 m 727 ls [])) : W p l e room_1 s m #[Value.ref b] below meth c H locs (56 + (phi C - 192)) (6347 + 2 * (phi C - 192)) Q (F0 m 552 ls []) := by
  obtain ⟨r, C', M', hc, hm, hRel2⟩ := hop C M (xs (x3 + 1).toNatClampNeg) hRel
  have hph : phi C' = phi C := l_X7_lift hc
  have hb1 := hbd C M hRel
  have hb2 := hbd C' M' hRel2
  refine lv_aload_n X.1.1 X.1.2.1 dL_law_552 rfl (lv_at hl 1 rfl) ?_
  refine lv_aload_n X.1.1 X.1.2.1 dL_law_553 rfl (lv_at hl 0 rfl) ?_
  refine lv_iload_n X.1.1 X.1.2.1 dL_law_554 rfl (lv_at hl 3 rfl) ?_
  refine lv_iconst (v := 1) X.1.1 X.1.2.1 dL_law_555 (by decide) ?_
  refine lv_iadd X.1.1 X.1.2.1 dL_law_556 ?_
  refine va_sld (A := fun q => s.heap.size ≤ q) X.1.1 X.1.2.1 X.2.2.2.1 X.2.2.2.2 (Nat.not_le.mpr X.2.2.2.2) hS h1 dL_law_557 ?_
  refine lawC_i (As := [.int (xs (x3 + 1).toNatClampNeg)]) (rest := []) X hL hS (w_X7_lift l V _ aC hc) mw_X7_lift rfl ln_L_81 rfl hl.1 rfl (Nat.le_of_ble_eq_true rfl) ⟨Nat.le_of_ble_eq_true rfl, Nat.le_of_ble_eq_true rfl⟩ ⟨by omega, by omega⟩ dL_law_558 (fun H locs hL hS => ?_)
  refine W.widen (k := 56 + (phi C' - 192)) (n := 6347 + 2 * (phi C' - 192)) (by omega) (by omega) ?_
  refine lv_aload_n X.1.1 X.1.2.1 dL_law_561 rfl (lv_at hl 2 rfl) ?_
  refine lv_aload_n X.1.1 X.1.2.1 dL_law_562 rfl (lv_at hl 0 rfl) ?_
  refine lv_iload_n X.1.1 X.1.2.1 dL_law_563 rfl (lv_at hl 3 rfl) ?_
  refine lv_iconst (v := 1) X.1.1 X.1.2.1 dL_law_564 (by decide) ?_
  refine lv_iadd X.1.1 X.1.2.1 dL_law_565 ?_
  refine va_sld (A := fun q => s.heap.size ≤ q) X.1.1 X.1.2.1 X.2.2.2.1 X.2.2.2.2 (Nat.not_le.mpr X.2.2.2.2) hS h1 dL_law_566 ?_
  refine lawM_i (As := [.int (xs (x3 + 1).toNatClampNeg)]) (rest := [.int r]) X hL hS (w_X8_lift l V _ aM hm) mw_X8_lift rfl ln_L_84 rfl hl.1 rfl (Nat.le_of_ble_eq_true rfl) ⟨Nat.le_of_ble_eq_true rfl, Nat.le_of_ble_eq_true rfl⟩ ⟨by omega, by omega⟩ dL_law_567 (fun H locs hL hS => ?_)
  refine lv_icmp_eq (tgt := 727) X.1.1 X.1.2.1 dL_law_570 (by decide) (fun _ => ?_) (fun h => absurd rfl h)
  exact next _ _ _ _ hRel2 hL hS
set_option maxRecDepth 100000 in
theorem law_17 {Rel : St → St → Prop} {x3 : Int32} (hop : Op_17 Rel) (hbd : ∀ c m, Rel c m → 192 ≤ phi c ∧ phi c ≤ 124416) (X : LC V p m c s b L xs) (hRel : Rel C M) (hL : LW V aC aM s.heap.size C M H) (hS : va_S (fun q => s.heap.size ≤ q) s.heap H locs) (hl : lv_has ls 4 [(0, .ref b), (1, .ref (aC 0)), (2, .ref (aM 0)), (3, .int x3)]) (h1 : vp_in (x3 + 1) L) (h2 : vp_in (x3 + 2) L) (h3 : vp_in (x3 + 3) L)
    (next : ∀ (C M : St) (H : Heap) (locs : List Loc), Rel C M → LW V aC aM s.heap.size C M H → va_S (fun q => s.heap.size ≤ q) s.heap H locs → W p l e room_1 s m #[Value.ref b] below meth c H locs (56 + (phi C - 192)) (6347 + 2 * (phi C - 192)) Q (F0 m 727 ls [])) : W p l e room_1 s m #[Value.ref b] below meth c H locs (56 + (phi C - 192)) (6347 + 2 * (phi C - 192)) Q (F0 m 575 ls []) := by
  obtain ⟨r, hc, hm, hRel2⟩ := hop C M (xs (x3 + 1).toNatClampNeg) hRel
  have hb1 := hbd C M hRel
  have hb2 := hbd C M hRel2
  refine lv_aload_n X.1.1 X.1.2.1 dL_law_575 rfl (lv_at hl 1 rfl) ?_
  refine lv_aload_n X.1.1 X.1.2.1 dL_law_576 rfl (lv_at hl 0 rfl) ?_
  refine lv_iload_n X.1.1 X.1.2.1 dL_law_577 rfl (lv_at hl 3 rfl) ?_
  refine lv_iconst (v := 1) X.1.1 X.1.2.1 dL_law_578 (by decide) ?_
  refine lv_iadd X.1.1 X.1.2.1 dL_law_579 ?_
  refine va_sld (A := fun q => s.heap.size ≤ q) X.1.1 X.1.2.1 X.2.2.2.1 X.2.2.2.2 (Nat.not_le.mpr X.2.2.2.2) hS h1 dL_law_580 ?_
  refine lawC_i (As := [.int (xs (x3 + 1).toNatClampNeg)]) (rest := []) X hL hS (w_X7_board l V _ aC hc) mw_X7_board rfl ln_L_85 rfl hl.1 rfl (Nat.le_of_ble_eq_true rfl) ⟨Nat.le_of_ble_eq_true rfl, Nat.le_of_ble_eq_true rfl⟩ ⟨by omega, by omega⟩ dL_law_581 (fun H locs hL hS => ?_)
  refine W.widen (k := 56 + (phi C - 192)) (n := 6347 + 2 * (phi C - 192)) (by omega) (by omega) ?_
  refine lv_aload_n X.1.1 X.1.2.1 dL_law_584 rfl (lv_at hl 2 rfl) ?_
  refine lv_aload_n X.1.1 X.1.2.1 dL_law_585 rfl (lv_at hl 0 rfl) ?_
  refine lv_iload_n X.1.1 X.1.2.1 dL_law_586 rfl (lv_at hl 3 rfl) ?_
  refine lv_iconst (v := 1) X.1.1 X.1.2.1 dL_law_587 (by decide) ?_
  refine lv_iadd X.1.1 X.1.2.1 dL_law_588 ?_
  refine va_sld (A := fun q => s.heap.size ≤ q) X.1.1 X.1.2.1 X.2.2.2.1 X.2.2.2.2 (Nat.not_le.mpr X.2.2.2.2) hS h1 dL_law_589 ?_
  refine lawM_i (As := [.int (xs (x3 + 1).toNatClampNeg)]) (rest := [.int r]) X hL hS (w_X8_board l V _ aM hm) mw_X8_board rfl ln_L_88 rfl hl.1 rfl (Nat.le_of_ble_eq_true rfl) ⟨Nat.le_of_ble_eq_true rfl, Nat.le_of_ble_eq_true rfl⟩ ⟨by omega, by omega⟩ dL_law_590 (fun H locs hL hS => ?_)
  refine lv_icmp_eq (tgt := 727) X.1.1 X.1.2.1 dL_law_593 (by decide) (fun _ => ?_) (fun h => absurd rfl h)
  exact next _ _ _ _ hRel2 hL hS
set_option maxRecDepth 100000 in
theorem law_18 {Rel : St → St → Prop} {x3 : Int32} (hop : Op_18 Rel) (hbd : ∀ c m, Rel c m → 192 ≤ phi c ∧ phi c ≤ 124416) (X : LC V p m c s b L xs) (hRel : Rel C M) (hL : LW V aC aM s.heap.size C M H) (hS : va_S (fun q => s.heap.size ≤ q) s.heap H locs) (hl : lv_has ls 4 [(0, .ref b), (1, .ref (aC 0)), (2, .ref (aM 0)), (3, .int x3)]) (h1 : vp_in (x3 + 1) L) (h2 : vp_in (x3 + 2) L) (h3 : vp_in (x3 + 3) L)
    (next : ∀ (C M : St) (H : Heap) (locs : List Loc), Rel C M → LW V aC aM s.heap.size C M H → va_S (fun q => s.heap.size ≤ q) s.heap H locs → W p l e room_1 s m #[Value.ref b] below meth c H locs (56 + (phi C - 192)) (6347 + 2 * (phi C - 192)) Q (F0 m 727 ls [])) : W p l e room_1 s m #[Value.ref b] below meth c H locs (56 + (phi C - 192)) (6347 + 2 * (phi C - 192)) Q (F0 m 598 ls []) := by
  obtain ⟨r, C', M', hc, hm, hRel2⟩ := hop C M  hRel
  have hph : phi C' = phi C := l_X7_fitting hc
  have hb1 := hbd C M hRel
  have hb2 := hbd C' M' hRel2
  refine lv_aload_n X.1.1 X.1.2.1 dL_law_598 rfl (lv_at hl 1 rfl) ?_
  refine lawC_i (As := []) (rest := []) X hL hS (w_X7_fitting l V _ aC hc) mw_X7_fitting rfl ln_L_89 rfl hl.1 rfl (Nat.le_of_ble_eq_true rfl) ⟨Nat.le_of_ble_eq_true rfl, Nat.le_of_ble_eq_true rfl⟩ ⟨by omega, by omega⟩ dL_law_599 (fun H locs hL hS => ?_)
  refine W.widen (k := 56 + (phi C' - 192)) (n := 6347 + 2 * (phi C' - 192)) (by omega) (by omega) ?_
  refine lv_aload_n X.1.1 X.1.2.1 dL_law_602 rfl (lv_at hl 2 rfl) ?_
  refine lawM_i (As := []) (rest := [.int r]) X hL hS (w_X8_fitting l V _ aM hm) mw_X8_fitting rfl ln_L_92 rfl hl.1 rfl (Nat.le_of_ble_eq_true rfl) ⟨Nat.le_of_ble_eq_true rfl, Nat.le_of_ble_eq_true rfl⟩ ⟨by omega, by omega⟩ dL_law_603 (fun H locs hL hS => ?_)
  refine lv_icmp_eq (tgt := 727) X.1.1 X.1.2.1 dL_law_606 (by decide) (fun _ => ?_) (fun h => absurd rfl h)
  exact next _ _ _ _ hRel2 hL hS
set_option maxRecDepth 100000 in
theorem law_19 {Rel : St → St → Prop} {x3 : Int32} (hop : Op_19 Rel) (hbd : ∀ c m, Rel c m → 192 ≤ phi c ∧ phi c ≤ 124416) (X : LC V p m c s b L xs) (hRel : Rel C M) (hL : LW V aC aM s.heap.size C M H) (hS : va_S (fun q => s.heap.size ≤ q) s.heap H locs) (hl : lv_has ls 4 [(0, .ref b), (1, .ref (aC 0)), (2, .ref (aM 0)), (3, .int x3)]) (h1 : vp_in (x3 + 1) L) (h2 : vp_in (x3 + 2) L) (h3 : vp_in (x3 + 3) L)
    (next : ∀ (C M : St) (H : Heap) (locs : List Loc), Rel C M → LW V aC aM s.heap.size C M H → va_S (fun q => s.heap.size ≤ q) s.heap H locs → W p l e room_1 s m #[Value.ref b] below meth c H locs (56 + (phi C - 192)) (6347 + 2 * (phi C - 192)) Q (F0 m 727 ls [])) : W p l e room_1 s m #[Value.ref b] below meth c H locs (56 + (phi C - 192)) (6347 + 2 * (phi C - 192)) Q (F0 m 611 ls []) := by
  obtain ⟨r, C', M', hc, hm, hRel2⟩ := hop C M (xs (x3 + 1).toNatClampNeg) hRel
  have hph : phi C' = phi C := l_X7_may hc
  have hb1 := hbd C M hRel
  have hb2 := hbd C' M' hRel2
  refine lv_aload_n X.1.1 X.1.2.1 dL_law_611 rfl (lv_at hl 1 rfl) ?_
  refine lv_aload_n X.1.1 X.1.2.1 dL_law_612 rfl (lv_at hl 0 rfl) ?_
  refine lv_iload_n X.1.1 X.1.2.1 dL_law_613 rfl (lv_at hl 3 rfl) ?_
  refine lv_iconst (v := 1) X.1.1 X.1.2.1 dL_law_614 (by decide) ?_
  refine lv_iadd X.1.1 X.1.2.1 dL_law_615 ?_
  refine va_sld (A := fun q => s.heap.size ≤ q) X.1.1 X.1.2.1 X.2.2.2.1 X.2.2.2.2 (Nat.not_le.mpr X.2.2.2.2) hS h1 dL_law_616 ?_
  refine lawC_i (As := [.int (xs (x3 + 1).toNatClampNeg)]) (rest := []) X hL hS (w_X7_may l V _ aC hc) mw_X7_may rfl ln_L_93 rfl hl.1 rfl (Nat.le_of_ble_eq_true rfl) ⟨Nat.le_of_ble_eq_true rfl, Nat.le_of_ble_eq_true rfl⟩ ⟨by omega, by omega⟩ dL_law_617 (fun H locs hL hS => ?_)
  refine W.widen (k := 56 + (phi C' - 192)) (n := 6347 + 2 * (phi C' - 192)) (by omega) (by omega) ?_
  refine lv_aload_n X.1.1 X.1.2.1 dL_law_620 rfl (lv_at hl 2 rfl) ?_
  refine lv_aload_n X.1.1 X.1.2.1 dL_law_621 rfl (lv_at hl 0 rfl) ?_
  refine lv_iload_n X.1.1 X.1.2.1 dL_law_622 rfl (lv_at hl 3 rfl) ?_
  refine lv_iconst (v := 1) X.1.1 X.1.2.1 dL_law_623 (by decide) ?_
  refine lv_iadd X.1.1 X.1.2.1 dL_law_624 ?_
  refine va_sld (A := fun q => s.heap.size ≤ q) X.1.1 X.1.2.1 X.2.2.2.1 X.2.2.2.2 (Nat.not_le.mpr X.2.2.2.2) hS h1 dL_law_625 ?_
  refine lawM_i (As := [.int (xs (x3 + 1).toNatClampNeg)]) (rest := [.int r]) X hL hS (w_X8_may l V _ aM hm) mw_X8_may rfl ln_L_96 rfl hl.1 rfl (Nat.le_of_ble_eq_true rfl) ⟨Nat.le_of_ble_eq_true rfl, Nat.le_of_ble_eq_true rfl⟩ ⟨by omega, by omega⟩ dL_law_626 (fun H locs hL hS => ?_)
  refine lv_icmp_eq (tgt := 727) X.1.1 X.1.2.1 dL_law_629 (by decide) (fun _ => ?_) (fun h => absurd rfl h)
  exact next _ _ _ _ hRel2 hL hS
set_option maxRecDepth 100000 in
theorem law_20 {Rel : St → St → Prop} {x3 : Int32} (hop : Op_20 Rel) (hbd : ∀ c m, Rel c m → 192 ≤ phi c ∧ phi c ≤ 124416) (X : LC V p m c s b L xs) (hRel : Rel C M) (hL : LW V aC aM s.heap.size C M H) (hS : va_S (fun q => s.heap.size ≤ q) s.heap H locs) (hl : lv_has ls 4 [(0, .ref b), (1, .ref (aC 0)), (2, .ref (aM 0)), (3, .int x3)]) (h1 : vp_in (x3 + 1) L) (h2 : vp_in (x3 + 2) L) (h3 : vp_in (x3 + 3) L)
    (next : ∀ (C M : St) (H : Heap) (locs : List Loc), Rel C M → LW V aC aM s.heap.size C M H → va_S (fun q => s.heap.size ≤ q) s.heap H locs → W p l e room_1 s m #[Value.ref b] below meth c H locs (56 + (phi C - 192)) (6347 + 2 * (phi C - 192)) Q (F0 m 727 ls [])) : W p l e room_1 s m #[Value.ref b] below meth c H locs (56 + (phi C - 192)) (6347 + 2 * (phi C - 192)) Q (F0 m 634 ls []) := by
  obtain ⟨r, C', M', hc, hm, hRel2⟩ := hop C M (xs (x3 + 1).toNatClampNeg) (xs (x3 + 2).toNatClampNeg) hRel
  have hph : phi C' = phi C := l_X7_sure hc
  have hb1 := hbd C M hRel
  have hb2 := hbd C' M' hRel2
  refine lv_aload_n X.1.1 X.1.2.1 dL_law_634 rfl (lv_at hl 1 rfl) ?_
  refine lv_aload_n X.1.1 X.1.2.1 dL_law_635 rfl (lv_at hl 0 rfl) ?_
  refine lv_iload_n X.1.1 X.1.2.1 dL_law_636 rfl (lv_at hl 3 rfl) ?_
  refine lv_iconst (v := 1) X.1.1 X.1.2.1 dL_law_637 (by decide) ?_
  refine lv_iadd X.1.1 X.1.2.1 dL_law_638 ?_
  refine va_sld (A := fun q => s.heap.size ≤ q) X.1.1 X.1.2.1 X.2.2.2.1 X.2.2.2.2 (Nat.not_le.mpr X.2.2.2.2) hS h1 dL_law_639 ?_
  refine lv_aload_n X.1.1 X.1.2.1 dL_law_640 rfl (lv_at hl 0 rfl) ?_
  refine lv_iload_n X.1.1 X.1.2.1 dL_law_641 rfl (lv_at hl 3 rfl) ?_
  refine lv_iconst (v := 2) X.1.1 X.1.2.1 dL_law_642 (by decide) ?_
  refine lv_iadd X.1.1 X.1.2.1 dL_law_643 ?_
  refine va_sld (A := fun q => s.heap.size ≤ q) X.1.1 X.1.2.1 X.2.2.2.1 X.2.2.2.2 (Nat.not_le.mpr X.2.2.2.2) hS h2 dL_law_644 ?_
  refine lawC_i (As := [.int (xs (x3 + 1).toNatClampNeg), .int (xs (x3 + 2).toNatClampNeg)]) (rest := []) X hL hS (w_X7_sure l V _ aC hc) mw_X7_sure rfl ln_L_97 rfl hl.1 rfl (Nat.le_of_ble_eq_true rfl) ⟨Nat.le_of_ble_eq_true rfl, Nat.le_of_ble_eq_true rfl⟩ ⟨by omega, by omega⟩ dL_law_645 (fun H locs hL hS => ?_)
  refine W.widen (k := 56 + (phi C' - 192)) (n := 6347 + 2 * (phi C' - 192)) (by omega) (by omega) ?_
  refine lv_aload_n X.1.1 X.1.2.1 dL_law_648 rfl (lv_at hl 2 rfl) ?_
  refine lv_aload_n X.1.1 X.1.2.1 dL_law_649 rfl (lv_at hl 0 rfl) ?_
  refine lv_iload_n X.1.1 X.1.2.1 dL_law_650 rfl (lv_at hl 3 rfl) ?_
  refine lv_iconst (v := 1) X.1.1 X.1.2.1 dL_law_651 (by decide) ?_
  refine lv_iadd X.1.1 X.1.2.1 dL_law_652 ?_
  refine va_sld (A := fun q => s.heap.size ≤ q) X.1.1 X.1.2.1 X.2.2.2.1 X.2.2.2.2 (Nat.not_le.mpr X.2.2.2.2) hS h1 dL_law_653 ?_
  refine lv_aload_n X.1.1 X.1.2.1 dL_law_654 rfl (lv_at hl 0 rfl) ?_
  refine lv_iload_n X.1.1 X.1.2.1 dL_law_655 rfl (lv_at hl 3 rfl) ?_
  refine lv_iconst (v := 2) X.1.1 X.1.2.1 dL_law_656 (by decide) ?_
  refine lv_iadd X.1.1 X.1.2.1 dL_law_657 ?_
  refine va_sld (A := fun q => s.heap.size ≤ q) X.1.1 X.1.2.1 X.2.2.2.1 X.2.2.2.2 (Nat.not_le.mpr X.2.2.2.2) hS h2 dL_law_658 ?_
  refine lawM_i (As := [.int (xs (x3 + 1).toNatClampNeg), .int (xs (x3 + 2).toNatClampNeg)]) (rest := [.int r]) X hL hS (w_X8_sure l V _ aM hm) mw_X8_sure rfl ln_L_100 rfl hl.1 rfl (Nat.le_of_ble_eq_true rfl) ⟨Nat.le_of_ble_eq_true rfl, Nat.le_of_ble_eq_true rfl⟩ ⟨by omega, by omega⟩ dL_law_659 (fun H locs hL hS => ?_)
  refine lv_icmp_eq (tgt := 727) X.1.1 X.1.2.1 dL_law_662 (by decide) (fun _ => ?_) (fun h => absurd rfl h)
  exact next _ _ _ _ hRel2 hL hS
set_option maxRecDepth 100000 in
theorem law_21 {Rel : St → St → Prop} {x3 : Int32} (hop : Op_21 Rel) (hbd : ∀ c m, Rel c m → 192 ≤ phi c ∧ phi c ≤ 124416) (X : LC V p m c s b L xs) (hRel : Rel C M) (hL : LW V aC aM s.heap.size C M H) (hS : va_S (fun q => s.heap.size ≤ q) s.heap H locs) (hl : lv_has ls 4 [(0, .ref b), (1, .ref (aC 0)), (2, .ref (aM 0)), (3, .int x3)]) (h1 : vp_in (x3 + 1) L) (h2 : vp_in (x3 + 2) L) (h3 : vp_in (x3 + 3) L)
    (next : ∀ (C M : St) (H : Heap) (locs : List Loc), Rel C M → LW V aC aM s.heap.size C M H → va_S (fun q => s.heap.size ≤ q) s.heap H locs → W p l e room_1 s m #[Value.ref b] below meth c H locs (56 + (phi C - 192)) (6347 + 2 * (phi C - 192)) Q (F0 m 727 ls [])) : W p l e room_1 s m #[Value.ref b] below meth c H locs (56 + (phi C - 192)) (6347 + 2 * (phi C - 192)) Q (F0 m 667 ls []) := by
  obtain ⟨r, M', hc, hm, hRel2⟩ := hop C M (xs (x3 + 1).toNatClampNeg) hRel
  have hb1 := hbd C M hRel
  have hb2 := hbd C M' hRel2
  refine lv_aload_n X.1.1 X.1.2.1 dL_law_667 rfl (lv_at hl 1 rfl) ?_
  refine lv_aload_n X.1.1 X.1.2.1 dL_law_668 rfl (lv_at hl 0 rfl) ?_
  refine lv_iload_n X.1.1 X.1.2.1 dL_law_669 rfl (lv_at hl 3 rfl) ?_
  refine lv_iconst (v := 1) X.1.1 X.1.2.1 dL_law_670 (by decide) ?_
  refine lv_iadd X.1.1 X.1.2.1 dL_law_671 ?_
  refine va_sld (A := fun q => s.heap.size ≤ q) X.1.1 X.1.2.1 X.2.2.2.1 X.2.2.2.2 (Nat.not_le.mpr X.2.2.2.2) hS h1 dL_law_672 ?_
  refine lawC_i (As := [.int (xs (x3 + 1).toNatClampNeg)]) (rest := []) X hL hS (w_X7_search l V _ aC hc) mw_X7_search rfl ln_L_101 rfl hl.1 rfl (Nat.le_of_ble_eq_true rfl) ⟨Nat.le_of_ble_eq_true rfl, Nat.le_of_ble_eq_true rfl⟩ ⟨by omega, by omega⟩ dL_law_673 (fun H locs hL hS => ?_)
  refine W.widen (k := 56 + (phi C - 192)) (n := 6347 + 2 * (phi C - 192)) (by omega) (by omega) ?_
  refine lv_aload_n X.1.1 X.1.2.1 dL_law_676 rfl (lv_at hl 2 rfl) ?_
  refine lv_aload_n X.1.1 X.1.2.1 dL_law_677 rfl (lv_at hl 0 rfl) ?_
  refine lv_iload_n X.1.1 X.1.2.1 dL_law_678 rfl (lv_at hl 3 rfl) ?_
  refine lv_iconst (v := 1) X.1.1 X.1.2.1 dL_law_679 (by decide) ?_
  refine lv_iadd X.1.1 X.1.2.1 dL_law_680 ?_
  refine va_sld (A := fun q => s.heap.size ≤ q) X.1.1 X.1.2.1 X.2.2.2.1 X.2.2.2.2 (Nat.not_le.mpr X.2.2.2.2) hS h1 dL_law_681 ?_
  refine lawM_i (As := [.int (xs (x3 + 1).toNatClampNeg)]) (rest := [.int r]) X hL hS (w_X8_search l V _ aM hm) mw_X8_search rfl ln_L_104 rfl hl.1 rfl (Nat.le_of_ble_eq_true rfl) ⟨Nat.le_of_ble_eq_true rfl, Nat.le_of_ble_eq_true rfl⟩ ⟨by omega, by omega⟩ dL_law_682 (fun H locs hL hS => ?_)
  refine lv_icmp_eq (tgt := 727) X.1.1 X.1.2.1 dL_law_685 (by decide) (fun _ => ?_) (fun h => absurd rfl h)
  exact next _ _ _ _ hRel2 hL hS
set_option maxRecDepth 100000 in
theorem law_22 {Rel : St → St → Prop} {x3 : Int32} (hop : Op_22 Rel) (hbd : ∀ c m, Rel c m → 192 ≤ phi c ∧ phi c ≤ 124416) (X : LC V p m c s b L xs) (hRel : Rel C M) (hL : LW V aC aM s.heap.size C M H) (hS : va_S (fun q => s.heap.size ≤ q) s.heap H locs) (hl : lv_has ls 4 [(0, .ref b), (1, .ref (aC 0)), (2, .ref (aM 0)), (3, .int x3)]) (h1 : vp_in (x3 + 1) L) (h2 : vp_in (x3 + 2) L) (h3 : vp_in (x3 + 3) L)
    (next : ∀ (C M : St) (H : Heap) (locs : List Loc), Rel C M → LW V aC aM s.heap.size C M H → va_S (fun q => s.heap.size ≤ q) s.heap H locs → W p l e room_1 s m #[Value.ref b] below meth c H locs (56 + (phi C - 192)) (6347 + 2 * (phi C - 192)) Q (F0 m 727 ls [])) : W p l e room_1 s m #[Value.ref b] below meth c H locs (56 + (phi C - 192)) (6347 + 2 * (phi C - 192)) Q (F0 m 690 ls []) := by
  obtain ⟨r, hc, hm, hRel2⟩ := hop C M (xs (x3 + 1).toNatClampNeg) hRel
  have hb1 := hbd C M hRel
  have hb2 := hbd C M hRel2
  refine lv_aload_n X.1.1 X.1.2.1 dL_law_690 rfl (lv_at hl 1 rfl) ?_
  refine lv_aload_n X.1.1 X.1.2.1 dL_law_691 rfl (lv_at hl 0 rfl) ?_
  refine lv_iload_n X.1.1 X.1.2.1 dL_law_692 rfl (lv_at hl 3 rfl) ?_
  refine lv_iconst (v := 1) X.1.1 X.1.2.1 dL_law_693 (by decide) ?_
  refine lv_iadd X.1.1 X.1.2.1 dL_law_694 ?_
  refine va_sld (A := fun q => s.heap.size ≤ q) X.1.1 X.1.2.1 X.2.2.2.1 X.2.2.2.2 (Nat.not_le.mpr X.2.2.2.2) hS h1 dL_law_695 ?_
  refine lawC_i (As := [.int (xs (x3 + 1).toNatClampNeg)]) (rest := []) X hL hS (w_X7_count l V _ aC hc) mw_X7_count rfl ln_L_105 rfl hl.1 rfl (Nat.le_of_ble_eq_true rfl) ⟨Nat.le_of_ble_eq_true rfl, Nat.le_of_ble_eq_true rfl⟩ ⟨by omega, by omega⟩ dL_law_696 (fun H locs hL hS => ?_)
  refine W.widen (k := 56 + (phi C - 192)) (n := 6347 + 2 * (phi C - 192)) (by omega) (by omega) ?_
  refine lv_aload_n X.1.1 X.1.2.1 dL_law_699 rfl (lv_at hl 2 rfl) ?_
  refine lv_aload_n X.1.1 X.1.2.1 dL_law_700 rfl (lv_at hl 0 rfl) ?_
  refine lv_iload_n X.1.1 X.1.2.1 dL_law_701 rfl (lv_at hl 3 rfl) ?_
  refine lv_iconst (v := 1) X.1.1 X.1.2.1 dL_law_702 (by decide) ?_
  refine lv_iadd X.1.1 X.1.2.1 dL_law_703 ?_
  refine va_sld (A := fun q => s.heap.size ≤ q) X.1.1 X.1.2.1 X.2.2.2.1 X.2.2.2.2 (Nat.not_le.mpr X.2.2.2.2) hS h1 dL_law_704 ?_
  refine lawM_i (As := [.int (xs (x3 + 1).toNatClampNeg)]) (rest := [.int r]) X hL hS (w_X8_count l V _ aM hm) mw_X8_count rfl ln_L_108 rfl hl.1 rfl (Nat.le_of_ble_eq_true rfl) ⟨Nat.le_of_ble_eq_true rfl, Nat.le_of_ble_eq_true rfl⟩ ⟨by omega, by omega⟩ dL_law_705 (fun H locs hL hS => ?_)
  refine lv_icmp_eq (tgt := 727) X.1.1 X.1.2.1 dL_law_708 (by decide) (fun _ => ?_) (fun h => absurd rfl h)
  exact next _ _ _ _ hRel2 hL hS
set_option maxRecDepth 100000 in
theorem law_23 {Rel : St → St → Prop} {x3 : Int32} (hop : Op_23 Rel) (hbd : ∀ c m, Rel c m → 192 ≤ phi c ∧ phi c ≤ 124416) (X : LC V p m c s b L xs) (hRel : Rel C M) (hL : LW V aC aM s.heap.size C M H) (hS : va_S (fun q => s.heap.size ≤ q) s.heap H locs) (hl : lv_has ls 4 [(0, .ref b), (1, .ref (aC 0)), (2, .ref (aM 0)), (3, .int x3)]) (h1 : vp_in (x3 + 1) L) (h2 : vp_in (x3 + 2) L) (h3 : vp_in (x3 + 3) L)
    (next : ∀ (C M : St) (H : Heap) (locs : List Loc), Rel C M → LW V aC aM s.heap.size C M H → va_S (fun q => s.heap.size ≤ q) s.heap H locs → W p l e room_1 s m #[Value.ref b] below meth c H locs (56 + (phi C - 192)) (6347 + 2 * (phi C - 192)) Q (F0 m 727 ls [])) : W p l e room_1 s m #[Value.ref b] below meth c H locs (56 + (phi C - 192)) (6347 + 2 * (phi C - 192)) Q (F0 m 713 ls []) := by
  obtain ⟨r, C', M', hc, hm, hRel2⟩ := hop C M  hRel
  have hph : phi C' = phi C := l_X7_digest hc
  have hb1 := hbd C M hRel
  have hb2 := hbd C' M' hRel2
  refine lv_aload_n X.1.1 X.1.2.1 dL_law_713 rfl (lv_at hl 1 rfl) ?_
  refine lawC_l (As := []) (rest := []) X hL hS (w_X7_digest l V _ aC hc) mw_X7_digest rfl ln_L_109 rfl hl.1 rfl (Nat.le_of_ble_eq_true rfl) ⟨Nat.le_of_ble_eq_true rfl, Nat.le_of_ble_eq_true rfl⟩ ⟨by omega, by omega⟩ dL_law_714 (fun H locs hL hS => ?_)
  refine W.widen (k := 56 + (phi C' - 192)) (n := 6347 + 2 * (phi C' - 192)) (by omega) (by omega) ?_
  refine lv_aload_n X.1.1 X.1.2.1 dL_law_717 rfl (lv_at hl 2 rfl) ?_
  refine lawM_l (As := []) (rest := [.long r]) X hL hS (w_X8_digest l V _ aM hm) mw_X8_digest rfl ln_L_113 rfl hl.1 rfl (Nat.le_of_ble_eq_true rfl) ⟨Nat.le_of_ble_eq_true rfl, Nat.le_of_ble_eq_true rfl⟩ ⟨by omega, by omega⟩ dL_law_718 (fun H locs hL hS => ?_)
  refine W.lcmp X.1.1 X.1.2.1 dL_law_721 ?_
  rw [lg_self]
  refine lv_if_eq (tgt := 727) X.1.1 X.1.2.1 dL_law_722 (by decide) (fun _ => ?_) (fun h => absurd rfl h)
  exact next _ _ _ _ hRel2 hL hS
end LAW
