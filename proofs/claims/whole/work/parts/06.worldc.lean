/-- the lengths of the rows of numbers -/
def aln (st : St) (c : Nat) : Nat := match c with
  | 10 => 3
  | 11 => 60
  | 12 => 16
  | 13 => 16
  | 14 => 16
  | 15 => 16
  | 16 => 16
  | 17 => 4
  | 18 => 4
  | 24 => 512
  | 25 => 512
  | 26 => 512
  | 27 => 512
  | 29 => 64
  | 30 => 64
  | 31 => 64
  | 32 => 64
  | 34 => 16
  | 35 => 16
  | 36 => 16
  | 37 => 16
  | 20 => st.2.2.2 0
  | 21 => st.2.2.2 1
  | 22 => st.2.2.2 2
  | _ => 0
/-- the cells of the class: 0 WordSquares, 1 Text, 2 WordList, 3 Finder, 4 Prefixes, 5 DeadEnds, 6 Board, 7 8 9 SquareList, then rows -/
def cE (V : Ev) (ad : Nat → Nat) (st : St) (c : Nat) : va_E := match c with
  | 0 => .inr (7, [.ref (ad 1), .ref (ad 2), .ref (ad 3), .ref (ad 6), .ref (ad 10), .int (st.1 0), .int (st.1 1), .int (st.1 2), .int (st.1 3)])
  | 1 => .inr (5, [.ref (ad 11), .int (st.1 4)])
  | 2 => .inr (6, [.ref (ad 12), .ref (ad 13), .int (st.1 5), .int (st.1 6)])
  | 3 => .inr (2, [.ref (ad 2), .ref (ad 4), .ref (ad 5), .ref (ad 7), .ref (ad 8), .ref (ad 9), .ref (ad 14), .ref (ad 15), .ref (ad 16), .int (st.1 7), .int (st.1 8), .int (st.1 9), .int (st.1 10)])
  | 4 => .inr (3, [.ref (ad 2), .ref (ad 23), .ref (ad 28), .ref (ad 33)])
  | 5 => .inr (1, [.ref (ad 19), .int (st.1 11)])
  | 6 => .inr (0, [.ref (ad 17), .ref (ad 18), .int (st.1 12)])
  | 7 => .inr (4, [.ref (ad 20), .int (st.1 13)])
  | 8 => .inr (4, [.ref (ad 21), .int (st.1 14)])
  | 9 => .inr (4, [.ref (ad 22), .int (st.1 15)])
  | 19 => .inl (V.2.2.1, 1296, .inr (.inl st.2.2.1))
  | 23 => .inl (V.2.2.2.2, 4, .inr (.inr (.inr (.inr (fun i => if i < 4 then some (ad (24 + i)) else none)))))
  | 28 => .inl (V.2.2.2.2, 4, .inr (.inr (.inr (.inr (fun i => if i < 4 then some (ad (29 + i)) else none)))))
  | 33 => .inl (V.2.2.2.2, 4, .inr (.inr (.inr (.inr (fun i => if i < 4 then some (ad (34 + i)) else none)))))
  | c => .inl (V.2.1, aln st c, .inl (st.2.1 c))
def WdC (V : Ev) (ad : Nat → Nat) (A : Nat → Prop) (st : St) (H : Heap) : Prop := ∃ ad' : Nat → Nat, (∀ c, ¬ (20 ≤ c ∧ c ≤ 22) → ad' c = ad c) ∧ va_P V.1 vwCl (cw ad' (cE V ad' st) 38) H ∧ va_D A (cw ad' (cE V ad' st) 38)
/-- the same, and where the row of the list of squares k lies -/
def WdQ (V : Ev) (ad : Nat → Nat) (A : Nat → Prop) (k q : Nat) (st : St) (H : Heap) : Prop := ∃ ad' : Nat → Nat, (∀ c, ¬ (20 ≤ c ∧ c ≤ 22) → ad' c = ad c) ∧ va_P V.1 vwCl (cw ad' (cE V ad' st) 38) H ∧ va_D A (cw ad' (cE V ad' st) 38) ∧ ad' (20 + k) = q
theorem WdQ.wd {V : Ev} {ad : Nat → Nat} {A : Nat → Prop} {k q : Nat} {st : St} {H : Heap} (h : WdQ V ad A k q st H) : WdC V ad A st H := by
  obtain ⟨ad', h1, h2, h3, -⟩ := h
  exact ⟨ad', h1, h2, h3⟩
def isR (c : Nat) : Prop := 10 ≤ c ∧ c < 38 ∧ c ≠ 19 ∧ c ≠ 23 ∧ c ≠ 28 ∧ c ≠ 33
def isA (c : Nat) : Prop := isR c ∧ ¬ (20 ≤ c ∧ c ≤ 22)
theorem cE_row {V : Ev} {ad : Nat → Nat} {st : St} {c : Nat} (h : isR c) : cE V ad st c = .inl (V.2.1, aln st c, .inl (st.2.1 c)) := by
  obtain ⟨h1, h2, h3, h4, h5, h6⟩ := h
  unfold cE
  split <;> first | rfl | omega
theorem cE_I {V : Ev} {ad : Nat → Nat} {st : St} {k c : Nat} {v : Int32} (h : ∀ j, j < 10 → j ≠ c → cE V ad (sI st k v) j = cE V ad st j) : ∀ j, j < 38 → j ≠ c → cE V ad (sI st k v) j = cE V ad st j := fun j hj hc => by
  by_cases h9 : j < 10
  · exact h j h9 hc
  · unfold cE
    split <;> first | omega | rfl
theorem lt10 {P : Nat → Prop} (h0 : P 0) (h1 : P 1) (h2 : P 2) (h3 : P 3) (h4 : P 4) (h5 : P 5) (h6 : P 6) (h7 : P 7) (h8 : P 8) (h9 : P 9) : ∀ j, j < 10 → P j := fun j hj => by
  match j, hj with
  | 0, _ => exact h0
  | 1, _ => exact h1
  | 2, _ => exact h2
  | 3, _ => exact h3
  | 4, _ => exact h4
  | 5, _ => exact h5
  | 6, _ => exact h6
  | 7, _ => exact h7
  | 8, _ => exact h8
  | 9, _ => exact h9
  | n + 10, h => omega
theorem cE_A {V : Ev} {ad : Nat → Nat} {st : St} {c i : Nat} {v : Int32} (hc : isR c) : ∀ j, j < 38 → j ≠ c → cE V ad (sA st c i v) j = cE V ad st j := fun j hj hne => by
  obtain ⟨h1, h2, h3, h4, h5, h6⟩ := hc
  unfold cE
  split <;> first | rfl | (show Sum.inl (V.2.1, aln st j, Sum.inl (va_up st.2.1 c _ j)) = _; rw [va_up_ne _ _ hne])
theorem cE_J {V : Ev} {ad : Nat → Nat} {st : St} {i : Nat} {v : Int64} : ∀ j, j < 38 → j ≠ 19 → cE V ad (sJ st i v) j = cE V ad st j := fun j hj hne => by
  unfold cE
  split <;> first | rfl | exact absurd rfl hne
section WC
variable {p : Program} {l : Launch} {e : Env} {R : Room} {s : State} {m : MethodId} {args : Array Value} {below : List Frame} {meth : Method} {c : Code} {H : Heap} {locs : List Loc} {cells slots : Nat} {Q : State → Prop}
variable {pc : Nat} {ls : Array Slot} {rest : List Value} {cc : ByteArray} {nL : Nat} {own : String} {V : Ev} {A : Nat → Prop} {ad : Nat → Nat} {st : St}

theorem gX7_text (X : Cx V A cc nL RX7 p m c s args) (hW : WdC V ad A st H) (hdg : decode cc pc = .ok (.getfield 10, 3)) (kk : W p l e R s m args below meth c H locs cells slots Q (F0 m (pc + 3) ls (.ref (ad 1) :: rest))) : W p l e R s m args below meth c H locs cells slots Q (F0 m pc ls (.ref (ad 0) :: rest)) := by
  obtain ⟨ad', ha, hP, -⟩ := hW
  rw [← ha 0 (by decide)]
  rw [← ha 1 (by decide)] at kk
  exact va_get (D := V.1) (ci := 7) (C := RX7) (T := TX7) (N := 9) X.hx X.hb X.1.2.2.2.2 inG_X7 X.ho X.hK hP 0 (cw_ate (by decide) rfl) rfl 0 (by decide) (X.ts fl_X7_text) (fun _ h => h) rfl hdg kk
theorem gX7_list (X : Cx V A cc nL RX7 p m c s args) (hW : WdC V ad A st H) (hdg : decode cc pc = .ok (.getfield 19, 3)) (kk : W p l e R s m args below meth c H locs cells slots Q (F0 m (pc + 3) ls (.ref (ad 2) :: rest))) : W p l e R s m args below meth c H locs cells slots Q (F0 m pc ls (.ref (ad 0) :: rest)) := by
  obtain ⟨ad', ha, hP, -⟩ := hW
  rw [← ha 0 (by decide)]
  rw [← ha 2 (by decide)] at kk
  exact va_get (D := V.1) (ci := 7) (C := RX7) (T := TX7) (N := 9) X.hx X.hb X.1.2.2.2.2 inG_X7 X.ho X.hK hP 0 (cw_ate (by decide) rfl) rfl 1 (by decide) (X.ts fl_X7_list) (fun _ h => h) rfl hdg kk
theorem gX7_finder (X : Cx V A cc nL RX7 p m c s args) (hW : WdC V ad A st H) (hdg : decode cc pc = .ok (.getfield 28, 3)) (kk : W p l e R s m args below meth c H locs cells slots Q (F0 m (pc + 3) ls (.ref (ad 3) :: rest))) : W p l e R s m args below meth c H locs cells slots Q (F0 m pc ls (.ref (ad 0) :: rest)) := by
  obtain ⟨ad', ha, hP, -⟩ := hW
  rw [← ha 0 (by decide)]
  rw [← ha 3 (by decide)] at kk
  exact va_get (D := V.1) (ci := 7) (C := RX7) (T := TX7) (N := 9) X.hx X.hb X.1.2.2.2.2 inG_X7 X.ho X.hK hP 0 (cw_ate (by decide) rfl) rfl 2 (by decide) (X.ts fl_X7_finder) (fun _ h => h) rfl hdg kk
theorem gX7_table (X : Cx V A cc nL RX7 p m c s args) (hW : WdC V ad A st H) (hdg : decode cc pc = .ok (.getfield 35, 3)) (kk : W p l e R s m args below meth c H locs cells slots Q (F0 m (pc + 3) ls (.ref (ad 6) :: rest))) : W p l e R s m args below meth c H locs cells slots Q (F0 m pc ls (.ref (ad 0) :: rest)) := by
  obtain ⟨ad', ha, hP, -⟩ := hW
  rw [← ha 0 (by decide)]
  rw [← ha 6 (by decide)] at kk
  exact va_get (D := V.1) (ci := 7) (C := RX7) (T := TX7) (N := 9) X.hx X.hb X.1.2.2.2.2 inG_X7 X.ho X.hK hP 0 (cw_ate (by decide) rfl) rfl 3 (by decide) (X.ts fl_X7_table) (fun _ h => h) rfl hdg kk
theorem gX7_best (X : Cx V A cc nL RX7 p m c s args) (hW : WdC V ad A st H) (hdg : decode cc pc = .ok (.getfield 39, 3)) (kk : W p l e R s m args below meth c H locs cells slots Q (F0 m (pc + 3) ls (.ref (ad 10) :: rest))) : W p l e R s m args below meth c H locs cells slots Q (F0 m pc ls (.ref (ad 0) :: rest)) := by
  obtain ⟨ad', ha, hP, -⟩ := hW
  rw [← ha 0 (by decide)]
  rw [← ha 10 (by decide)] at kk
  exact va_get (D := V.1) (ci := 7) (C := RX7) (T := TX7) (N := 9) X.hx X.hb X.1.2.2.2.2 inG_X7 X.ho X.hK hP 0 (cw_ate (by decide) rfl) rfl 4 (by decide) (X.ts fl_X7_best) (fun _ h => h) rfl hdg kk
theorem gX7_compared (X : Cx V A cc nL RX7 p m c s args) (hW : WdC V ad A st H) (hdg : decode cc pc = .ok (.getfield 43, 3)) (kk : W p l e R s m args below meth c H locs cells slots Q (F0 m (pc + 3) ls (.int (st.1 0) :: rest))) : W p l e R s m args below meth c H locs cells slots Q (F0 m pc ls (.ref (ad 0) :: rest)) := by
  obtain ⟨ad', ha, hP, -⟩ := hW
  rw [← ha 0 (by decide)]
  exact va_get (D := V.1) (ci := 7) (C := RX7) (T := TX7) (N := 9) X.hx X.hb X.1.2.2.2.2 inG_X7 X.ho X.hK hP 0 (cw_ate (by decide) rfl) rfl 5 (by decide) (X.ts fl_X7_compared) (fun _ h => h) rfl hdg kk
theorem pX7_compared (X : Cx V A cc nL RX7 p m c s args) (hW : WdC V ad A st H) (hS : va_S A s.heap H locs) {v : Int32} (hz : v = 0 ∨ v = 1) (hdg : decode cc pc = .ok (.putfield 43, 3)) (kk : ∀ (H : Heap) (locs : List Loc), WdC V ad A (sI st 0 v) H → va_S A s.heap H locs → W p l e R s m args below meth c H locs cells slots Q (F0 m (pc + 3) ls rest)) : W p l e R s m args below meth c H locs cells slots Q (F0 m pc ls (.int v :: .ref (ad 0) :: rest)) := by
  obtain ⟨ad', ha, hP, hD⟩ := hW
  rw [← ha 0 (by decide)]
  have e : (cw ad' (cE V ad' st) 38).set 0 (ad' 0, .inr (7, [.ref (ad' 1), .ref (ad' 2), .ref (ad' 3), .ref (ad' 6), .ref (ad' 10), .int v, .int (st.1 1), .int (st.1 2), .int (st.1 3)])) = cw ad' (cE V ad' (sI st 0 v)) 38 := cw_set (by decide) rfl (cE_I (lt10 (fun h => absurd rfl h) (fun _ => rfl) (fun _ => rfl) (fun _ => rfl) (fun _ => rfl) (fun _ => rfl) (fun _ => rfl) (fun _ => rfl) (fun _ => rfl) (fun _ => rfl)))
  refine va_put (D := V.1) (ci := 7) (v := .int v) (ty := .boolean) (C := RX7) (T := TX7) (N := 9) X.hx X.hb X.1.2.2.2.2 inG_X7 tyX7 tyX7_ok nmX7 X.ho X.hK hP hD hS 0 (cw_ate (by decide) rfl) rfl 5 (by decide) (X.ts fl_X7_compared) (fun _ h => h) rfl (by decide +kernel) (by rcases hz with h | h <;> rw [h] <;> decide) (by rcases hz with h | h <;> rw [h] <;> decide) (Nat.le_of_ble_eq_true rfl) hdg (fun H1 locs1 hP hD hS => ?_)
  exact kk H1 locs1 ⟨ad', ha, e ▸ hP, e ▸ hD⟩ hS
theorem gX7_looked (X : Cx V A cc nL RX7 p m c s args) (hW : WdC V ad A st H) (hdg : decode cc pc = .ok (.getfield 47, 3)) (kk : W p l e R s m args below meth c H locs cells slots Q (F0 m (pc + 3) ls (.int (st.1 1) :: rest))) : W p l e R s m args below meth c H locs cells slots Q (F0 m pc ls (.ref (ad 0) :: rest)) := by
  obtain ⟨ad', ha, hP, -⟩ := hW
  rw [← ha 0 (by decide)]
  exact va_get (D := V.1) (ci := 7) (C := RX7) (T := TX7) (N := 9) X.hx X.hb X.1.2.2.2.2 inG_X7 X.ho X.hK hP 0 (cw_ate (by decide) rfl) rfl 6 (by decide) (X.ts fl_X7_looked) (fun _ h => h) rfl hdg kk
theorem pX7_looked (X : Cx V A cc nL RX7 p m c s args) (hW : WdC V ad A st H) (hS : va_S A s.heap H locs) {v : Int32} (hz : v = 0 ∨ v = 1) (hdg : decode cc pc = .ok (.putfield 47, 3)) (kk : ∀ (H : Heap) (locs : List Loc), WdC V ad A (sI st 1 v) H → va_S A s.heap H locs → W p l e R s m args below meth c H locs cells slots Q (F0 m (pc + 3) ls rest)) : W p l e R s m args below meth c H locs cells slots Q (F0 m pc ls (.int v :: .ref (ad 0) :: rest)) := by
  obtain ⟨ad', ha, hP, hD⟩ := hW
  rw [← ha 0 (by decide)]
  have e : (cw ad' (cE V ad' st) 38).set 0 (ad' 0, .inr (7, [.ref (ad' 1), .ref (ad' 2), .ref (ad' 3), .ref (ad' 6), .ref (ad' 10), .int (st.1 0), .int v, .int (st.1 2), .int (st.1 3)])) = cw ad' (cE V ad' (sI st 1 v)) 38 := cw_set (by decide) rfl (cE_I (lt10 (fun h => absurd rfl h) (fun _ => rfl) (fun _ => rfl) (fun _ => rfl) (fun _ => rfl) (fun _ => rfl) (fun _ => rfl) (fun _ => rfl) (fun _ => rfl) (fun _ => rfl)))
  refine va_put (D := V.1) (ci := 7) (v := .int v) (ty := .boolean) (C := RX7) (T := TX7) (N := 9) X.hx X.hb X.1.2.2.2.2 inG_X7 tyX7 tyX7_ok nmX7 X.ho X.hK hP hD hS 0 (cw_ate (by decide) rfl) rfl 6 (by decide) (X.ts fl_X7_looked) (fun _ h => h) rfl (by decide +kernel) (by rcases hz with h | h <;> rw [h] <;> decide) (by rcases hz with h | h <;> rw [h] <;> decide) (Nat.le_of_ble_eq_true rfl) hdg (fun H1 locs1 hP hD hS => ?_)
  exact kk H1 locs1 ⟨ad', ha, e ▸ hP, e ▸ hD⟩ hS
theorem gX7_additions (X : Cx V A cc nL RX7 p m c s args) (hW : WdC V ad A st H) (hdg : decode cc pc = .ok (.getfield 50, 3)) (kk : W p l e R s m args below meth c H locs cells slots Q (F0 m (pc + 3) ls (.int (st.1 2) :: rest))) : W p l e R s m args below meth c H locs cells slots Q (F0 m pc ls (.ref (ad 0) :: rest)) := by
  obtain ⟨ad', ha, hP, -⟩ := hW
  rw [← ha 0 (by decide)]
  exact va_get (D := V.1) (ci := 7) (C := RX7) (T := TX7) (N := 9) X.hx X.hb X.1.2.2.2.2 inG_X7 X.ho X.hK hP 0 (cw_ate (by decide) rfl) rfl 7 (by decide) (X.ts fl_X7_additions) (fun _ h => h) rfl hdg kk
theorem pX7_additions (X : Cx V A cc nL RX7 p m c s args) (hW : WdC V ad A st H) (hS : va_S A s.heap H locs) {v : Int32} (hdg : decode cc pc = .ok (.putfield 50, 3)) (kk : ∀ (H : Heap) (locs : List Loc), WdC V ad A (sI st 2 v) H → va_S A s.heap H locs → W p l e R s m args below meth c H locs cells slots Q (F0 m (pc + 3) ls rest)) : W p l e R s m args below meth c H locs cells slots Q (F0 m pc ls (.int v :: .ref (ad 0) :: rest)) := by
  obtain ⟨ad', ha, hP, hD⟩ := hW
  rw [← ha 0 (by decide)]
  have e : (cw ad' (cE V ad' st) 38).set 0 (ad' 0, .inr (7, [.ref (ad' 1), .ref (ad' 2), .ref (ad' 3), .ref (ad' 6), .ref (ad' 10), .int (st.1 0), .int (st.1 1), .int v, .int (st.1 3)])) = cw ad' (cE V ad' (sI st 2 v)) 38 := cw_set (by decide) rfl (cE_I (lt10 (fun h => absurd rfl h) (fun _ => rfl) (fun _ => rfl) (fun _ => rfl) (fun _ => rfl) (fun _ => rfl) (fun _ => rfl) (fun _ => rfl) (fun _ => rfl) (fun _ => rfl)))
  refine va_put (D := V.1) (ci := 7) (v := .int v) (ty := .int) (C := RX7) (T := TX7) (N := 9) X.hx X.hb X.1.2.2.2.2 inG_X7 tyX7 tyX7_ok nmX7 X.ho X.hK hP hD hS 0 (cw_ate (by decide) rfl) rfl 7 (by decide) (X.ts fl_X7_additions) (fun _ h => h) rfl (by decide +kernel) rfl rfl (Nat.le_of_ble_eq_true rfl) hdg (fun H1 locs1 hP hD hS => ?_)
  exact kk H1 locs1 ⟨ad', ha, e ▸ hP, e ▸ hD⟩ hS
theorem gX7_removals (X : Cx V A cc nL RX7 p m c s args) (hW : WdC V ad A st H) (hdg : decode cc pc = .ok (.getfield 54, 3)) (kk : W p l e R s m args below meth c H locs cells slots Q (F0 m (pc + 3) ls (.int (st.1 3) :: rest))) : W p l e R s m args below meth c H locs cells slots Q (F0 m pc ls (.ref (ad 0) :: rest)) := by
  obtain ⟨ad', ha, hP, -⟩ := hW
  rw [← ha 0 (by decide)]
  exact va_get (D := V.1) (ci := 7) (C := RX7) (T := TX7) (N := 9) X.hx X.hb X.1.2.2.2.2 inG_X7 X.ho X.hK hP 0 (cw_ate (by decide) rfl) rfl 8 (by decide) (X.ts fl_X7_removals) (fun _ h => h) rfl hdg kk
theorem pX7_removals (X : Cx V A cc nL RX7 p m c s args) (hW : WdC V ad A st H) (hS : va_S A s.heap H locs) {v : Int32} (hdg : decode cc pc = .ok (.putfield 54, 3)) (kk : ∀ (H : Heap) (locs : List Loc), WdC V ad A (sI st 3 v) H → va_S A s.heap H locs → W p l e R s m args below meth c H locs cells slots Q (F0 m (pc + 3) ls rest)) : W p l e R s m args below meth c H locs cells slots Q (F0 m pc ls (.int v :: .ref (ad 0) :: rest)) := by
  obtain ⟨ad', ha, hP, hD⟩ := hW
  rw [← ha 0 (by decide)]
  have e : (cw ad' (cE V ad' st) 38).set 0 (ad' 0, .inr (7, [.ref (ad' 1), .ref (ad' 2), .ref (ad' 3), .ref (ad' 6), .ref (ad' 10), .int (st.1 0), .int (st.1 1), .int (st.1 2), .int v])) = cw ad' (cE V ad' (sI st 3 v)) 38 := cw_set (by decide) rfl (cE_I (lt10 (fun h => absurd rfl h) (fun _ => rfl) (fun _ => rfl) (fun _ => rfl) (fun _ => rfl) (fun _ => rfl) (fun _ => rfl) (fun _ => rfl) (fun _ => rfl) (fun _ => rfl)))
  refine va_put (D := V.1) (ci := 7) (v := .int v) (ty := .int) (C := RX7) (T := TX7) (N := 9) X.hx X.hb X.1.2.2.2.2 inG_X7 tyX7 tyX7_ok nmX7 X.ho X.hK hP hD hS 0 (cw_ate (by decide) rfl) rfl 8 (by decide) (X.ts fl_X7_removals) (fun _ h => h) rfl (by decide +kernel) rfl rfl (Nat.le_of_ble_eq_true rfl) hdg (fun H1 locs1 hP hD hS => ?_)
  exact kk H1 locs1 ⟨ad', ha, e ▸ hP, e ▸ hD⟩ hS
theorem rcX7 (X : Cx V A cc nL own p m c s args) (hW : WdC V ad A st H) : Rcv s H RX7 (ad 0) := by
  obtain ⟨ad', ha, hP, -⟩ := hW
  rw [← ha 0 (by decide)]
  exact va_recv X.hK hP (ci := 7) (q := (RX7, TX7, 9)) (q0 := 0) rfl (cw_ate (by decide) rfl)
theorem gX5_signs (X : Cx V A cc nL RX5 p m c s args) (hW : WdC V ad A st H) (hdg : decode cc pc = .ok (.getfield 9, 3)) (kk : W p l e R s m args below meth c H locs cells slots Q (F0 m (pc + 3) ls (.ref (ad 11) :: rest))) : W p l e R s m args below meth c H locs cells slots Q (F0 m pc ls (.ref (ad 1) :: rest)) := by
  obtain ⟨ad', ha, hP, -⟩ := hW
  rw [← ha 1 (by decide)]
  rw [← ha 11 (by decide)] at kk
  exact va_get (D := V.1) (ci := 5) (C := RX5) (T := TX5) (N := 2) X.hx X.hb X.1.2.2.2.2 inG_X5 X.ho X.hK hP 1 (cw_ate (by decide) rfl) rfl 0 (by decide) (X.ts fl_X5_signs) (fun _ h => h) rfl hdg kk
theorem gX5_size (X : Cx V A cc nL RX5 p m c s args) (hW : WdC V ad A st H) (hdg : decode cc pc = .ok (.getfield 15, 3)) (kk : W p l e R s m args below meth c H locs cells slots Q (F0 m (pc + 3) ls (.int (st.1 4) :: rest))) : W p l e R s m args below meth c H locs cells slots Q (F0 m pc ls (.ref (ad 1) :: rest)) := by
  obtain ⟨ad', ha, hP, -⟩ := hW
  rw [← ha 1 (by decide)]
  exact va_get (D := V.1) (ci := 5) (C := RX5) (T := TX5) (N := 2) X.hx X.hb X.1.2.2.2.2 inG_X5 X.ho X.hK hP 1 (cw_ate (by decide) rfl) rfl 1 (by decide) (X.ts fl_X5_size) (fun _ h => h) rfl hdg kk
theorem pX5_size (X : Cx V A cc nL RX5 p m c s args) (hW : WdC V ad A st H) (hS : va_S A s.heap H locs) {v : Int32} (hdg : decode cc pc = .ok (.putfield 15, 3)) (kk : ∀ (H : Heap) (locs : List Loc), WdC V ad A (sI st 4 v) H → va_S A s.heap H locs → W p l e R s m args below meth c H locs cells slots Q (F0 m (pc + 3) ls rest)) : W p l e R s m args below meth c H locs cells slots Q (F0 m pc ls (.int v :: .ref (ad 1) :: rest)) := by
  obtain ⟨ad', ha, hP, hD⟩ := hW
  rw [← ha 1 (by decide)]
  have e : (cw ad' (cE V ad' st) 38).set 1 (ad' 1, .inr (5, [.ref (ad' 11), .int v])) = cw ad' (cE V ad' (sI st 4 v)) 38 := cw_set (by decide) rfl (cE_I (lt10 (fun _ => rfl) (fun h => absurd rfl h) (fun _ => rfl) (fun _ => rfl) (fun _ => rfl) (fun _ => rfl) (fun _ => rfl) (fun _ => rfl) (fun _ => rfl) (fun _ => rfl)))
  refine va_put (D := V.1) (ci := 5) (v := .int v) (ty := .int) (C := RX5) (T := TX5) (N := 2) X.hx X.hb X.1.2.2.2.2 inG_X5 tyX5 tyX5_ok nmX5 X.ho X.hK hP hD hS 1 (cw_ate (by decide) rfl) rfl 1 (by decide) (X.ts fl_X5_size) (fun _ h => h) rfl (by decide +kernel) rfl rfl (Nat.le_of_ble_eq_true rfl) hdg (fun H1 locs1 hP hD hS => ?_)
  exact kk H1 locs1 ⟨ad', ha, e ▸ hP, e ▸ hD⟩ hS
theorem rcX5 (X : Cx V A cc nL own p m c s args) (hW : WdC V ad A st H) : Rcv s H RX5 (ad 1) := by
  obtain ⟨ad', ha, hP, -⟩ := hW
  rw [← ha 1 (by decide)]
  exact va_recv X.hK hP (ci := 5) (q := (RX5, TX5, 2)) (q0 := 1) rfl (cw_ate (by decide) rfl)
theorem gX6_codes (X : Cx V A cc nL RX6 p m c s args) (hW : WdC V ad A st H) (hdg : decode cc pc = .ok (.getfield 9, 3)) (kk : W p l e R s m args below meth c H locs cells slots Q (F0 m (pc + 3) ls (.ref (ad 12) :: rest))) : W p l e R s m args below meth c H locs cells slots Q (F0 m pc ls (.ref (ad 2) :: rest)) := by
  obtain ⟨ad', ha, hP, -⟩ := hW
  rw [← ha 2 (by decide)]
  rw [← ha 12 (by decide)] at kk
  exact va_get (D := V.1) (ci := 6) (C := RX6) (T := TX6) (N := 4) X.hx X.hb X.1.2.2.2.2 inG_X6 X.ho X.hK hP 2 (cw_ate (by decide) rfl) rfl 0 (by decide) (X.ts fl_X6_codes) (fun _ h => h) rfl hdg kk
theorem gX6_weights (X : Cx V A cc nL RX6 p m c s args) (hW : WdC V ad A st H) (hdg : decode cc pc = .ok (.getfield 15, 3)) (kk : W p l e R s m args below meth c H locs cells slots Q (F0 m (pc + 3) ls (.ref (ad 13) :: rest))) : W p l e R s m args below meth c H locs cells slots Q (F0 m pc ls (.ref (ad 2) :: rest)) := by
  obtain ⟨ad', ha, hP, -⟩ := hW
  rw [← ha 2 (by decide)]
  rw [← ha 13 (by decide)] at kk
  exact va_get (D := V.1) (ci := 6) (C := RX6) (T := TX6) (N := 4) X.hx X.hb X.1.2.2.2.2 inG_X6 X.ho X.hK hP 2 (cw_ate (by decide) rfl) rfl 1 (by decide) (X.ts fl_X6_weights) (fun _ h => h) rfl hdg kk
theorem gX6_size (X : Cx V A cc nL RX6 p m c s args) (hW : WdC V ad A st H) (hdg : decode cc pc = .ok (.getfield 18, 3)) (kk : W p l e R s m args below meth c H locs cells slots Q (F0 m (pc + 3) ls (.int (st.1 5) :: rest))) : W p l e R s m args below meth c H locs cells slots Q (F0 m pc ls (.ref (ad 2) :: rest)) := by
  obtain ⟨ad', ha, hP, -⟩ := hW
  rw [← ha 2 (by decide)]
  exact va_get (D := V.1) (ci := 6) (C := RX6) (T := TX6) (N := 4) X.hx X.hb X.1.2.2.2.2 inG_X6 X.ho X.hK hP 2 (cw_ate (by decide) rfl) rfl 2 (by decide) (X.ts fl_X6_size) (fun _ h => h) rfl hdg kk
theorem pX6_size (X : Cx V A cc nL RX6 p m c s args) (hW : WdC V ad A st H) (hS : va_S A s.heap H locs) {v : Int32} (hdg : decode cc pc = .ok (.putfield 18, 3)) (kk : ∀ (H : Heap) (locs : List Loc), WdC V ad A (sI st 5 v) H → va_S A s.heap H locs → W p l e R s m args below meth c H locs cells slots Q (F0 m (pc + 3) ls rest)) : W p l e R s m args below meth c H locs cells slots Q (F0 m pc ls (.int v :: .ref (ad 2) :: rest)) := by
  obtain ⟨ad', ha, hP, hD⟩ := hW
  rw [← ha 2 (by decide)]
  have e : (cw ad' (cE V ad' st) 38).set 2 (ad' 2, .inr (6, [.ref (ad' 12), .ref (ad' 13), .int v, .int (st.1 6)])) = cw ad' (cE V ad' (sI st 5 v)) 38 := cw_set (by decide) rfl (cE_I (lt10 (fun _ => rfl) (fun _ => rfl) (fun h => absurd rfl h) (fun _ => rfl) (fun _ => rfl) (fun _ => rfl) (fun _ => rfl) (fun _ => rfl) (fun _ => rfl) (fun _ => rfl)))
  refine va_put (D := V.1) (ci := 6) (v := .int v) (ty := .int) (C := RX6) (T := TX6) (N := 4) X.hx X.hb X.1.2.2.2.2 inG_X6 tyX6 tyX6_ok nmX6 X.ho X.hK hP hD hS 2 (cw_ate (by decide) rfl) rfl 2 (by decide) (X.ts fl_X6_size) (fun _ h => h) rfl (by decide +kernel) rfl rfl (Nat.le_of_ble_eq_true rfl) hdg (fun H1 locs1 hP hD hS => ?_)
  exact kk H1 locs1 ⟨ad', ha, e ▸ hP, e ▸ hD⟩ hS
theorem gX6_length (X : Cx V A cc nL RX6 p m c s args) (hW : WdC V ad A st H) (hdg : decode cc pc = .ok (.getfield 22, 3)) (kk : W p l e R s m args below meth c H locs cells slots Q (F0 m (pc + 3) ls (.int (st.1 6) :: rest))) : W p l e R s m args below meth c H locs cells slots Q (F0 m pc ls (.ref (ad 2) :: rest)) := by
  obtain ⟨ad', ha, hP, -⟩ := hW
  rw [← ha 2 (by decide)]
  exact va_get (D := V.1) (ci := 6) (C := RX6) (T := TX6) (N := 4) X.hx X.hb X.1.2.2.2.2 inG_X6 X.ho X.hK hP 2 (cw_ate (by decide) rfl) rfl 3 (by decide) (X.ts fl_X6_length) (fun _ h => h) rfl hdg kk
theorem pX6_length (X : Cx V A cc nL RX6 p m c s args) (hW : WdC V ad A st H) (hS : va_S A s.heap H locs) {v : Int32} (hdg : decode cc pc = .ok (.putfield 22, 3)) (kk : ∀ (H : Heap) (locs : List Loc), WdC V ad A (sI st 6 v) H → va_S A s.heap H locs → W p l e R s m args below meth c H locs cells slots Q (F0 m (pc + 3) ls rest)) : W p l e R s m args below meth c H locs cells slots Q (F0 m pc ls (.int v :: .ref (ad 2) :: rest)) := by
  obtain ⟨ad', ha, hP, hD⟩ := hW
  rw [← ha 2 (by decide)]
  have e : (cw ad' (cE V ad' st) 38).set 2 (ad' 2, .inr (6, [.ref (ad' 12), .ref (ad' 13), .int (st.1 5), .int v])) = cw ad' (cE V ad' (sI st 6 v)) 38 := cw_set (by decide) rfl (cE_I (lt10 (fun _ => rfl) (fun _ => rfl) (fun h => absurd rfl h) (fun _ => rfl) (fun _ => rfl) (fun _ => rfl) (fun _ => rfl) (fun _ => rfl) (fun _ => rfl) (fun _ => rfl)))
  refine va_put (D := V.1) (ci := 6) (v := .int v) (ty := .int) (C := RX6) (T := TX6) (N := 4) X.hx X.hb X.1.2.2.2.2 inG_X6 tyX6 tyX6_ok nmX6 X.ho X.hK hP hD hS 2 (cw_ate (by decide) rfl) rfl 3 (by decide) (X.ts fl_X6_length) (fun _ h => h) rfl (by decide +kernel) rfl rfl (Nat.le_of_ble_eq_true rfl) hdg (fun H1 locs1 hP hD hS => ?_)
  exact kk H1 locs1 ⟨ad', ha, e ▸ hP, e ▸ hD⟩ hS
theorem rcX6 (X : Cx V A cc nL own p m c s args) (hW : WdC V ad A st H) : Rcv s H RX6 (ad 2) := by
  obtain ⟨ad', ha, hP, -⟩ := hW
  rw [← ha 2 (by decide)]
  exact va_recv X.hK hP (ci := 6) (q := (RX6, TX6, 4)) (q0 := 2) rfl (cw_ate (by decide) rfl)
theorem gX2_list (X : Cx V A cc nL RX2 p m c s args) (hW : WdC V ad A st H) (hdg : decode cc pc = .ok (.getfield 54, 3)) (kk : W p l e R s m args below meth c H locs cells slots Q (F0 m (pc + 3) ls (.ref (ad 2) :: rest))) : W p l e R s m args below meth c H locs cells slots Q (F0 m pc ls (.ref (ad 3) :: rest)) := by
  obtain ⟨ad', ha, hP, -⟩ := hW
  rw [← ha 3 (by decide)]
  rw [← ha 2 (by decide)] at kk
  exact va_get (D := V.1) (ci := 2) (C := RX2) (T := TX2) (N := 13) X.hx X.hb X.1.2.2.2.2 inG_X2 X.ho X.hK hP 3 (cw_ate (by decide) rfl) rfl 0 (by decide) (X.ts fl_X2_list) (fun _ h => h) rfl hdg kk
theorem gX2_prefixes (X : Cx V A cc nL RX2 p m c s args) (hW : WdC V ad A st H) (hdg : decode cc pc = .ok (.getfield 63, 3)) (kk : W p l e R s m args below meth c H locs cells slots Q (F0 m (pc + 3) ls (.ref (ad 4) :: rest))) : W p l e R s m args below meth c H locs cells slots Q (F0 m pc ls (.ref (ad 3) :: rest)) := by
  obtain ⟨ad', ha, hP, -⟩ := hW
  rw [← ha 3 (by decide)]
  rw [← ha 4 (by decide)] at kk
  exact va_get (D := V.1) (ci := 2) (C := RX2) (T := TX2) (N := 13) X.hx X.hb X.1.2.2.2.2 inG_X2 X.ho X.hK hP 3 (cw_ate (by decide) rfl) rfl 1 (by decide) (X.ts fl_X2_prefixes) (fun _ h => h) rfl hdg kk
theorem gX2_deadEnds (X : Cx V A cc nL RX2 p m c s args) (hW : WdC V ad A st H) (hdg : decode cc pc = .ok (.getfield 12, 3)) (kk : W p l e R s m args below meth c H locs cells slots Q (F0 m (pc + 3) ls (.ref (ad 5) :: rest))) : W p l e R s m args below meth c H locs cells slots Q (F0 m pc ls (.ref (ad 3) :: rest)) := by
  obtain ⟨ad', ha, hP, -⟩ := hW
  rw [← ha 3 (by decide)]
  rw [← ha 5 (by decide)] at kk
  exact va_get (D := V.1) (ci := 2) (C := RX2) (T := TX2) (N := 13) X.hx X.hb X.1.2.2.2.2 inG_X2 X.ho X.hK hP 3 (cw_ate (by decide) rfl) rfl 2 (by decide) (X.ts fl_X2_deadEnds) (fun _ h => h) rfl hdg kk
theorem gX2_all (X : Cx V A cc nL RX2 p m c s args) (hW : WdC V ad A st H) (hdg : decode cc pc = .ok (.getfield 21, 3)) (kk : W p l e R s m args below meth c H locs cells slots Q (F0 m (pc + 3) ls (.ref (ad 7) :: rest))) : W p l e R s m args below meth c H locs cells slots Q (F0 m pc ls (.ref (ad 3) :: rest)) := by
  obtain ⟨ad', ha, hP, -⟩ := hW
  rw [← ha 3 (by decide)]
  rw [← ha 7 (by decide)] at kk
  exact va_get (D := V.1) (ci := 2) (C := RX2) (T := TX2) (N := 13) X.hx X.hb X.1.2.2.2.2 inG_X2 X.ho X.hK hP 3 (cw_ate (by decide) rfl) rfl 3 (by decide) (X.ts fl_X2_all) (fun _ h => h) rfl hdg kk
theorem gX2_symmetric (X : Cx V A cc nL RX2 p m c s args) (hW : WdC V ad A st H) (hdg : decode cc pc = .ok (.getfield 25, 3)) (kk : W p l e R s m args below meth c H locs cells slots Q (F0 m (pc + 3) ls (.ref (ad 8) :: rest))) : W p l e R s m args below meth c H locs cells slots Q (F0 m pc ls (.ref (ad 3) :: rest)) := by
  obtain ⟨ad', ha, hP, -⟩ := hW
  rw [← ha 3 (by decide)]
  rw [← ha 8 (by decide)] at kk
  exact va_get (D := V.1) (ci := 2) (C := RX2) (T := TX2) (N := 13) X.hx X.hb X.1.2.2.2.2 inG_X2 X.ho X.hK hP 3 (cw_ate (by decide) rfl) rfl 4 (by decide) (X.ts fl_X2_symmetric) (fun _ h => h) rfl hdg kk
theorem gX2_different (X : Cx V A cc nL RX2 p m c s args) (hW : WdC V ad A st H) (hdg : decode cc pc = .ok (.getfield 28, 3)) (kk : W p l e R s m args below meth c H locs cells slots Q (F0 m (pc + 3) ls (.ref (ad 9) :: rest))) : W p l e R s m args below meth c H locs cells slots Q (F0 m pc ls (.ref (ad 3) :: rest)) := by
  obtain ⟨ad', ha, hP, -⟩ := hW
  rw [← ha 3 (by decide)]
  rw [← ha 9 (by decide)] at kk
  exact va_get (D := V.1) (ci := 2) (C := RX2) (T := TX2) (N := 13) X.hx X.hb X.1.2.2.2.2 inG_X2 X.ho X.hK hP 3 (cw_ate (by decide) rfl) rfl 5 (by decide) (X.ts fl_X2_different) (fun _ h => h) rfl hdg kk
theorem gX2_inRows (X : Cx V A cc nL RX2 p m c s args) (hW : WdC V ad A st H) (hdg : decode cc pc = .ok (.getfield 31, 3)) (kk : W p l e R s m args below meth c H locs cells slots Q (F0 m (pc + 3) ls (.ref (ad 14) :: rest))) : W p l e R s m args below meth c H locs cells slots Q (F0 m pc ls (.ref (ad 3) :: rest)) := by
  obtain ⟨ad', ha, hP, -⟩ := hW
  rw [← ha 3 (by decide)]
  rw [← ha 14 (by decide)] at kk
  exact va_get (D := V.1) (ci := 2) (C := RX2) (T := TX2) (N := 13) X.hx X.hb X.1.2.2.2.2 inG_X2 X.ho X.hK hP 3 (cw_ate (by decide) rfl) rfl 6 (by decide) (X.ts fl_X2_inRows) (fun _ h => h) rfl hdg kk
theorem gX2_inColumns (X : Cx V A cc nL RX2 p m c s args) (hW : WdC V ad A st H) (hdg : decode cc pc = .ok (.getfield 35, 3)) (kk : W p l e R s m args below meth c H locs cells slots Q (F0 m (pc + 3) ls (.ref (ad 15) :: rest))) : W p l e R s m args below meth c H locs cells slots Q (F0 m pc ls (.ref (ad 3) :: rest)) := by
  obtain ⟨ad', ha, hP, -⟩ := hW
  rw [← ha 3 (by decide)]
  rw [← ha 15 (by decide)] at kk
  exact va_get (D := V.1) (ci := 2) (C := RX2) (T := TX2) (N := 13) X.hx X.hb X.1.2.2.2.2 inG_X2 X.ho X.hK hP 3 (cw_ate (by decide) rfl) rfl 7 (by decide) (X.ts fl_X2_inColumns) (fun _ h => h) rfl hdg kk
theorem gX2_inSymmetric (X : Cx V A cc nL RX2 p m c s args) (hW : WdC V ad A st H) (hdg : decode cc pc = .ok (.getfield 38, 3)) (kk : W p l e R s m args below meth c H locs cells slots Q (F0 m (pc + 3) ls (.ref (ad 16) :: rest))) : W p l e R s m args below meth c H locs cells slots Q (F0 m pc ls (.ref (ad 3) :: rest)) := by
  obtain ⟨ad', ha, hP, -⟩ := hW
  rw [← ha 3 (by decide)]
  rw [← ha 16 (by decide)] at kk
  exact va_get (D := V.1) (ci := 2) (C := RX2) (T := TX2) (N := 13) X.hx X.hb X.1.2.2.2.2 inG_X2 X.ho X.hK hP 3 (cw_ate (by decide) rfl) rfl 8 (by decide) (X.ts fl_X2_inSymmetric) (fun _ h => h) rfl hdg kk
theorem gX2_visits (X : Cx V A cc nL RX2 p m c s args) (hW : WdC V ad A st H) (hdg : decode cc pc = .ok (.getfield 41, 3)) (kk : W p l e R s m args below meth c H locs cells slots Q (F0 m (pc + 3) ls (.int (st.1 7) :: rest))) : W p l e R s m args below meth c H locs cells slots Q (F0 m pc ls (.ref (ad 3) :: rest)) := by
  obtain ⟨ad', ha, hP, -⟩ := hW
  rw [← ha 3 (by decide)]
  exact va_get (D := V.1) (ci := 2) (C := RX2) (T := TX2) (N := 13) X.hx X.hb X.1.2.2.2.2 inG_X2 X.ho X.hK hP 3 (cw_ate (by decide) rfl) rfl 9 (by decide) (X.ts fl_X2_visits) (fun _ h => h) rfl hdg kk
theorem pX2_visits (X : Cx V A cc nL RX2 p m c s args) (hW : WdC V ad A st H) (hS : va_S A s.heap H locs) {v : Int32} (hdg : decode cc pc = .ok (.putfield 41, 3)) (kk : ∀ (H : Heap) (locs : List Loc), WdC V ad A (sI st 7 v) H → va_S A s.heap H locs → W p l e R s m args below meth c H locs cells slots Q (F0 m (pc + 3) ls rest)) : W p l e R s m args below meth c H locs cells slots Q (F0 m pc ls (.int v :: .ref (ad 3) :: rest)) := by
  obtain ⟨ad', ha, hP, hD⟩ := hW
  rw [← ha 3 (by decide)]
  have e : (cw ad' (cE V ad' st) 38).set 3 (ad' 3, .inr (2, [.ref (ad' 2), .ref (ad' 4), .ref (ad' 5), .ref (ad' 7), .ref (ad' 8), .ref (ad' 9), .ref (ad' 14), .ref (ad' 15), .ref (ad' 16), .int v, .int (st.1 8), .int (st.1 9), .int (st.1 10)])) = cw ad' (cE V ad' (sI st 7 v)) 38 := cw_set (by decide) rfl (cE_I (lt10 (fun _ => rfl) (fun _ => rfl) (fun _ => rfl) (fun h => absurd rfl h) (fun _ => rfl) (fun _ => rfl) (fun _ => rfl) (fun _ => rfl) (fun _ => rfl) (fun _ => rfl)))
  refine va_put (D := V.1) (ci := 2) (v := .int v) (ty := .int) (C := RX2) (T := TX2) (N := 13) X.hx X.hb X.1.2.2.2.2 inG_X2 tyX2 tyX2_ok nmX2 X.ho X.hK hP hD hS 3 (cw_ate (by decide) rfl) rfl 9 (by decide) (X.ts fl_X2_visits) (fun _ h => h) rfl (by decide +kernel) rfl rfl (Nat.le_of_ble_eq_true rfl) hdg (fun H1 locs1 hP hD hS => ?_)
  exact kk H1 locs1 ⟨ad', ha, e ▸ hP, e ▸ hD⟩ hS
theorem gX2_dead (X : Cx V A cc nL RX2 p m c s args) (hW : WdC V ad A st H) (hdg : decode cc pc = .ok (.getfield 45, 3)) (kk : W p l e R s m args below meth c H locs cells slots Q (F0 m (pc + 3) ls (.int (st.1 8) :: rest))) : W p l e R s m args below meth c H locs cells slots Q (F0 m pc ls (.ref (ad 3) :: rest)) := by
  obtain ⟨ad', ha, hP, -⟩ := hW
  rw [← ha 3 (by decide)]
  exact va_get (D := V.1) (ci := 2) (C := RX2) (T := TX2) (N := 13) X.hx X.hb X.1.2.2.2.2 inG_X2 X.ho X.hK hP 3 (cw_ate (by decide) rfl) rfl 10 (by decide) (X.ts fl_X2_dead) (fun _ h => h) rfl hdg kk
theorem pX2_dead (X : Cx V A cc nL RX2 p m c s args) (hW : WdC V ad A st H) (hS : va_S A s.heap H locs) {v : Int32} (hdg : decode cc pc = .ok (.putfield 45, 3)) (kk : ∀ (H : Heap) (locs : List Loc), WdC V ad A (sI st 8 v) H → va_S A s.heap H locs → W p l e R s m args below meth c H locs cells slots Q (F0 m (pc + 3) ls rest)) : W p l e R s m args below meth c H locs cells slots Q (F0 m pc ls (.int v :: .ref (ad 3) :: rest)) := by
  obtain ⟨ad', ha, hP, hD⟩ := hW
  rw [← ha 3 (by decide)]
  have e : (cw ad' (cE V ad' st) 38).set 3 (ad' 3, .inr (2, [.ref (ad' 2), .ref (ad' 4), .ref (ad' 5), .ref (ad' 7), .ref (ad' 8), .ref (ad' 9), .ref (ad' 14), .ref (ad' 15), .ref (ad' 16), .int (st.1 7), .int v, .int (st.1 9), .int (st.1 10)])) = cw ad' (cE V ad' (sI st 8 v)) 38 := cw_set (by decide) rfl (cE_I (lt10 (fun _ => rfl) (fun _ => rfl) (fun _ => rfl) (fun h => absurd rfl h) (fun _ => rfl) (fun _ => rfl) (fun _ => rfl) (fun _ => rfl) (fun _ => rfl) (fun _ => rfl)))
  refine va_put (D := V.1) (ci := 2) (v := .int v) (ty := .int) (C := RX2) (T := TX2) (N := 13) X.hx X.hb X.1.2.2.2.2 inG_X2 tyX2 tyX2_ok nmX2 X.ho X.hK hP hD hS 3 (cw_ate (by decide) rfl) rfl 10 (by decide) (X.ts fl_X2_dead) (fun _ h => h) rfl (by decide +kernel) rfl rfl (Nat.le_of_ble_eq_true rfl) hdg (fun H1 locs1 hP hD hS => ?_)
  exact kk H1 locs1 ⟨ad', ha, e ▸ hP, e ▸ hD⟩ hS
theorem gX2_visitsWithMemory (X : Cx V A cc nL RX2 p m c s args) (hW : WdC V ad A st H) (hdg : decode cc pc = .ok (.getfield 48, 3)) (kk : W p l e R s m args below meth c H locs cells slots Q (F0 m (pc + 3) ls (.int (st.1 9) :: rest))) : W p l e R s m args below meth c H locs cells slots Q (F0 m pc ls (.ref (ad 3) :: rest)) := by
  obtain ⟨ad', ha, hP, -⟩ := hW
  rw [← ha 3 (by decide)]
  exact va_get (D := V.1) (ci := 2) (C := RX2) (T := TX2) (N := 13) X.hx X.hb X.1.2.2.2.2 inG_X2 X.ho X.hK hP 3 (cw_ate (by decide) rfl) rfl 11 (by decide) (X.ts fl_X2_visitsWithMemory) (fun _ h => h) rfl hdg kk
theorem pX2_visitsWithMemory (X : Cx V A cc nL RX2 p m c s args) (hW : WdC V ad A st H) (hS : va_S A s.heap H locs) {v : Int32} (hdg : decode cc pc = .ok (.putfield 48, 3)) (kk : ∀ (H : Heap) (locs : List Loc), WdC V ad A (sI st 9 v) H → va_S A s.heap H locs → W p l e R s m args below meth c H locs cells slots Q (F0 m (pc + 3) ls rest)) : W p l e R s m args below meth c H locs cells slots Q (F0 m pc ls (.int v :: .ref (ad 3) :: rest)) := by
  obtain ⟨ad', ha, hP, hD⟩ := hW
  rw [← ha 3 (by decide)]
  have e : (cw ad' (cE V ad' st) 38).set 3 (ad' 3, .inr (2, [.ref (ad' 2), .ref (ad' 4), .ref (ad' 5), .ref (ad' 7), .ref (ad' 8), .ref (ad' 9), .ref (ad' 14), .ref (ad' 15), .ref (ad' 16), .int (st.1 7), .int (st.1 8), .int v, .int (st.1 10)])) = cw ad' (cE V ad' (sI st 9 v)) 38 := cw_set (by decide) rfl (cE_I (lt10 (fun _ => rfl) (fun _ => rfl) (fun _ => rfl) (fun h => absurd rfl h) (fun _ => rfl) (fun _ => rfl) (fun _ => rfl) (fun _ => rfl) (fun _ => rfl) (fun _ => rfl)))
  refine va_put (D := V.1) (ci := 2) (v := .int v) (ty := .int) (C := RX2) (T := TX2) (N := 13) X.hx X.hb X.1.2.2.2.2 inG_X2 tyX2 tyX2_ok nmX2 X.ho X.hK hP hD hS 3 (cw_ate (by decide) rfl) rfl 11 (by decide) (X.ts fl_X2_visitsWithMemory) (fun _ h => h) rfl (by decide +kernel) rfl rfl (Nat.le_of_ble_eq_true rfl) hdg (fun H1 locs1 hP hD hS => ?_)
  exact kk H1 locs1 ⟨ad', ha, e ▸ hP, e ▸ hD⟩ hS
theorem gX2_cuts (X : Cx V A cc nL RX2 p m c s args) (hW : WdC V ad A st H) (hdg : decode cc pc = .ok (.getfield 51, 3)) (kk : W p l e R s m args below meth c H locs cells slots Q (F0 m (pc + 3) ls (.int (st.1 10) :: rest))) : W p l e R s m args below meth c H locs cells slots Q (F0 m pc ls (.ref (ad 3) :: rest)) := by
  obtain ⟨ad', ha, hP, -⟩ := hW
  rw [← ha 3 (by decide)]
  exact va_get (D := V.1) (ci := 2) (C := RX2) (T := TX2) (N := 13) X.hx X.hb X.1.2.2.2.2 inG_X2 X.ho X.hK hP 3 (cw_ate (by decide) rfl) rfl 12 (by decide) (X.ts fl_X2_cuts) (fun _ h => h) rfl hdg kk
theorem pX2_cuts (X : Cx V A cc nL RX2 p m c s args) (hW : WdC V ad A st H) (hS : va_S A s.heap H locs) {v : Int32} (hdg : decode cc pc = .ok (.putfield 51, 3)) (kk : ∀ (H : Heap) (locs : List Loc), WdC V ad A (sI st 10 v) H → va_S A s.heap H locs → W p l e R s m args below meth c H locs cells slots Q (F0 m (pc + 3) ls rest)) : W p l e R s m args below meth c H locs cells slots Q (F0 m pc ls (.int v :: .ref (ad 3) :: rest)) := by
  obtain ⟨ad', ha, hP, hD⟩ := hW
  rw [← ha 3 (by decide)]
  have e : (cw ad' (cE V ad' st) 38).set 3 (ad' 3, .inr (2, [.ref (ad' 2), .ref (ad' 4), .ref (ad' 5), .ref (ad' 7), .ref (ad' 8), .ref (ad' 9), .ref (ad' 14), .ref (ad' 15), .ref (ad' 16), .int (st.1 7), .int (st.1 8), .int (st.1 9), .int v])) = cw ad' (cE V ad' (sI st 10 v)) 38 := cw_set (by decide) rfl (cE_I (lt10 (fun _ => rfl) (fun _ => rfl) (fun _ => rfl) (fun h => absurd rfl h) (fun _ => rfl) (fun _ => rfl) (fun _ => rfl) (fun _ => rfl) (fun _ => rfl) (fun _ => rfl)))
  refine va_put (D := V.1) (ci := 2) (v := .int v) (ty := .int) (C := RX2) (T := TX2) (N := 13) X.hx X.hb X.1.2.2.2.2 inG_X2 tyX2 tyX2_ok nmX2 X.ho X.hK hP hD hS 3 (cw_ate (by decide) rfl) rfl 12 (by decide) (X.ts fl_X2_cuts) (fun _ h => h) rfl (by decide +kernel) rfl rfl (Nat.le_of_ble_eq_true rfl) hdg (fun H1 locs1 hP hD hS => ?_)
  exact kk H1 locs1 ⟨ad', ha, e ▸ hP, e ▸ hD⟩ hS
theorem rcX2 (X : Cx V A cc nL own p m c s args) (hW : WdC V ad A st H) : Rcv s H RX2 (ad 3) := by
  obtain ⟨ad', ha, hP, -⟩ := hW
  rw [← ha 3 (by decide)]
  exact va_recv X.hK hP (ci := 2) (q := (RX2, TX2, 13)) (q0 := 3) rfl (cw_ate (by decide) rfl)
theorem gX3_list (X : Cx V A cc nL RX3 p m c s args) (hW : WdC V ad A st H) (hdg : decode cc pc = .ok (.getfield 22, 3)) (kk : W p l e R s m args below meth c H locs cells slots Q (F0 m (pc + 3) ls (.ref (ad 2) :: rest))) : W p l e R s m args below meth c H locs cells slots Q (F0 m pc ls (.ref (ad 4) :: rest)) := by
  obtain ⟨ad', ha, hP, -⟩ := hW
  rw [← ha 4 (by decide)]
  rw [← ha 2 (by decide)] at kk
  exact va_get (D := V.1) (ci := 3) (C := RX3) (T := TX3) (N := 4) X.hx X.hb X.1.2.2.2.2 inG_X3 X.ho X.hK hP 4 (cw_ate (by decide) rfl) rfl 0 (by decide) (X.ts fl_X3_list) (fun _ h => h) rfl hdg kk
theorem gX3_longer (X : Cx V A cc nL RX3 p m c s args) (hW : WdC V ad A st H) (hdg : decode cc pc = .ok (.getfield 11, 3)) (kk : W p l e R s m args below meth c H locs cells slots Q (F0 m (pc + 3) ls (.ref (ad 23) :: rest))) : W p l e R s m args below meth c H locs cells slots Q (F0 m pc ls (.ref (ad 4) :: rest)) := by
  obtain ⟨ad', ha, hP, -⟩ := hW
  rw [← ha 4 (by decide)]
  rw [← ha 23 (by decide)] at kk
  exact va_get (D := V.1) (ci := 3) (C := RX3) (T := TX3) (N := 4) X.hx X.hb X.1.2.2.2.2 inG_X3 X.ho X.hK hP 4 (cw_ate (by decide) rfl) rfl 1 (by decide) (X.ts fl_X3_longer) (fun _ h => h) rfl hdg kk
theorem gX3_takers (X : Cx V A cc nL RX3 p m c s args) (hW : WdC V ad A st H) (hdg : decode cc pc = .ok (.getfield 16, 3)) (kk : W p l e R s m args below meth c H locs cells slots Q (F0 m (pc + 3) ls (.ref (ad 28) :: rest))) : W p l e R s m args below meth c H locs cells slots Q (F0 m pc ls (.ref (ad 4) :: rest)) := by
  obtain ⟨ad', ha, hP, -⟩ := hW
  rw [← ha 4 (by decide)]
  rw [← ha 28 (by decide)] at kk
  exact va_get (D := V.1) (ci := 3) (C := RX3) (T := TX3) (N := 4) X.hx X.hb X.1.2.2.2.2 inG_X3 X.ho X.hK hP 4 (cw_ate (by decide) rfl) rfl 2 (by decide) (X.ts fl_X3_takers) (fun _ h => h) rfl hdg kk
theorem gX3_likes (X : Cx V A cc nL RX3 p m c s args) (hW : WdC V ad A st H) (hdg : decode cc pc = .ok (.getfield 19, 3)) (kk : W p l e R s m args below meth c H locs cells slots Q (F0 m (pc + 3) ls (.ref (ad 33) :: rest))) : W p l e R s m args below meth c H locs cells slots Q (F0 m pc ls (.ref (ad 4) :: rest)) := by
  obtain ⟨ad', ha, hP, -⟩ := hW
  rw [← ha 4 (by decide)]
  rw [← ha 33 (by decide)] at kk
  exact va_get (D := V.1) (ci := 3) (C := RX3) (T := TX3) (N := 4) X.hx X.hb X.1.2.2.2.2 inG_X3 X.ho X.hK hP 4 (cw_ate (by decide) rfl) rfl 3 (by decide) (X.ts fl_X3_likes) (fun _ h => h) rfl hdg kk
theorem rcX3 (X : Cx V A cc nL own p m c s args) (hW : WdC V ad A st H) : Rcv s H RX3 (ad 4) := by
  obtain ⟨ad', ha, hP, -⟩ := hW
  rw [← ha 4 (by decide)]
  exact va_recv X.hK hP (ci := 3) (q := (RX3, TX3, 4)) (q0 := 4) rfl (cw_ate (by decide) rfl)
theorem gX1_seen (X : Cx V A cc nL RX1 p m c s args) (hW : WdC V ad A st H) (hdg : decode cc pc = .ok (.getfield 9, 3)) (kk : W p l e R s m args below meth c H locs cells slots Q (F0 m (pc + 3) ls (.ref (ad 19) :: rest))) : W p l e R s m args below meth c H locs cells slots Q (F0 m pc ls (.ref (ad 5) :: rest)) := by
  obtain ⟨ad', ha, hP, -⟩ := hW
  rw [← ha 5 (by decide)]
  rw [← ha 19 (by decide)] at kk
  exact va_get (D := V.1) (ci := 1) (C := RX1) (T := TX1) (N := 2) X.hx X.hb X.1.2.2.2.2 inG_X1 X.ho X.hK hP 5 (cw_ate (by decide) rfl) rfl 0 (by decide) (X.ts fl_X1_seen) (fun _ h => h) rfl hdg kk
theorem gX1_size (X : Cx V A cc nL RX1 p m c s args) (hW : WdC V ad A st H) (hdg : decode cc pc = .ok (.getfield 13, 3)) (kk : W p l e R s m args below meth c H locs cells slots Q (F0 m (pc + 3) ls (.int (st.1 11) :: rest))) : W p l e R s m args below meth c H locs cells slots Q (F0 m pc ls (.ref (ad 5) :: rest)) := by
  obtain ⟨ad', ha, hP, -⟩ := hW
  rw [← ha 5 (by decide)]
  exact va_get (D := V.1) (ci := 1) (C := RX1) (T := TX1) (N := 2) X.hx X.hb X.1.2.2.2.2 inG_X1 X.ho X.hK hP 5 (cw_ate (by decide) rfl) rfl 1 (by decide) (X.ts fl_X1_size) (fun _ h => h) rfl hdg kk
theorem pX1_size (X : Cx V A cc nL RX1 p m c s args) (hW : WdC V ad A st H) (hS : va_S A s.heap H locs) {v : Int32} (hdg : decode cc pc = .ok (.putfield 13, 3)) (kk : ∀ (H : Heap) (locs : List Loc), WdC V ad A (sI st 11 v) H → va_S A s.heap H locs → W p l e R s m args below meth c H locs cells slots Q (F0 m (pc + 3) ls rest)) : W p l e R s m args below meth c H locs cells slots Q (F0 m pc ls (.int v :: .ref (ad 5) :: rest)) := by
  obtain ⟨ad', ha, hP, hD⟩ := hW
  rw [← ha 5 (by decide)]
  have e : (cw ad' (cE V ad' st) 38).set 5 (ad' 5, .inr (1, [.ref (ad' 19), .int v])) = cw ad' (cE V ad' (sI st 11 v)) 38 := cw_set (by decide) rfl (cE_I (lt10 (fun _ => rfl) (fun _ => rfl) (fun _ => rfl) (fun _ => rfl) (fun _ => rfl) (fun h => absurd rfl h) (fun _ => rfl) (fun _ => rfl) (fun _ => rfl) (fun _ => rfl)))
  refine va_put (D := V.1) (ci := 1) (v := .int v) (ty := .int) (C := RX1) (T := TX1) (N := 2) X.hx X.hb X.1.2.2.2.2 inG_X1 tyX1 tyX1_ok nmX1 X.ho X.hK hP hD hS 5 (cw_ate (by decide) rfl) rfl 1 (by decide) (X.ts fl_X1_size) (fun _ h => h) rfl (by decide +kernel) rfl rfl (Nat.le_of_ble_eq_true rfl) hdg (fun H1 locs1 hP hD hS => ?_)
  exact kk H1 locs1 ⟨ad', ha, e ▸ hP, e ▸ hD⟩ hS
theorem rcX1 (X : Cx V A cc nL own p m c s args) (hW : WdC V ad A st H) : Rcv s H RX1 (ad 5) := by
  obtain ⟨ad', ha, hP, -⟩ := hW
  rw [← ha 5 (by decide)]
  exact va_recv X.hK hP (ci := 1) (q := (RX1, TX1, 2)) (q0 := 5) rfl (cw_ate (by decide) rfl)
theorem gX0_placed (X : Cx V A cc nL RX0 p m c s args) (hW : WdC V ad A st H) (hdg : decode cc pc = .ok (.getfield 9, 3)) (kk : W p l e R s m args below meth c H locs cells slots Q (F0 m (pc + 3) ls (.ref (ad 17) :: rest))) : W p l e R s m args below meth c H locs cells slots Q (F0 m pc ls (.ref (ad 6) :: rest)) := by
  obtain ⟨ad', ha, hP, -⟩ := hW
  rw [← ha 6 (by decide)]
  rw [← ha 17 (by decide)] at kk
  exact va_get (D := V.1) (ci := 0) (C := RX0) (T := TX0) (N := 3) X.hx X.hb X.1.2.2.2.2 inG_X0 X.ho X.hK hP 6 (cw_ate (by decide) rfl) rfl 0 (by decide) (X.ts fl_X0_placed) (fun _ h => h) rfl hdg kk
theorem gX0_sets (X : Cx V A cc nL RX0 p m c s args) (hW : WdC V ad A st H) (hdg : decode cc pc = .ok (.getfield 15, 3)) (kk : W p l e R s m args below meth c H locs cells slots Q (F0 m (pc + 3) ls (.ref (ad 18) :: rest))) : W p l e R s m args below meth c H locs cells slots Q (F0 m pc ls (.ref (ad 6) :: rest)) := by
  obtain ⟨ad', ha, hP, -⟩ := hW
  rw [← ha 6 (by decide)]
  rw [← ha 18 (by decide)] at kk
  exact va_get (D := V.1) (ci := 0) (C := RX0) (T := TX0) (N := 3) X.hx X.hb X.1.2.2.2.2 inG_X0 X.ho X.hK hP 6 (cw_ate (by decide) rfl) rfl 1 (by decide) (X.ts fl_X0_sets) (fun _ h => h) rfl hdg kk
theorem gX0_fits (X : Cx V A cc nL RX0 p m c s args) (hW : WdC V ad A st H) (hdg : decode cc pc = .ok (.getfield 18, 3)) (kk : W p l e R s m args below meth c H locs cells slots Q (F0 m (pc + 3) ls (.int (st.1 12) :: rest))) : W p l e R s m args below meth c H locs cells slots Q (F0 m pc ls (.ref (ad 6) :: rest)) := by
  obtain ⟨ad', ha, hP, -⟩ := hW
  rw [← ha 6 (by decide)]
  exact va_get (D := V.1) (ci := 0) (C := RX0) (T := TX0) (N := 3) X.hx X.hb X.1.2.2.2.2 inG_X0 X.ho X.hK hP 6 (cw_ate (by decide) rfl) rfl 2 (by decide) (X.ts fl_X0_fits) (fun _ h => h) rfl hdg kk
theorem pX0_fits (X : Cx V A cc nL RX0 p m c s args) (hW : WdC V ad A st H) (hS : va_S A s.heap H locs) {v : Int32} (hdg : decode cc pc = .ok (.putfield 18, 3)) (kk : ∀ (H : Heap) (locs : List Loc), WdC V ad A (sI st 12 v) H → va_S A s.heap H locs → W p l e R s m args below meth c H locs cells slots Q (F0 m (pc + 3) ls rest)) : W p l e R s m args below meth c H locs cells slots Q (F0 m pc ls (.int v :: .ref (ad 6) :: rest)) := by
  obtain ⟨ad', ha, hP, hD⟩ := hW
  rw [← ha 6 (by decide)]
  have e : (cw ad' (cE V ad' st) 38).set 6 (ad' 6, .inr (0, [.ref (ad' 17), .ref (ad' 18), .int v])) = cw ad' (cE V ad' (sI st 12 v)) 38 := cw_set (by decide) rfl (cE_I (lt10 (fun _ => rfl) (fun _ => rfl) (fun _ => rfl) (fun _ => rfl) (fun _ => rfl) (fun _ => rfl) (fun h => absurd rfl h) (fun _ => rfl) (fun _ => rfl) (fun _ => rfl)))
  refine va_put (D := V.1) (ci := 0) (v := .int v) (ty := .int) (C := RX0) (T := TX0) (N := 3) X.hx X.hb X.1.2.2.2.2 inG_X0 tyX0 tyX0_ok nmX0 X.ho X.hK hP hD hS 6 (cw_ate (by decide) rfl) rfl 2 (by decide) (X.ts fl_X0_fits) (fun _ h => h) rfl (by decide +kernel) rfl rfl (Nat.le_of_ble_eq_true rfl) hdg (fun H1 locs1 hP hD hS => ?_)
  exact kk H1 locs1 ⟨ad', ha, e ▸ hP, e ▸ hD⟩ hS
theorem rcX0 (X : Cx V A cc nL own p m c s args) (hW : WdC V ad A st H) : Rcv s H RX0 (ad 6) := by
  obtain ⟨ad', ha, hP, -⟩ := hW
  rw [← ha 6 (by decide)]
  exact va_recv X.hK hP (ci := 0) (q := (RX0, TX0, 3)) (q0 := 6) rfl (cw_ate (by decide) rfl)
theorem rcX4 (X : Cx V A cc nL own p m c s args) {k : Nat} (hk : k < 3) (hW : WdC V ad A st H) : Rcv s H RX4 (ad (7 + k)) := by
  obtain ⟨ad', ha, hP, -⟩ := hW
  rw [← ha (7 + k) (by omega)]
  rcases (show k = 0 ∨ k = 1 ∨ k = 2 by omega) with rfl | rfl | rfl
  · exact va_recv X.hK hP (ci := 4) (q := (RX4, TX4, 2)) (q0 := 7) rfl (cw_ate (by decide) rfl)
  · exact va_recv X.hK hP (ci := 4) (q := (RX4, TX4, 2)) (q0 := 8) rfl (cw_ate (by decide) rfl)
  · exact va_recv X.hK hP (ci := 4) (q := (RX4, TX4, 2)) (q0 := 9) rfl (cw_ate (by decide) rfl)
theorem gX4_size (X : Cx V A cc nL RX4 p m c s args) {k : Nat} (hk : k < 3) (hW : WdC V ad A st H) (hdg : decode cc pc = .ok (.getfield 13, 3)) (kk : W p l e R s m args below meth c H locs cells slots Q (F0 m (pc + 3) ls (.int (st.1 (13 + k)) :: rest))) : W p l e R s m args below meth c H locs cells slots Q (F0 m pc ls (.ref (ad (7 + k)) :: rest)) := by
  obtain ⟨ad', ha, hP, -⟩ := hW
  rw [← ha (7 + k) (by omega)]
  rcases (show k = 0 ∨ k = 1 ∨ k = 2 by omega) with rfl | rfl | rfl
  · exact va_get (D := V.1) (ci := 4) (v := .int (st.1 13)) (C := RX4) (T := TX4) (N := 2) X.hx X.hb X.1.2.2.2.2 inG_X4 X.ho X.hK hP 7 (cw_ate (by decide) rfl) rfl 1 (by decide) (X.ts fl_X4_size) (fun _ h => h) rfl hdg kk
  · exact va_get (D := V.1) (ci := 4) (v := .int (st.1 14)) (C := RX4) (T := TX4) (N := 2) X.hx X.hb X.1.2.2.2.2 inG_X4 X.ho X.hK hP 8 (cw_ate (by decide) rfl) rfl 1 (by decide) (X.ts fl_X4_size) (fun _ h => h) rfl hdg kk
  · exact va_get (D := V.1) (ci := 4) (v := .int (st.1 15)) (C := RX4) (T := TX4) (N := 2) X.hx X.hb X.1.2.2.2.2 inG_X4 X.ho X.hK hP 9 (cw_ate (by decide) rfl) rfl 1 (by decide) (X.ts fl_X4_size) (fun _ h => h) rfl hdg kk
theorem gX4_items (X : Cx V A cc nL RX4 p m c s args) {k : Nat} (hk : k < 3) (hW : WdC V ad A st H) (hdg : decode cc pc = .ok (.getfield 9, 3)) (kk : ∀ q : Nat, WdQ V ad A k q st H → W p l e R s m args below meth c H locs cells slots Q (F0 m (pc + 3) ls (.ref q :: rest))) : W p l e R s m args below meth c H locs cells slots Q (F0 m pc ls (.ref (ad (7 + k)) :: rest)) := by
  obtain ⟨ad', ha, hP, hD⟩ := hW
  rw [← ha (7 + k) (by omega)]
  have hq := kk (ad' (20 + k)) ⟨ad', ha, hP, hD, rfl⟩
  rcases (show k = 0 ∨ k = 1 ∨ k = 2 by omega) with rfl | rfl | rfl
  · exact va_get (D := V.1) (ci := 4) (v := .ref (ad' 20)) (C := RX4) (T := TX4) (N := 2) X.hx X.hb X.1.2.2.2.2 inG_X4 X.ho X.hK hP 7 (cw_ate (by decide) rfl) rfl 0 (by decide) (X.ts fl_X4_items) (fun _ h => h) rfl hdg hq
  · exact va_get (D := V.1) (ci := 4) (v := .ref (ad' 21)) (C := RX4) (T := TX4) (N := 2) X.hx X.hb X.1.2.2.2.2 inG_X4 X.ho X.hK hP 8 (cw_ate (by decide) rfl) rfl 0 (by decide) (X.ts fl_X4_items) (fun _ h => h) rfl hdg hq
  · exact va_get (D := V.1) (ci := 4) (v := .ref (ad' 22)) (C := RX4) (T := TX4) (N := 2) X.hx X.hb X.1.2.2.2.2 inG_X4 X.ho X.hK hP 9 (cw_ate (by decide) rfl) rfl 0 (by decide) (X.ts fl_X4_items) (fun _ h => h) rfl hdg hq
theorem pX4_size (X : Cx V A cc nL RX4 p m c s args) {k : Nat} (hk : k < 3) (hW : WdC V ad A st H) (hS : va_S A s.heap H locs) {v : Int32} (hdg : decode cc pc = .ok (.putfield 13, 3)) (kk : ∀ (H : Heap) (locs : List Loc), WdC V ad A (sI st (13 + k) v) H → va_S A s.heap H locs → W p l e R s m args below meth c H locs cells slots Q (F0 m (pc + 3) ls rest)) : W p l e R s m args below meth c H locs cells slots Q (F0 m pc ls (.int v :: .ref (ad (7 + k)) :: rest)) := by
  obtain ⟨ad', ha, hP, hD⟩ := hW
  rw [← ha (7 + k) (by omega)]
  rcases (show k = 0 ∨ k = 1 ∨ k = 2 by omega) with rfl | rfl | rfl
  · have e : (cw ad' (cE V ad' st) 38).set 7 (ad' 7, .inr (4, [.ref (ad' 20), .int v])) = cw ad' (cE V ad' (sI st 13 v)) 38 := cw_set (by decide) rfl (cE_I (lt10 (fun _ => rfl) (fun _ => rfl) (fun _ => rfl) (fun _ => rfl) (fun _ => rfl) (fun _ => rfl) (fun _ => rfl) (fun h => absurd rfl h) (fun _ => rfl) (fun _ => rfl)))
    refine va_put (D := V.1) (ci := 4) (v := .int v) (ty := .int) (C := RX4) (T := TX4) (N := 2) X.hx X.hb X.1.2.2.2.2 inG_X4 tyX4 tyX4_ok nmX4 X.ho X.hK hP hD hS 7 (cw_ate (by decide) rfl) rfl 1 (by decide) (X.ts fl_X4_size) (fun _ h => h) rfl (by decide +kernel) rfl rfl (Nat.le_of_ble_eq_true rfl) hdg (fun H1 locs1 hP hD hS => ?_)
    exact kk H1 locs1 ⟨ad', ha, e ▸ hP, e ▸ hD⟩ hS
  · have e : (cw ad' (cE V ad' st) 38).set 8 (ad' 8, .inr (4, [.ref (ad' 21), .int v])) = cw ad' (cE V ad' (sI st 14 v)) 38 := cw_set (by decide) rfl (cE_I (lt10 (fun _ => rfl) (fun _ => rfl) (fun _ => rfl) (fun _ => rfl) (fun _ => rfl) (fun _ => rfl) (fun _ => rfl) (fun _ => rfl) (fun h => absurd rfl h) (fun _ => rfl)))
    refine va_put (D := V.1) (ci := 4) (v := .int v) (ty := .int) (C := RX4) (T := TX4) (N := 2) X.hx X.hb X.1.2.2.2.2 inG_X4 tyX4 tyX4_ok nmX4 X.ho X.hK hP hD hS 8 (cw_ate (by decide) rfl) rfl 1 (by decide) (X.ts fl_X4_size) (fun _ h => h) rfl (by decide +kernel) rfl rfl (Nat.le_of_ble_eq_true rfl) hdg (fun H1 locs1 hP hD hS => ?_)
    exact kk H1 locs1 ⟨ad', ha, e ▸ hP, e ▸ hD⟩ hS
  · have e : (cw ad' (cE V ad' st) 38).set 9 (ad' 9, .inr (4, [.ref (ad' 22), .int v])) = cw ad' (cE V ad' (sI st 15 v)) 38 := cw_set (by decide) rfl (cE_I (lt10 (fun _ => rfl) (fun _ => rfl) (fun _ => rfl) (fun _ => rfl) (fun _ => rfl) (fun _ => rfl) (fun _ => rfl) (fun _ => rfl) (fun _ => rfl) (fun h => absurd rfl h)))
    refine va_put (D := V.1) (ci := 4) (v := .int v) (ty := .int) (C := RX4) (T := TX4) (N := 2) X.hx X.hb X.1.2.2.2.2 inG_X4 tyX4 tyX4_ok nmX4 X.ho X.hK hP hD hS 9 (cw_ate (by decide) rfl) rfl 1 (by decide) (X.ts fl_X4_size) (fun _ h => h) rfl (by decide +kernel) rfl rfl (Nat.le_of_ble_eq_true rfl) hdg (fun H1 locs1 hP hD hS => ?_)
    exact kk H1 locs1 ⟨ad', ha, e ▸ hP, e ▸ hD⟩ hS
theorem aC_ld (X : Cx V A cc nL own p m c s args) (hW : WdC V ad A st H) {q n : Nat} (hq : isA q) (hn : aln st q = n) {i : Int32} (hin : inb i n = true) (hdg : decode cc pc = .ok (.iaload, 1)) (kk : W p l e R s m args below meth c H locs cells slots Q (F0 m (pc + 1) ls (.int (st.2.1 q i.toNatClampNeg) :: rest))) : W p l e R s m args below meth c H locs cells slots Q (F0 m pc ls (.int i :: .ref (ad q) :: rest)) := by
  obtain ⟨ad', ha, hP, -⟩ := hW
  rw [← ha q hq.2]
  exact va_iald X.hx X.hb X.hK hP q 0 (cw_ate hq.1.2.1 (cE_row hq.1)) rfl (inb_in (by rw [hn]; exact hin)) hdg kk
theorem aC_st (X : Cx V A cc nL own p m c s args) (hW : WdC V ad A st H) (hS : va_S A s.heap H locs) {q n : Nat} (hq : isA q) (hn : aln st q = n) {i v : Int32} (hin : inb i n = true) (hdg : decode cc pc = .ok (.iastore, 1)) (kk : ∀ (H : Heap) (locs : List Loc), WdC V ad A (sA st q i.toNatClampNeg v) H → va_S A s.heap H locs → W p l e R s m args below meth c H locs cells slots Q (F0 m (pc + 1) ls rest)) : W p l e R s m args below meth c H locs cells slots Q (F0 m pc ls (.int v :: .int i :: .ref (ad q) :: rest)) := by
  obtain ⟨ad', ha, hP, hD⟩ := hW
  rw [← ha q hq.2]
  refine va_iast X.hx X.hb X.hK hP hD hS q 0 (cw_ate hq.1.2.1 (cE_row hq.1)) rfl (inb_in (by rw [hn]; exact hin)) hdg (fun H1 locs1 hP hD hS => ?_)
  have e : (cw ad' (cE V ad' st) 38).set q (ad' q, .inl (V.2.1, aln st q, .inl (upd (st.2.1 q) i.toNatClampNeg v))) = cw ad' (cE V ad' (sA st q i.toNatClampNeg v)) 38 := cw_set hq.1.2.1 (by rw [cE_row hq.1]; show Sum.inl (V.2.1, aln st q, Sum.inl (va_up st.2.1 q _ q)) = _; rw [va_up_self]) (cE_A hq.1)
  exact kk H1 locs1 ⟨ad', ha, e ▸ hP, e ▸ hD⟩ hS
theorem aC_len (X : Cx V A cc nL own p m c s args) (hW : WdC V ad A st H) {q n : Nat} (hq : isA q) (hn : aln st q = n) (hdg : decode cc pc = .ok (.arraylength, 1)) (kk : W p l e R s m args below meth c H locs cells slots Q (F0 m (pc + 1) ls (.int (nI n) :: rest))) : W p l e R s m args below meth c H locs cells slots Q (F0 m pc ls (.ref (ad q) :: rest)) := by
  obtain ⟨ad', ha, hP, -⟩ := hW
  rw [← ha q hq.2]
  exact va_alen X.hx X.hb X.hK hP q 0 (cw_ate hq.1.2.1 (cE_row hq.1)) rfl (by rw [← hn]; rfl) hdg kk
theorem aC_lenJ (X : Cx V A cc nL own p m c s args) (hW : WdC V ad A st H) (hdg : decode cc pc = .ok (.arraylength, 1)) (kk : W p l e R s m args below meth c H locs cells slots Q (F0 m (pc + 1) ls (.int (nI 1296) :: rest))) : W p l e R s m args below meth c H locs cells slots Q (F0 m pc ls (.ref (ad 19) :: rest)) := by
  obtain ⟨ad', ha, hP, -⟩ := hW
  rw [← ha 19 (by decide)]
  exact va_alen X.hx X.hb X.hK hP 19 1 (cw_ate (by decide) rfl) rfl rfl hdg kk
theorem aC_ldQ (X : Cx V A cc nL own p m c s args) {k q n : Nat} (hk : k < 3) (hW : WdQ V ad A k q st H) (hn : aln st (20 + k) = n) {i : Int32} (hin : inb i n = true) (hdg : decode cc pc = .ok (.iaload, 1)) (kk : W p l e R s m args below meth c H locs cells slots Q (F0 m (pc + 1) ls (.int (st.2.1 (20 + k) i.toNatClampNeg) :: rest))) : W p l e R s m args below meth c H locs cells slots Q (F0 m pc ls (.int i :: .ref q :: rest)) := by
  obtain ⟨ad', ha, hP, -, rfl⟩ := hW
  have hr : isR (20 + k) := ⟨by omega, by omega, by omega, by omega, by omega, by omega⟩
  exact va_iald X.hx X.hb X.hK hP (20 + k) 0 (cw_ate hr.2.1 (cE_row hr)) rfl (inb_in (by rw [hn]; exact hin)) hdg kk
theorem aC_lenQ (X : Cx V A cc nL own p m c s args) {k q n : Nat} (hk : k < 3) (hW : WdQ V ad A k q st H) (hn : aln st (20 + k) = n) (hdg : decode cc pc = .ok (.arraylength, 1)) (kk : W p l e R s m args below meth c H locs cells slots Q (F0 m (pc + 1) ls (.int (nI n) :: rest))) : W p l e R s m args below meth c H locs cells slots Q (F0 m pc ls (.ref q :: rest)) := by
  obtain ⟨ad', ha, hP, -, rfl⟩ := hW
  have hr : isR (20 + k) := ⟨by omega, by omega, by omega, by omega, by omega, by omega⟩
  exact va_alen X.hx X.hb X.hK hP (20 + k) 0 (cw_ate hr.2.1 (cE_row hr)) rfl (by rw [← hn]; rfl) hdg kk
theorem aC_stQ (X : Cx V A cc nL own p m c s args) (hS : va_S A s.heap H locs) {k q n : Nat} (hk : k < 3) (hW : WdQ V ad A k q st H) (hn : aln st (20 + k) = n) {i v : Int32} (hin : inb i n = true) (hdg : decode cc pc = .ok (.iastore, 1)) (kk : ∀ (H : Heap) (locs : List Loc), WdC V ad A (sA st (20 + k) i.toNatClampNeg v) H → va_S A s.heap H locs → W p l e R s m args below meth c H locs cells slots Q (F0 m (pc + 1) ls rest)) : W p l e R s m args below meth c H locs cells slots Q (F0 m pc ls (.int v :: .int i :: .ref q :: rest)) := by
  obtain ⟨ad', ha, hP, hD, rfl⟩ := hW
  have hr : isR (20 + k) := ⟨by omega, by omega, by omega, by omega, by omega, by omega⟩
  refine va_iast X.hx X.hb X.hK hP hD hS (20 + k) 0 (cw_ate hr.2.1 (cE_row hr)) rfl (inb_in (by rw [hn]; exact hin)) hdg (fun H1 locs1 hP hD hS => ?_)
  have e : (cw ad' (cE V ad' st) 38).set (20 + k) (ad' (20 + k), .inl (V.2.1, aln st (20 + k), .inl (upd (st.2.1 (20 + k)) i.toNatClampNeg v))) = cw ad' (cE V ad' (sA st (20 + k) i.toNatClampNeg v)) 38 := cw_set hr.2.1 (by rw [cE_row hr]; show Sum.inl (V.2.1, aln st (20 + k), Sum.inl (va_up st.2.1 (20 + k) _ (20 + k))) = _; rw [va_up_self]) (cE_A hr)
  exact kk H1 locs1 ⟨ad', ha, e ▸ hP, e ▸ hD⟩ hS
theorem jC_ld (X : Cx V A cc nL own p m c s args) (hW : WdC V ad A st H) {i : Int32} (hin : inb i 1296 = true) (hdg : decode cc pc = .ok (.laload, 1)) (kk : W p l e R s m args below meth c H locs cells slots Q (F0 m (pc + 1) ls (.long (st.2.2.1 i.toNatClampNeg) :: rest))) : W p l e R s m args below meth c H locs cells slots Q (F0 m pc ls (.int i :: .ref (ad 19) :: rest)) := by
  obtain ⟨ad', ha, hP, -⟩ := hW
  rw [← ha 19 (by decide)]
  exact va_lald X.hx X.hb X.hK hP 19 1 (cw_ate (by decide) rfl) rfl (inb_in hin) hdg kk
theorem jC_st (X : Cx V A cc nL own p m c s args) (hW : WdC V ad A st H) (hS : va_S A s.heap H locs) {i : Int32} {v : Int64} (hin : inb i 1296 = true) (hdg : decode cc pc = .ok (.lastore, 1)) (kk : ∀ (H : Heap) (locs : List Loc), WdC V ad A (sJ st i.toNatClampNeg v) H → va_S A s.heap H locs → W p l e R s m args below meth c H locs cells slots Q (F0 m (pc + 1) ls rest)) : W p l e R s m args below meth c H locs cells slots Q (F0 m pc ls (.long v :: .int i :: .ref (ad 19) :: rest)) := by
  obtain ⟨ad', ha, hP, hD⟩ := hW
  rw [← ha 19 (by decide)]
  refine va_last X.hx X.hb X.hK hP hD hS 19 1 (cw_ate (by decide) rfl) rfl (inb_in hin) hdg (fun H1 locs1 hP hD hS => ?_)
  have e : (cw ad' (cE V ad' st) 38).set 19 (ad' 19, .inl (V.2.2.1, 1296, .inr (.inl (vp_updL st.2.2.1 i.toNatClampNeg v)))) = cw ad' (cE V ad' (sJ st i.toNatClampNeg v)) 38 := cw_set (by decide) rfl cE_J
  exact kk H1 locs1 ⟨ad', ha, e ▸ hP, e ▸ hD⟩ hS
theorem oC_23 (X : Cx V A cc nL own p m c s args) (hW : WdC V ad A st H) {i : Int32} (hin : inb i 4 = true) (hdg : decode cc pc = .ok (.aaload, 1)) (kk : W p l e R s m args below meth c H locs cells slots Q (F0 m (pc + 1) ls (.ref (ad (24 + i.toNatClampNeg)) :: rest))) : W p l e R s m args below meth c H locs cells slots Q (F0 m pc ls (.int i :: .ref (ad 23) :: rest)) := by
  obtain ⟨ad', ha, hP, -⟩ := hW
  rw [← ha 23 (by decide)]
  have hi := inb_in hin
  have hlt : i.toNatClampNeg < 4 := Nat.not_le.mp fun q => hi (Or.inr q)
  rw [← ha (24 + i.toNatClampNeg) (by omega)] at kk
  exact W.aald (v := .ref (ad' (24 + i.toNatClampNeg))) (ty := .array .int) X.hx X.hb (hP 23 _ (cw_ate (by decide) rfl)) ((X.hK.2 3 _ rfl).1 4 (fun j => va_rf (if j < 4 then some (ad' (24 + j)) else none))) rfl (fun q => by cases q) (by show ¬ (i < 0 ∨ (arrV _ _ _).slots.size ≤ _); rw [arrV_size]; exact hi) (by show (arrV _ _ _).slots[_]? = _; rw [arrV_read _ _ hlt]; show some (va_rf (if i.toNatClampNeg < 4 then _ else none)) = _; rw [if_pos hlt]; rfl) rfl rfl hdg kk
theorem oC_28 (X : Cx V A cc nL own p m c s args) (hW : WdC V ad A st H) {i : Int32} (hin : inb i 4 = true) (hdg : decode cc pc = .ok (.aaload, 1)) (kk : W p l e R s m args below meth c H locs cells slots Q (F0 m (pc + 1) ls (.ref (ad (29 + i.toNatClampNeg)) :: rest))) : W p l e R s m args below meth c H locs cells slots Q (F0 m pc ls (.int i :: .ref (ad 28) :: rest)) := by
  obtain ⟨ad', ha, hP, -⟩ := hW
  rw [← ha 28 (by decide)]
  have hi := inb_in hin
  have hlt : i.toNatClampNeg < 4 := Nat.not_le.mp fun q => hi (Or.inr q)
  rw [← ha (29 + i.toNatClampNeg) (by omega)] at kk
  exact W.aald (v := .ref (ad' (29 + i.toNatClampNeg))) (ty := .array .int) X.hx X.hb (hP 28 _ (cw_ate (by decide) rfl)) ((X.hK.2 3 _ rfl).1 4 (fun j => va_rf (if j < 4 then some (ad' (29 + j)) else none))) rfl (fun q => by cases q) (by show ¬ (i < 0 ∨ (arrV _ _ _).slots.size ≤ _); rw [arrV_size]; exact hi) (by show (arrV _ _ _).slots[_]? = _; rw [arrV_read _ _ hlt]; show some (va_rf (if i.toNatClampNeg < 4 then _ else none)) = _; rw [if_pos hlt]; rfl) rfl rfl hdg kk
theorem oC_33 (X : Cx V A cc nL own p m c s args) (hW : WdC V ad A st H) {i : Int32} (hin : inb i 4 = true) (hdg : decode cc pc = .ok (.aaload, 1)) (kk : W p l e R s m args below meth c H locs cells slots Q (F0 m (pc + 1) ls (.ref (ad (34 + i.toNatClampNeg)) :: rest))) : W p l e R s m args below meth c H locs cells slots Q (F0 m pc ls (.int i :: .ref (ad 33) :: rest)) := by
  obtain ⟨ad', ha, hP, -⟩ := hW
  rw [← ha 33 (by decide)]
  have hi := inb_in hin
  have hlt : i.toNatClampNeg < 4 := Nat.not_le.mp fun q => hi (Or.inr q)
  rw [← ha (34 + i.toNatClampNeg) (by omega)] at kk
  exact W.aald (v := .ref (ad' (34 + i.toNatClampNeg))) (ty := .array .int) X.hx X.hb (hP 33 _ (cw_ate (by decide) rfl)) ((X.hK.2 3 _ rfl).1 4 (fun j => va_rf (if j < 4 then some (ad' (34 + j)) else none))) rfl (fun q => by cases q) (by show ¬ (i < 0 ∨ (arrV _ _ _).slots.size ≤ _); rw [arrV_size]; exact hi) (by show (arrV _ _ _).slots[_]? = _; rw [arrV_read _ _ hlt]; show some (va_rf (if i.toNatClampNeg < 4 then _ else none)) = _; rw [if_pos hlt]; rfl) rfl rfl hdg kk
theorem aln_24 {st : St} {i : Int32} (hin : inb i 4 = true) : aln st (24 + i.toNatClampNeg) = 512 := by
  have hi := inb_in hin
  have hlt : i.toNatClampNeg < 4 := Nat.not_le.mp fun q => hi (Or.inr q)
  rcases (show i.toNatClampNeg = 0 ∨ i.toNatClampNeg = 1 ∨ i.toNatClampNeg = 2 ∨ i.toNatClampNeg = 3 by omega) with h | h | h | h <;> rw [h] <;> rfl
theorem isA_24 {i : Int32} (hin : inb i 4 = true) : isA (24 + i.toNatClampNeg) := by
  have hi := inb_in hin
  have hlt : i.toNatClampNeg < 4 := Nat.not_le.mp fun q => hi (Or.inr q)
  exact ⟨⟨by omega, by omega, by omega, by omega, by omega, by omega⟩, by omega⟩
theorem aln_29 {st : St} {i : Int32} (hin : inb i 4 = true) : aln st (29 + i.toNatClampNeg) = 64 := by
  have hi := inb_in hin
  have hlt : i.toNatClampNeg < 4 := Nat.not_le.mp fun q => hi (Or.inr q)
  rcases (show i.toNatClampNeg = 0 ∨ i.toNatClampNeg = 1 ∨ i.toNatClampNeg = 2 ∨ i.toNatClampNeg = 3 by omega) with h | h | h | h <;> rw [h] <;> rfl
theorem isA_29 {i : Int32} (hin : inb i 4 = true) : isA (29 + i.toNatClampNeg) := by
  have hi := inb_in hin
  have hlt : i.toNatClampNeg < 4 := Nat.not_le.mp fun q => hi (Or.inr q)
  exact ⟨⟨by omega, by omega, by omega, by omega, by omega, by omega⟩, by omega⟩
theorem aln_34 {st : St} {i : Int32} (hin : inb i 4 = true) : aln st (34 + i.toNatClampNeg) = 16 := by
  have hi := inb_in hin
  have hlt : i.toNatClampNeg < 4 := Nat.not_le.mp fun q => hi (Or.inr q)
  rcases (show i.toNatClampNeg = 0 ∨ i.toNatClampNeg = 1 ∨ i.toNatClampNeg = 2 ∨ i.toNatClampNeg = 3 by omega) with h | h | h | h <;> rw [h] <;> rfl
theorem isA_34 {i : Int32} (hin : inb i 4 = true) : isA (34 + i.toNatClampNeg) := by
  have hi := inb_in hin
  have hlt : i.toNatClampNeg < 4 := Nat.not_le.mp fun q => hi (Or.inr q)
  exact ⟨⟨by omega, by omega, by omega, by omega, by omega, by omega⟩, by omega⟩
end WC
