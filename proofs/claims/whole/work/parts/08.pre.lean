def phi (st : St) : Nat := st.2.2.2 0 + st.2.2.2 1 + st.2.2.2 2
def dc (a b : St) : Nat := phi b - phi a
def ds (a b : St) : Nat := 2 * (phi b - phi a)
def lt {α β : Type} (x : α) (f : α → β) : β := f x
theorem lt_e {α β : Type} {x : α} {f : α → Option β} {r : β} (h : lt x f = some r) : ∃ y, y = x ∧ f y = some r := ⟨x, rfl, h⟩
theorem isA_10 : isA 10 := by unfold isA isR; decide
theorem isA_11 : isA 11 := by unfold isA isR; decide
theorem isA_12 : isA 12 := by unfold isA isR; decide
theorem isA_13 : isA 13 := by unfold isA isR; decide
theorem isA_14 : isA 14 := by unfold isA isR; decide
theorem isA_15 : isA 15 := by unfold isA isR; decide
theorem isA_16 : isA 16 := by unfold isA isR; decide
theorem isA_17 : isA 17 := by unfold isA isR; decide
theorem isA_18 : isA 18 := by unfold isA isR; decide
theorem isM_1 : isM 1 := by unfold isM; decide
theorem isM_2 : isM 2 := by unfold isM; decide
theorem isM_3 : isM 3 := by unfold isM; decide
theorem isM_4 : isM 4 := by unfold isM; decide
theorem isM_5 : isM 5 := by unfold isM; decide
theorem isM_6 : isM 6 := by unfold isM; decide
theorem isM_7 : isM 7 := by unfold isM; decide
theorem isM_8 : isM 8 := by unfold isM; decide
theorem isM_9 : isM 9 := by unfold isM; decide
theorem isM_10 : isM 10 := by unfold isM; decide
theorem isM_11 : isM 11 := by unfold isM; decide
theorem isM_12 : isM 12 := by unfold isM; decide
theorem isM_13 : isM 13 := by unfold isM; decide
theorem isM_14 : isM 14 := by unfold isM; decide
theorem isM_16 : isM 16 := by unfold isM; decide
theorem isM_17 : isM 17 := by unfold isM; decide
section NM
variable {p : Program} {l : Launch} {e : Env} {R : Room} {s : State} {m : MethodId} {args : Array Value} {below : List Frame} {meth : Method} {c : Code} {H : Heap} {locs : List Loc} {cells slots : Nat} {Q : State → Prop} {pc : Nat} {ls : Array Slot} {rest : List Value}
theorem lv_nm {x y : Int32} (h : y = x) (k : W p l e R s m args below meth c H locs cells slots Q (F0 m pc ls (.int y :: rest))) : W p l e R s m args below meth c H locs cells slots Q (F0 m pc ls (.int x :: rest)) := h ▸ k
theorem lv_nml {x y : Int64} (h : y = x) (k : W p l e R s m args below meth c H locs cells slots Q (F0 m pc ls (.long y :: rest))) : W p l e R s m args below meth c H locs cells slots Q (F0 m pc ls (.long x :: rest)) := h ▸ k
end NM
