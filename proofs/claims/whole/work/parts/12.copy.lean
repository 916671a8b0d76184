/-- the list of squares k with a row twice as long -/
def gro (st : St) (k : Nat) : St := (st.1, va_up st.2.1 (20 + k) (va_cpy (st.2.1 (20 + k)) (fun _ => 0) 0 0 (st.2.2.2 k)), st.2.2.1, va_up st.2.2.2 k (2 * st.2.2.2 k))
theorem cw_of {D : va_G} {cl : List vw_C} {A : Nat → Prop} {L : va_W} {H : Heap} {ad : Nat → Nat} {E : Nat → va_E} {n : Nat} (f : Nat → Nat) (hf : ∀ i j, i < n → j < n → f i = f j → i = j) (h : ∀ c, c < n → L[f c]? = some (ad c, E c)) (hP : va_P D cl L H) (hD : va_D A L) : va_P D cl (cw ad E n) H ∧ va_D A (cw ad E n) := by
  have key : ∀ (k : Nat) (q : Nat × va_E), (cw ad E n)[k]? = some q → k < n ∧ L[f k]? = some q := fun k q hk => by
    by_cases hn : k < n
    · rw [cw_at hn] at hk
      cases hk
      exact ⟨hn, h k hn⟩
    · rw [cw_out hn] at hk
      cases hk
  refine ⟨fun k q hk => hP (f k) q (key k q hk).2, fun i j p q hi hj e => ?_, fun k q hk => hD.2 (f k) q (key k q hk).2⟩
  obtain ⟨h1, h2⟩ := key i p hi
  obtain ⟨h3, h4⟩ := key j q hj
  exact hf i j h1 h3 (hD.1 (f i) (f j) p q h2 h4 e)
theorem cI_eq {V : Ev} {U : State} {cA : ClassId} (h : va_K V.1 vwCl (tyL V ++ [(cA, .int)]) U) : cA = V.2.1 := by
  have h1 : U.vm.findClass ("[" ++ FieldType.int.toString) = some cA := (h.2 4 (cA, .int) rfl).2
  have h2 : U.vm.findClass ("[" ++ FieldType.int.toString) = some V.2.1 := (h.2 0 (V.2.1, .int) rfl).2
  exact Option.some.inj (h1.symm.trans h2)
theorem kc_min : Cond.code Lib.Math.min.name Lib.Math.min.code 2 (some .int) ∈ G := kc_J9_min_7cf53
theorem ln_acopy : Cond.methodLink RJ7 150 arraycopyName ∈ G := inG 456 (by decide +kernel) (by decide +kernel)
theorem st_acopy : Cond.static arraycopyName ∈ G := inG 457 (by decide +kernel) (by decide +kernel)
theorem na_acopy : Cond.native arraycopyName ∈ G := inG 458 (by decide +kernel) (by decide +kernel)
theorem kc_arri : Cond.arrayClass .int ∈ G := inG 116 (by decide +kernel) (by decide +kernel)
set_option maxRecDepth 100000 in
theorem w_copyOf (l : Launch) (V : Ev) (A : Nat → Prop) {st : St} {ws : va_W} {q0 q n : Nat} {f : Nat → Int32} (hq0 : ws[q0]? = some (q, .inl (V.2.1, n, .inl f))) (hn0 : 0 < n) (hn : n ≤ 20736) : Cn l yJ7_copyOf_59c91 cJ7_copyOf_59c91 3 (some (.array .int)) 2 60 1 (2 * n) V A (fun _ H => va_P V.1 vwCl ws H ∧ va_D A ws) st [.ref q, .int (nI (2 * n))] (va_Qr (fun _ : Unit => True) (fun _ a t => va_P V.1 vwCl (ws ++ [(a, .inl (V.2.1, 2 * n, .inl (va_cpy f (fun _ => 0) 0 0 n)))]) t.heap ∧ va_D A (ws ++ [(a, .inl (V.2.1, 2 * n, .inl (va_cpy f (fun _ => 0) 0 0 n)))])) A) := by
  refine cn_of RJ7 (by decide) rfl (fun p e s m below meth c ls X hr hlk hW hS hl => ?_) (Nat.le_of_ble_eq_true rfl)
  have hl : lv_has ls 3 [(0, .ref q), (1, .int (nI (2 * n)))] := hl
  obtain ⟨hP, hD⟩ := hW
  refine lv_iload_n X.hx X.hb dJ7_copyOf_59c91_0 rfl (lv_at hl 1 rfl) ?_
  refine lv_aload_n X.hx X.hb dJ7_copyOf_59c91_1 rfl (lv_at hl 0 rfl) ?_
  refine va_alen X.hx X.hb X.hK hP q0 0 hq0 rfl (v := nI n) rfl dJ7_copyOf_59c91_2 ?_
  refine lv_icmp_ne (tgt := 14) X.hx X.hb dJ7_copyOf_59c91_3 (by decide) (fun c3 => ?_) (fun c3 => ?_)
  · refine lv_iload_n X.hx X.hb dJ7_copyOf_59c91_14 rfl (lv_at hl 1 rfl) ?_
    refine va_newa (atype := .int) (ty := .int) (N' := 2 * n) (a0 := (2 * n, .inl (fun _ => 0))) X.hx X.hb (X.ts kc_arri) rfl X.hK hP hD hS X.hA (fun _ => rfl) (nI_pos (by omega)) (nI_clamp (by omega)) (by show 2 * n * 4 ≤ _; omega) (by show 0 + 1 ≤ 1; omega) (by show 0 + 2 * n ≤ 2 * n; omega) dJ7_copyOf_59c91_15 (fun a cA H hK hP hD hS => ?_)
    have hcA := cI_eq hK
    subst hcA
    have ha1 : (ws ++ [((a, .inl (V.2.1, 2 * n, .inl (fun _ => 0))) : Nat × va_E)])[ws.length]? = some (a, .inl (V.2.1, 2 * n, .inl (fun _ => 0))) := by simp
    have ha0 : (ws ++ [((a, .inl (V.2.1, 2 * n, .inl (fun _ => 0))) : Nat × va_E)])[q0]? = some (q, .inl (V.2.1, n, .inl f)) := by
      rw [List.getElem?_append_left (List.getElem?_eq_some_iff.mp hq0).1]; exact hq0
    refine lv_astore_n (lv' := [(2, .ref a), (0, .ref q), (1, .int (nI (2 * n)))]) X.hx X.hb dJ7_copyOf_59c91_17 rfl hl (by decide) rfl (fun ls hl => ?_)
    refine lv_aload_n X.hx X.hb dJ7_copyOf_59c91_18 rfl (lv_at hl 1 rfl) ?_
    refine lv_iconst (v := 0) X.hx X.hb dJ7_copyOf_59c91_19 (by decide) ?_
    refine lv_aload_n X.hx X.hb dJ7_copyOf_59c91_20 rfl (lv_at hl 0 rfl) ?_
    refine lv_iconst (v := 0) X.hx X.hb dJ7_copyOf_59c91_21 (by decide) ?_
    refine lv_aload_n X.hx X.hb dJ7_copyOf_59c91_22 rfl (lv_at hl 1 rfl) ?_
    refine va_alen X.hx X.hb X.hK hP q0 0 ha0 rfl (v := nI n) rfl dJ7_copyOf_59c91_23 ?_
    refine lv_iload_n X.hx X.hb dJ7_copyOf_59c91_24 rfl (lv_at hl 2 rfl) ?_
    refine va_mmin X.hx X.hb (X.hml.trans hl.1.symm) X.ho (X.ts ln_J7_304) (X.ts st_J9_min_7cf53) (X.ts ini_J9) (X.ts kc_J9_min_7cf53) (Nat.le_of_ble_eq_true rfl) (Nat.le_of_ble_eq_true rfl) (by show 0 + 1 ≤ 1; omega) (by show 0 + 2 * n ≤ 2 * n; omega) dJ7_copyOf_59c91_25 ?_
    rw [if_neg (nI_nlt (show n ≤ 2 * n by omega) (by omega))]
    have hcl : (nI n).toNatClampNeg = n := nI_clamp (by omega)
    refine va_copyi (ty := .int) X.hx X.hb (X.hml.trans hl.1.symm) X.ho (X.ts ln_acopy) (X.ts na_acopy) (X.ts st_acopy) (X.ts ini_J10) X.hK hP hD hS q0 ws.length 0 0 ha0 ha1 rfl rfl rfl (by decide) (by decide) (nI_pos (by omega)) (by rw [hcl]; show 0 + n ≤ n; omega) (by rw [hcl]; show 0 + n ≤ 2 * n; omega) (fun _ _ => rfl) (Nat.le_of_ble_eq_true rfl) (by show 0 + (nativeFrameWords "java/lang/System" "arraycopy" 5 + 11) ≤ 60; decide +kernel) dJ7_copyOf_59c91_28 (fun H locs hP hD hS => ?_)
    have e : (ws ++ [((a, .inl (V.2.1, 2 * n, .inl (fun _ => 0))) : Nat × va_E)]).set ws.length (a, .inl (V.2.1, 2 * n, .inl (va_cpy f (fun _ => 0) (Int32.toNatClampNeg 0) (Int32.toNatClampNeg 0) (nI n).toNatClampNeg))) = ws ++ [(a, .inl (V.2.1, 2 * n, .inl (va_cpy f (fun _ => 0) 0 0 n)))] := by
      rw [hcl]
      first | done | (simp [List.set_append]; done) | (simp [List.set_append]; rfl)
    rw [e] at hP hD
    refine lv_aload_n X.hx X.hb dJ7_copyOf_59c91_31 rfl (lv_at hl 0 rfl) ?_
    refine W.widen (k := 1) (n := 2 * n) (by omega) (by omega) ?_
    exact W.aret (v := .ref a) X.hx X.hb hr (Or.inr ⟨_, rfl⟩) (Or.inr ⟨_, rfl⟩) (fun t ht _ => ⟨⟨(), a, rfl, trivial, by rw [ht]; exact hP, hD⟩, hS.F ht⟩) hS.2.2 dJ7_copyOf_59c91_32
  · exact absurd c3 (fun h => by
      have := (nI_eq (a := 2 * n) (b := n) (by omega) (by omega)).mp h
      omega)
section GR
variable {p : Program} {l : Launch} {e : Env} {R : Room} {s : State} {m : MethodId} {args : Array Value} {below : List Frame} {meth : Method} {c : Code} {H : Heap} {locs : List Loc} {cells slots : Nat} {Q : State → Prop} {ls : Array Slot} {V : Ev} {A : Nat → Prop} {ad : Nat → Nat} {st : St}
theorem gro_E {V : Ev} {ad : Nat → Nat} {st : St} {a k : Nat} (hk : k < 3) : ∀ c, c < 38 → c ≠ 20 + k → c ≠ 7 + k → cE V (va_up ad (20 + k) a) (gro st k) c = cE V ad st c ∧ va_up ad (20 + k) a c = ad c := fun c hc h1 h2 => by
  refine ⟨?_, va_up_ne _ _ h1⟩
  by_cases hr : isR c
  · have e1 : (gro st k).2.1 c = st.2.1 c := va_up_ne _ _ h1
    have e2 : aln (gro st k) c = aln st c := by
      rcases (show k = 0 ∨ k = 1 ∨ k = 2 by omega) with rfl | rfl | rfl <;> (unfold aln; split <;> first | rfl | exact absurd rfl h1)
    rw [cE_row hr, cE_row hr, e1, e2]
  · have ho : ∀ b : Nat, 24 ≤ b → (fun i => if i < 4 then some (va_up ad (20 + k) a (b + i)) else none) = (fun i => if i < 4 then some (ad (b + i)) else none) := fun b hb => by
      funext i
      rw [va_up_ne _ _ (by omega)]
    rcases (show c = 0 ∨ c = 1 ∨ c = 2 ∨ c = 3 ∨ c = 4 ∨ c = 5 ∨ c = 6 ∨ c = 7 ∨ c = 8 ∨ c = 9 ∨ c = 19 ∨ c = 23 ∨ c = 28 ∨ c = 33 by unfold isR at hr; omega) with rfl | rfl | rfl | rfl | rfl | rfl | rfl | rfl | rfl | rfl | rfl | rfl | rfl | rfl
    case inr.inr.inr.inr.inr.inr.inr.inr.inr.inr.inr.inl => exact congrArg (fun f => (Sum.inl (V.2.2.2.2, 4, .inr (.inr (.inr (.inr f)))) : va_E)) (ho 24 (by omega))
    case inr.inr.inr.inr.inr.inr.inr.inr.inr.inr.inr.inr.inl => exact congrArg (fun f => (Sum.inl (V.2.2.2.2, 4, .inr (.inr (.inr (.inr f)))) : va_E)) (ho 29 (by omega))
    case inr.inr.inr.inr.inr.inr.inr.inr.inr.inr.inr.inr.inr => exact congrArg (fun f => (Sum.inl (V.2.2.2.2, 4, .inr (.inr (.inr (.inr f)))) : va_E)) (ho 34 (by omega))
    all_goals rcases (show k = 0 ∨ k = 1 ∨ k = 2 by omega) with rfl | rfl | rfl <;> first | rfl | exact absurd rfl h2
theorem row_grow (X : Cx V A cX4_append 3 RX4 p m c s args) {k q : Nat} (hk : k < 3) (hW : WdQ V ad A k q st H) (hS : va_S A s.heap H locs) (hg : st.1 (13 + k) = nI (st.2.2.2 k) ∧ 0 < st.2.2.2 k ∧ st.2.2.2 k ≤ 20736) (hsz : ls.size = 3) (hR : 2 + 1 ≤ R.frames ∧ 8 + (3 + 11) + 60 ≤ R.locals) (hc : cells + 1 ≤ R.cells) (hs : slots + 2 * st.2.2.2 k ≤ R.slots)
    (kk : ∀ (H : Heap) (locs : List Loc), WdC V ad A (gro st k) H → va_S A s.heap H locs → W p l e R s m args below meth c H locs (cells + 1) (slots + 2 * st.2.2.2 k) Q (F0 m 40 ls [])) : W p l e R s m args below meth c H locs cells slots Q (F0 m 34 ls [.int (2 * st.1 (13 + k)), .ref q, .ref (ad (7 + k))]) := by
  obtain ⟨ad', ha, hP, hD, rfl⟩ := hW
  obtain ⟨hg1, hg2, hg3⟩ := hg
  have hr : isR (20 + k) := ⟨by omega, by omega, by omega, by omega, by omega, by omega⟩
  have hal : aln st (20 + k) = st.2.2.2 k := by rcases (show k = 0 ∨ k = 1 ∨ k = 2 by omega) with rfl | rfl | rfl <;> rfl
  have hq : (cw ad' (cE V ad' st) 38)[20 + k]? = some (ad' (20 + k), .inl (V.2.1, st.2.2.2 k, .inl (st.2.1 (20 + k)))) := cw_ate hr.2.1 (by rw [cE_row hr, hal])
  have e2 : (2 : Int32) * st.1 (13 + k) = nI (2 * st.2.2.2 k) := by rw [hg1]; exact pk_mul 2 _
  rw [e2]
  refine va_callr (run_S (Wd := fun _ H => va_P V.1 vwCl (cw ad' (cE V ad' st) 38) H ∧ va_D A (cw ad' (cE V ad' st) 38)) (st := st) (As := [.ref (ad' (20 + k)), .int (nI (2 * st.2.2.2 k))]) (rest := [.ref (ad (7 + k))]) X (w_copyOf l V A hq hg2 hg3) mw_J7_copyOf_59c91 ln_X4_17 ⟨hP, hD⟩ hS rfl hsz rfl (Nat.le_of_ble_eq_true rfl) hR ⟨hc, hs⟩ dX4_append_34) hS (fun _ _ h => h) (fun _ h => h) (fun u a t H1 locs1 ht hvm hp hB _ _ hS => ?_)
  rw [ht] at hB
  obtain ⟨hP, hD⟩ := hB
  rw [← ha (7 + k) (by omega)]
  have hlen : (cw ad' (cE V ad' st) 38).length = 38 := by unfold cw; rw [List.length_map, List.length_range]
  have hfin : ∀ (y : va_E) (H2 : Heap), y = .inr (4, [.ref a, .int (st.1 (13 + k))]) → va_P V.1 vwCl (((cw ad' (cE V ad' st) 38) ++ [((a, .inl (V.2.1, 2 * st.2.2.2 k, .inl (va_cpy (st.2.1 (20 + k)) (fun _ => 0) 0 0 (st.2.2.2 k)))) : Nat × va_E)]).set (7 + k) (ad' (7 + k), y)) H2 → va_D A (((cw ad' (cE V ad' st) 38) ++ [((a, .inl (V.2.1, 2 * st.2.2.2 k, .inl (va_cpy (st.2.1 (20 + k)) (fun _ => 0) 0 0 (st.2.2.2 k)))) : Nat × va_E)]).set (7 + k) (ad' (7 + k), y)) → WdC V ad A (gro st k) H2 := fun y H2 hy hP hD => by
    obtain ⟨h1, h2⟩ := cw_of (ad := va_up ad' (20 + k) a) (E := cE V (va_up ad' (20 + k) a) (gro st k)) (n := 38) (fun c => if c = 20 + k then 38 else c) (fun i j hi hj h => by
      by_cases e1 : i = 20 + k <;> by_cases e2 : j = 20 + k <;> simp [e1, e2] at h <;> omega) (fun c hc => by
      by_cases e1 : c = 20 + k
      · subst e1
        have e3 : (gro st k).2.1 (20 + k) = va_cpy (st.2.1 (20 + k)) (fun _ => 0) 0 0 (st.2.2.2 k) := va_up_self _ _ _
        have e4 : aln (gro st k) (20 + k) = 2 * st.2.2.2 k := by rcases (show k = 0 ∨ k = 1 ∨ k = 2 by omega) with rfl | rfl | rfl <;> rfl
        rw [if_pos rfl, List.getElem?_set, if_neg (by omega), List.getElem?_append_right (by omega), hlen, cE_row hr, e3, e4, va_up_self]
        rfl
      · rw [if_neg e1]
        by_cases e5 : c = 7 + k
        · subst e5
          rw [List.getElem?_set, if_pos rfl, if_pos (by rw [List.length_append, hlen]; omega), va_up_ne _ _ e1, hy]
          rcases (show k = 0 ∨ k = 1 ∨ k = 2 by omega) with rfl | rfl | rfl <;> rfl
        · obtain ⟨g1, g2⟩ := gro_E (V := V) (ad := ad') (st := st) (a := a) hk c hc e1 e5
          rw [List.getElem?_set, if_neg (fun h => e5 h.symm), List.getElem?_append_left (by omega), cw_at hc, g1, g2]) hP hD
    exact ⟨va_up ad' (20 + k) a, fun c hc => by rw [va_up_ne _ _ (by omega)]; exact ha c hc, h1, h2⟩
  rcases (show k = 0 ∨ k = 1 ∨ k = 2 by omega) with rfl | rfl | rfl
  · refine va_put (D := V.1) (ci := 4) (fs := [.ref (ad' 20), .int (st.1 13)]) (v := .ref a) (ty := .array .int) (C := RX4) (T := TX4) (N := 2) X.hx X.hb X.1.2.2.2.2 inG_X4 tyX4 tyX4_ok nmX4 X.ho X.hK hP hD hS 7 (by rw [List.getElem?_append_left (by omega)]; exact cw_ate (by decide) rfl) rfl 0 (by decide) (X.ts fl_X4_items) (fun _ h => h) rfl (by decide +kernel) rfl rfl (Nat.le_of_ble_eq_true rfl) dX4_append_37 (fun H2 locs2 hP hD hS => ?_)
    exact kk H2 locs2 (hfin _ H2 rfl hP hD) hS
  · refine va_put (D := V.1) (ci := 4) (fs := [.ref (ad' 21), .int (st.1 14)]) (v := .ref a) (ty := .array .int) (C := RX4) (T := TX4) (N := 2) X.hx X.hb X.1.2.2.2.2 inG_X4 tyX4 tyX4_ok nmX4 X.ho X.hK hP hD hS 8 (by rw [List.getElem?_append_left (by omega)]; exact cw_ate (by decide) rfl) rfl 0 (by decide) (X.ts fl_X4_items) (fun _ h => h) rfl (by decide +kernel) rfl rfl (Nat.le_of_ble_eq_true rfl) dX4_append_37 (fun H2 locs2 hP hD hS => ?_)
    exact kk H2 locs2 (hfin _ H2 rfl hP hD) hS
  · refine va_put (D := V.1) (ci := 4) (fs := [.ref (ad' 22), .int (st.1 15)]) (v := .ref a) (ty := .array .int) (C := RX4) (T := TX4) (N := 2) X.hx X.hb X.1.2.2.2.2 inG_X4 tyX4 tyX4_ok nmX4 X.ho X.hK hP hD hS 9 (by rw [List.getElem?_append_left (by omega)]; exact cw_ate (by decide) rfl) rfl 0 (by decide) (X.ts fl_X4_items) (fun _ h => h) rfl (by decide +kernel) rfl rfl (Nat.le_of_ble_eq_true rfl) dX4_append_37 (fun H2 locs2 hP hD hS => ?_)
    exact kk H2 locs2 (hfin _ H2 rfl hP hD) hS
theorem gro_phi {st : St} {k : Nat} (hk : k < 3) : phi (gro st k) = phi st + st.2.2.2 k := by
  rcases (show k = 0 ∨ k = 1 ∨ k = 2 by omega) with rfl | rfl | rfl <;> simp [phi, gro, va_up] <;> omega
theorem gro_phi_le {st : St} {k : Nat} : phi st ≤ phi (gro st k) := by
  by_cases hk : k < 3
  · rw [gro_phi hk]; omega
  · have e : ∀ j, j < 3 → (gro st k).2.2.2 j = st.2.2.2 j := fun j hj => va_up_ne _ _ (by omega)
    unfold phi
    rw [e 0 (by decide), e 1 (by decide), e 2 (by decide)]
    exact Nat.le_refl _
end GR
