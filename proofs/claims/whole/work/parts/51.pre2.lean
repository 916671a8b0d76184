section
/-! alike beginnings; all tables -/
theorem rest_c {nw ln : Nat} {wd : Nat → Nat → Nat} {c : St} (hW : WL nw ln wd) (hC : CL nw ln wd c) {w d : Nat} (hw : w < nw) (hd : d < ln) : f_X6_restOf c (nI w) (nI d) = some (nI (rs ln wd d w)) := by
  have hn := hW.1
  have hl := hW.2.1
  have hcd := cd_lt hl (fun i hi => hW.2.2.2.2.1 w hw i hi)
  have hp : 2 ^ (5 * (ln - d)) ≤ 2 ^ 20 := Nat.pow_le_pow_right (by decide) (by omega)
  have hp0 : 0 < 2 ^ (5 * (ln - d)) := Nat.pow_pos (by decide)
  have hm : (1 <<< ((5 * (nI ln - nI d)) &&& 31)) - 1 = nI (2 ^ (5 * (ln - d)) - 1) := by
    rw [pk_sub (show d ≤ ln by omega), n5, pk_mul, n1, shl_nI (by omega) (by omega), Nat.one_mul, pk_sub (by omega)]
  unfold f_X6_restOf
  rw [and15 (by omega), ite_in (show w < 16 by omega) (by decide), nI_clamp (by omega), hC.2.2 w hw, hC.2.1, hm, and_nI (by omega) (5 * (ln - d)) (pk_tn (by omega)), cd_rs (show d ≤ ln by omega), pow5, Nat.mul_comm, Nat.mul_add_mod, Nat.mod_eq_of_lt (rs_lt hW (by omega) hw)]
theorem hasx_c {nw ln : Nat} {wd : Nat → Nat → Nat} {c : St} (hW : WL nw ln wd) (hC : CL nw ln wd c) {v : Nat} (hv : v < 2 ^ 20) : f_X6_has c (nI v) = some (bi (decide (v < nw))) := by
  have hn := hW.1
  unfold f_X6_has f_X6_has_J16
  rw [hC.1, if_neg (nI_pos (by omega)), ite_leN (by omega) (by omega)]
  by_cases e : v < nw
  · rw [if_neg (by omega), decide_eq_true e]; rfl
  · rw [if_pos (by omega), decide_eq_false e]; rfl
theorem same_c {nw ln : Nat} {wd : Nat → Nat → Nat} {c : St} (hW : WL nw ln wd) (hC : CL nw ln wd c) {d a b : Nat} (hd : d < ln) (ha : a < nw) (hb : b < nw) (h1 : isH wd d a = true) (h2 : isH wd d b = true) : f_X3_sameRests c (nI d) (nI a) (nI b) = some (bi (allR nw ln wd d a b && allR nw ln wd d b a)) := by
  have hn := hW.1
  have hl := hW.2.1
  have hlock := lock hW (show d ≤ ln by omega) ha hb h1 h2
  have hfalse : (∃ i, ¬ (IN nw wd d a i = IN nw wd d b i ∧ (IN nw wd d a i = true → rs ln wd d (a + i) = rs ln wd d (b + i)))) → (allR nw ln wd d a b && allR nw ln wd d b a) = false := by
    rintro ⟨i, hi⟩
    cases g : (allR nw ln wd d a b && allR nw ln wd d b a) with
    | false => rfl
    | true =>
      rw [Bool.and_eq_true] at g
      exact absurd (hlock.mp g i) hi
  have step : ∀ (r3 : Int32 → Int32 → Int32 → Int32 → Option Int32) (k : Nat) (ia ib : Bool), k ≤ nw → IN nw wd d a k = ia → IN nw wd d b k = ib → ((f_X6_has c (nI a + nI k)).bind fun b23 => if b23 = 0 then f_X3_sameRests_J49 c r3 (nI d) (nI a) (nI b) (nI k) else (f_X6_samePrefix c (nI a) (nI a + nI k) (nI d)).bind fun b39 => if b39 = 0 then f_X3_sameRests_J49 c r3 (nI d) (nI a) (nI b) (nI k) else f_X3_sameRests_J50 c r3 (nI d) (nI a) (nI b) (nI k) 1) = if ia = true ∧ ib = true then (if rs ln wd d (a + k) = rs ln wd d (b + k) then r3 (nI d) (nI a) (nI b) (nI (k + 1)) else some 0) else some (bi (ia == ib)) := by
    intro r3 k ia ib hk ea eb
    have j50 : ∀ t : Bool, f_X3_sameRests_J50 c r3 (nI d) (nI a) (nI b) (nI k) (bi t) = f_X3_sameRests_J87 c r3 (nI d) (nI a) (nI b) (nI k) (bi t) (bi ib) := by
      intro t
      rw [f_X3_sameRests_J50, nI_add, bind_s (hasx_c hW hC (show b + k < 2 ^ 20 by omega))]
      unfold IN at eb
      by_cases e : b + k < nw
      · rw [decide_eq_true e, Bool.true_and] at eb
        rw [decide_eq_true e, bi_t, if_neg (by decide), bind_s (samePre_c hW hC hb e (show d ≤ ln by omega)), eb]
        cases ib <;> rfl
      · rw [decide_eq_false e, Bool.false_and] at eb
        rw [decide_eq_false e, bi_f, if_pos rfl, ← eb]
        rfl
    have j : ((f_X6_has c (nI a + nI k)).bind fun b23 => if b23 = 0 then f_X3_sameRests_J49 c r3 (nI d) (nI a) (nI b) (nI k) else (f_X6_samePrefix c (nI a) (nI a + nI k) (nI d)).bind fun b39 => if b39 = 0 then f_X3_sameRests_J49 c r3 (nI d) (nI a) (nI b) (nI k) else f_X3_sameRests_J50 c r3 (nI d) (nI a) (nI b) (nI k) 1) = f_X3_sameRests_J50 c r3 (nI d) (nI a) (nI b) (nI k) (bi ia) := by
      rw [nI_add, bind_s (hasx_c hW hC (show a + k < 2 ^ 20 by omega))]
      unfold IN at ea
      by_cases e : a + k < nw
      · rw [decide_eq_true e, Bool.true_and] at ea
        rw [decide_eq_true e, bi_t, if_neg (by decide), bind_s (samePre_c hW hC ha e (show d ≤ ln by omega)), ea]
        cases ia <;> rfl
      · rw [decide_eq_false e, Bool.false_and] at ea
        rw [decide_eq_false e, bi_f, if_pos rfl, ← ea]
        rfl
    rw [j, j50, f_X3_sameRests_J87]
    cases ia with
    | false =>
      rw [bi_f, if_pos rfl, if_neg (by simp), f_X3_sameRests_J99]
      cases ib <;> rfl
    | true =>
      rw [bi_t, if_neg (by decide)]
      cases ib with
      | false => rw [bi_f, if_pos rfl, if_neg (by simp), f_X3_sameRests_J99]; rfl
      | true =>
        have qa := IN_iff.mp ea
        have qb := IN_iff.mp eb
        have ra := rs_lt hW (show d ≤ ln by omega) qa.1
        have rb := rs_lt hW (show d ≤ ln by omega) qb.1
        have hpw : 32 ^ (ln - d) ≤ 32 ^ 4 := Nat.pow_le_pow_right (by decide) (by omega)
        have hpw2 : (32 : Nat) ^ 4 = 1048576 := by decide
        rw [bi_t, if_neg (by decide), if_pos ⟨rfl, rfl⟩, nI_add, nI_add, bind_s (rest_c hW hC qa.1 hd), bind_s (rest_c hW hC qb.1 hd), ite_eqN (by omega) (by omega), lt, nI_1]
  have loop : ∀ (n k : Nat), k ≤ nw → nw - k + 1 < n → (∀ j, j < k → IN nw wd d a j = IN nw wd d b j ∧ rs ln wd d (a + j) = rs ln wd d (b + j)) → f_X3_sameRests_L3 c n (nI d) (nI a) (nI b) (nI k) = some (bi (allR nw ln wd d a b && allR nw ln wd d b a)) := by
    intro n
    induction n with
    | zero => intro k _ h; omega
    | succ n ih =>
      intro k hk hnn hI
      rw [f_X3_sameRests_L3]
      simp only [f_X6_size, Option.bind_some, hC.1]
      rw [ite_ltN (by omega) (by omega), if_neg (by omega), step (f_X3_sameRests_L3 c n) k _ _ hk rfl rfl]
      cases ea : IN nw wd d a k with
      | false =>
        rw [if_neg (by simp)]
        cases eb : IN nw wd d b k with
        | true =>
          rw [hfalse ⟨k, fun q => by rw [ea, eb] at q; cases q.1⟩]; rfl
        | false =>
          have : (allR nw ln wd d a b && allR nw ln wd d b a) = true := by
            rw [Bool.and_eq_true]
            refine hlock.mpr (fun i => ?_)
            by_cases e : i < k
            · have := hI i e
              exact ⟨this.1, fun _ => this.2⟩
            · have n1 : IN nw wd d a i = false := by
                cases g : IN nw wd d a i with
                | false => rfl
                | true => rw [IN_dn hW (show d ≤ ln by omega) (show k ≤ i by omega) g] at ea; cases ea
              have n2 : IN nw wd d b i = false := by
                cases g : IN nw wd d b i with
                | false => rfl
                | true => rw [IN_dn hW (show d ≤ ln by omega) (show k ≤ i by omega) g] at eb; cases eb
              rw [n1, n2]
              exact ⟨rfl, fun h => by cases h⟩
          rw [this]; rfl
      | true =>
        have hak := IN_iff.mp ea
        cases eb : IN nw wd d b k with
        | false =>
          rw [if_neg (by simp), hfalse ⟨k, fun q => by rw [ea, eb] at q; cases q.1⟩]; rfl
        | true =>
          rw [if_pos ⟨rfl, rfl⟩]
          by_cases e2 : rs ln wd d (a + k) = rs ln wd d (b + k)
          · rw [if_pos e2]
            exact ih (k + 1) (by omega) (by omega) (fun j hj => by
              by_cases e3 : j = k
              · subst e3; exact ⟨by rw [ea, eb], e2⟩
              · exact hI j (by omega))
          · rw [if_neg e2, hfalse ⟨k, fun q => e2 (q.2 ea)⟩]; rfl
  have h9 := loop FU 0 (by omega) (by have := FU_big; omega) (fun j hj => by omega)
  rw [nI_0] at h9
  rw [f_X3_sameRests]
  exact h9
theorem alike_c {nw ln : Nat} {wd : Nat → Nat → Nat} {c : St} (hW : WL nw ln wd) (hC : CL nw ln wd c) {d h : Nat} (hd : d < ln) (hh : h < nw) (hH : isH wd d h = true) : f_X3_firstAlike c (nI d) (nI h) = some (nI (lk nw ln wd d h)) := by
  have hn := hW.1
  have loop : ∀ (n k : Nat), k ≤ h → h - k < n → (∀ i, i < k → (allR nw ln wd d i h && allR nw ln wd d h i) = false) → f_X3_firstAlike_L2 c n (nI d) (nI h) (nI k) = some (nI (lk nw ln wd d h)) := by
    intro n
    induction n with
    | zero => intro k _ h; omega
    | succ n ih =>
      intro k hk hnn hI
      rw [f_X3_firstAlike_L2, ite_leN (by omega) (by omega)]
      by_cases e : h ≤ k
      · rw [if_pos e]
        have : lk nw ln wd d h = h := fs_eq hh (by rw [allR_rf hh]; rfl) (fun i hi => hI i (by omega))
        rw [this]
      · have next : (allR nw ln wd d k h && allR nw ln wd d h k) = false → f_X3_firstAlike_L2 c n (nI d) (nI h) (nI (k + 1)) = some (nI (lk nw ln wd d h)) := fun g => ih (k + 1) (by omega) (by omega) (fun i hi => by
          by_cases e3 : i = k
          · rw [e3]; exact g
          · exact hI i (by omega))
        rw [if_neg e, bind_s (head_c hW hC (show k < nw by omega) (show d ≤ ln by omega))]
        cases hk2 : isH wd d k with
        | false =>
          rw [bi_f, if_pos rfl, f_X3_firstAlike_J28, lt, nI_1]
          refine next ?_
          cases g : (allR nw ln wd d k h && allR nw ln wd d h k) with
          | false => rfl
          | true =>
            exfalso
            rw [Bool.and_eq_true] at g
            obtain ⟨h0, h1⟩ := isH_f (nw := nw) hk2
            have hs : sp wd d k (fh nw wd d k) = true := sp_sy (fh_sp (show k < nw by omega))
            have hlt : fh nw wd d k < k := by
              have := fh_le (nw := nw) (wd := wd) (d := d) (w := k - 1)
              omega
            have q := hI _ hlt
            rw [allR_cong hW (show d ≤ ln by omega) hs sp_rf g.1, allR_cong hW (show d ≤ ln by omega) sp_rf hs g.2] at q
            cases q
        | true =>
          rw [bi_t, if_neg (by decide), bind_s (same_c hW hC hd (show k < nw by omega) hh hk2 hH)]
          cases g : (allR nw ln wd d k h && allR nw ln wd d h k) with
          | false =>
            rw [bi_f, if_pos rfl, f_X3_firstAlike_J28, lt, nI_1]
            exact next g
          | true =>
            rw [bi_t, if_neg (by decide)]
            have : lk nw ln wd d h = k := fs_eq (by omega) g hI
            rw [this]
  have h9 := loop FU 0 (by omega) (by have := FU_big; omega) (fun j hj => by omega)
  rw [nI_0] at h9
  rw [f_X3_firstAlike]
  exact h9
/-- the tables of all lengths below n -/
def TT (nw ln : Nat) (wd : Nat → Nat → Nat) (n : Nat) (c : St) : Prop := ∀ d, d < n → LG nw wd d c ∧ TK nw ln wd d c ∧ LKs nw ln wd d c
def Stab (j : Nat) : Prop := 24 ≤ j
theorem build_c {nw ln : Nat} {wd : Nat → Nat → Nat} {c : St} (hW : WL nw ln wd) (hC : CL nw ln wd c) : ∃ c', f_X3_build c = some c' ∧ FRr Stab c c' ∧ TT nw ln wd ln c' := by
  have hn := hW.1
  have hl := hW.2.1
  have h12 : ¬ Stab 12 := by show ¬ (24 ≤ 12); omega
  have l25 : ∀ (r2 : St → Int32 → Option St) (d : Nat), d < ln → ∀ (n k : Nat) (st : St), k ≤ nw → nw - k < n → FRr Stab c st → TT nw ln wd d st → LG nw wd d st → (∀ h, h < k → isH wd d h = true → ∀ q, q < ln → ∃ T : Nat, T < 2 ^ 12 ∧ st.2.1 (29 + d) (4 * h + q) = nI T ∧ ∀ w, T.testBit w = (decide (w < nw) && decide (fw nw wd d h (wd w q) nw < nw))) → (∀ h, h < k → isH wd d h = true → st.2.1 (34 + d) h = nI (lk nw ln wd d h)) → ∃ st2, f_X3_build_L25 r2 n st (nI d) (nI k) = r2 st2 (nI (d + 1)) ∧ FRr Stab c st2 ∧ TT nw ln wd (d + 1) st2 := by
    intro r2 d hd n
    induction n with
    | zero => intro k st _ h; omega
    | succ n ih =>
      intro k st hk hnn hF hT hL hK hY
      have hC2 := hF.cl h12 hC
      rw [f_X3_build_L25]
      simp only [f_X6_size, Option.bind_some, hC2.1]
      rw [ite_leN (by omega) (by omega)]
      by_cases e : nw ≤ k
      · have : k = nw := by omega
        subst this
        rw [if_pos e, lt, nI_1]
        refine ⟨st, rfl, hF, fun d' hd' => ?_⟩
        by_cases e2 : d' = d
        · subst e2; exact ⟨hL, hK, hY⟩
        · exact hT d' (by omega)
      · have hkn : k < nw := by omega
        rw [if_neg e, bind_s (head_c hW hC2 hkn (show d ≤ ln by omega))]
        cases hh : isH wd d k with
        | false =>
          rw [bi_f, if_pos rfl, f_X3_build_J68, lt, nI_1]
          exact ih (k + 1) st (by omega) (by omega) hF hT hL (fun h h1 h2 => by
            by_cases e3 : h = k
            · rw [e3, hh] at h2; cases h2
            · exact hK h (by omega) h2) (fun h h1 h2 => by
            by_cases e3 : h = k
            · rw [e3, hh] at h2; cases h2
            · exact hY h (by omega) h2)
        | true =>
          obtain ⟨s1, t1, t2, t3, t4⟩ := takers_c hW hC2 hd hL hkn hh
          have hC3 := t2.cl (show ¬ (12 = 29 + d) by omega) hC2
          rw [bi_t, if_neg (by decide), bind_s t1, ite_in (show d < 4 by omega) (by decide), bind_s (alike_c hW hC3 hd hkn hh), and15 (by omega), ite_in (show k < 16 by omega) (by decide), nI_clamp (by omega), nI_clamp (by omega), lt, f_X3_build_J68, lt, nI_1]
          have hF2 : FRr Stab c (sA s1 (34 + d) k (nI (lk nw ln wd d k))) := (hF.tr (t2.mo (fun j hj => by show 24 ≤ j; have : j = 29 + d := hj; omega))).tr (sA_FRr.mo (fun j hj => by show 24 ≤ j; have : j = 34 + d := hj; omega))
          have keep : ∀ j, j ≠ 29 + d → j ≠ 34 + d → (sA s1 (34 + d) k (nI (lk nw ln wd d k))).2.1 j = st.2.1 j := fun j j1 j2 => by
            rw [sA_A, if_neg j2, t2.2.2 j j1]
          have r29 : (sA s1 (34 + d) k (nI (lk nw ln wd d k))).2.1 (29 + d) = s1.2.1 (29 + d) := by
            rw [sA_A, if_neg (by omega)]
          have r34 : ∀ i, (sA s1 (34 + d) k (nI (lk nw ln wd d k))).2.1 (34 + d) i = if i = k then nI (lk nw ln wd d k) else st.2.1 (34 + d) i := fun i => by
            rw [sA_A, if_pos rfl, upd_at, t2.2.2 (34 + d) (by show ¬ (34 + d = 29 + d); omega)]
          refine ih (k + 1) _ (by omega) (by omega) hF2 (fun d' hd' => ?_) (fun h h1 h2 l hl2 => ?_) (fun h h1 h2 q hq => ?_) (fun h h1 h2 => ?_)
          · obtain ⟨a1, a2, a3⟩ := hT d' hd'
            refine ⟨fun h h1 h2 l hl2 => ?_, fun h h1 h2 q hq => ?_, fun h h1 h2 => ?_⟩
            · rw [keep (24 + d') (by omega) (by omega)]; exact a1 h h1 h2 l hl2
            · rw [keep (29 + d') (by omega) (by omega)]; exact a2 h h1 h2 q hq
            · rw [keep (34 + d') (by omega) (by omega)]; exact a3 h h1 h2
          · rw [keep (24 + d) (by omega) (by omega)]; exact hL h h1 h2 l hl2
          · rw [r29]
            by_cases e3 : h = k
            · subst e3; exact t4 q hq
            · rw [t3 (4 * h + q) (by omega)]; exact hK h (by omega) h2 q hq
          · rw [r34]
            by_cases e3 : h = k
            · rw [if_pos e3, e3]
            · rw [if_neg e3]; exact hY h (by omega) h2
  have l2 : ∀ (n d : Nat) (st : St), d ≤ ln → ln - d < n → FRr Stab c st → TT nw ln wd d st → ∃ c', f_X3_build_L2 n st (nI d) = some c' ∧ FRr Stab c c' ∧ TT nw ln wd ln c' := by
    intro n
    induction n with
    | zero => intro k st _ h; omega
    | succ n ih =>
      intro d st hk hnn hF hT
      have hC2 := hF.cl h12 hC
      rw [f_X3_build_L2]
      simp only [f_X6_length, Option.bind_some, hC2.2.1]
      rw [ite_leN (by omega) (by omega)]
      by_cases e : ln ≤ d
      · have : d = ln := by omega
        subst this
        rw [if_pos e]
        exact ⟨st, rfl, hF, hT⟩
      · obtain ⟨s1, t1, t2, t3⟩ := longer_c hW hC2 (show d < ln by omega)
        have hF2 : FRr Stab c s1 := hF.tr (t2.mo (fun j hj => by show 24 ≤ j; have : j = 24 + d := hj; omega))
        have hT2 : TT nw ln wd d s1 := fun d' hd' => by
          obtain ⟨a1, a2, a3⟩ := hT d' hd'
          refine ⟨fun h h1 h2 l hl2 => ?_, fun h h1 h2 q hq => ?_, fun h h1 h2 => ?_⟩
          · rw [t2.2.2 (24 + d') (by show ¬ (24 + d' = 24 + d); omega)]; exact a1 h h1 h2 l hl2
          · rw [t2.2.2 (29 + d') (by show ¬ (29 + d' = 24 + d); omega)]; exact a2 h h1 h2 q hq
          · rw [t2.2.2 (34 + d') (by show ¬ (34 + d' = 24 + d); omega)]; exact a3 h h1 h2
        obtain ⟨st2, u1, u2, u3⟩ := l25 (f_X3_build_L2 n) d (by omega) FU 0 s1 (by omega) (by have := FU_big; omega) hF2 hT2 t3 (fun h h1 => by omega) (fun h h1 => by omega)
        rw [nI_0] at u1
        rw [if_neg e, n4, ite_leN (by omega) (by omega), if_neg (by omega), bind_s t1, u1]
        exact ih (d + 1) st2 (by omega) (by omega) u2 u3
  have h9 := l2 FU 0 c (by omega) (by have := FU_big; omega) FRr.rf (fun d hd => by omega)
  rw [nI_0] at h9
  rw [f_X3_build]
  exact h9
end
