section
/-! the reference's states and keys -/
theorem bc_m {nw ln : Nat} {wd : Nat → Nat → Nat} {m : St} (hW : WL nw ln wd) (hM : ML nw ln wd m) (h0 : 0 < nw) {d x : Nat} (hd4 : d ≤ ln) (hA : Ax nw d x m) {col : Nat} (hc : col < ln) : f_X8_beginOfColumn m (nI col) (nI d) = some (orN nw (hd nw wd d x col)) := by
  have hn := hW.1
  have hl := hW.2.1
  have inner : ∀ (r2 : Int32 → Int32 → Int32 → Option Int32) (v : Nat), v < nw → ∀ (n k : Nat), k ≤ d → d - k < n → f_X8_beginOfColumn_L16 m r2 n (nI col) (nI d) (nI v) (bi (al (fun r => wd (dg nw d x r) col == wd v r) k)) (nI k) = if al (fun r => wd (dg nw d x r) col == wd v r) d then some (nI v) else r2 (nI col) (nI d) (nI (v + 1)) := by
    intro r2 v hv n
    induction n with
    | zero => intro k _ h2; omega
    | succ n ih =>
      intro k hk hnn
      rw [f_X8_beginOfColumn_L16, ite_leN (by omega) (by omega)]
      by_cases e : d ≤ k
      · rw [if_pos e, show k = d by omega]
        simp only [f_X8_beginOfColumn_J62, lt, nI_1]
        cases h : al (fun r => wd (dg nw d x r) col == wd v r) d with
        | false => simp [bi]
        | true => simp [bi]
      · have ih1 := ih (k + 1) (by omega) (by omega)
        rw [if_neg e]
        cases h : al (fun r => wd (dg nw d x r) col == wd v r) k with
        | false =>
          rw [bi_f, if_pos rfl]
          simp only [f_X8_beginOfColumn_J62, lt, nI_1]
          rw [if_pos trivial]
          have h2 : al (fun r => wd (dg nw d x r) col == wd v r) d = false := by
            cases h3 : al (fun r => wd (dg nw d x r) col == wd v r) d with
            | false => rfl
            | true =>
              have h4 : al (fun r => wd (dg nw d x r) col == wd v r) k = true := al_iff.mpr (fun i hi => al_iff.mp h3 i (by omega))
              rw [h] at h4; cases h4
          rw [h2]; rfl
        | true =>
          have hd1 : dg nw d x k < nw := dg_lt h0
          rw [bi_t, if_neg (by decide), ite_in (show k < 4 by omega) (by decide), nI_clamp (by omega), hA k (by omega), at_m hW hM hd1 hc, at_m hW hM hv (by omega)]
          have b1 := hW.2.2.2.2.1 v hv k (by omega)
          have b2 := hW.2.2.2.2.1 (dg nw d x k) hd1 col hc
          simp only [Option.bind_some, f_X8_beginOfColumn_J54, lt, nI_1]
          rw [ite_eqN (by omega) (by omega)]
          rw [al, h] at ih1
          by_cases e2 : wd (dg nw d x k) col = wd v k
          · rw [if_pos (by omega)]
            simp only [e2, beq_self_eq_true, Bool.and_true] at ih1
            exact ih1
          · rw [if_neg (by omega)]
            have e3 : (wd (dg nw d x k) col == wd v k) = false := by simp [e2]
            rw [e3] at ih1
            exact ih1
  have outer : ∀ (n j : Nat), j ≤ nw → nw - j < n → (∀ i, i < j → al (fun r => wd (dg nw d x r) col == wd i r) d = false) → f_X8_beginOfColumn_L2 m n (nI col) (nI d) (nI j) = some (orN nw (hd nw wd d x col)) := by
    intro n
    induction n with
    | zero => intro j _ h2; omega
    | succ n ih =>
      intro j hj hnn hb
      rw [f_X8_beginOfColumn_L2, hM.1, ite_leN (by omega) (by omega)]
      by_cases e : nw ≤ j
      · rw [if_pos e, hd, fs_none (fun i hi => hb i (by omega))]
        simp [orN]
      · rw [if_neg e]
        have h1 := inner (f_X8_beginOfColumn_L2 m n) j (by omega) FU 0 (by omega) (by have := FU_big; omega)
        rw [al, bi_t, nI_0] at h1
        rw [h1]
        cases h : al (fun r => wd (dg nw d x r) col == wd j r) d with
        | true =>
          rw [if_pos rfl, hd, fs_eq (k := j) (by omega) h hb, orN, if_pos (by omega)]
        | false =>
          rw [if_neg (by decide)]
          exact ih (j + 1) (by omega) (by omega) (fun i hi => by
            by_cases e3 : i = j
            · rw [e3]; exact h
            · exact hb i (by omega))
  have h9 := outer FU 0 (by omega) (by have := FU_big; omega) (fun i hi => by omega)
  rw [nI_0] at h9
  rw [f_X8_beginOfColumn]
  exact h9
theorem al_split {p : Nat → Bool} {k n : Nat} (h : k < n) (hp : p k = false) : al p n = false := by
  cases g : al p n with
  | false => rfl
  | true => rw [al_iff.mp g k h] at hp; cases hp
theorem st_m {nw ln : Nat} {wd : Nat → Nat → Nat} {m : St} (hW : WL nw ln wd) (hM : ML nw ln wd m) (h0 : 0 < nw) {d x : Nat} (hd4 : d ≤ ln) (hA : Ax nw d x m) : ∃ g : Nat → Int32, f_X8_isState m (nI d) = some (bi (isSt nw ln wd d x), sR m 16 g) ∧ (isSt nw ln wd d x = true → ∀ c, c < ln → g c = nI (hd nw wd d x c)) := by
  have hn := hW.1
  have hl := hW.2.1
  have stop : ∀ (n k : Nat) (g : Nat → Int32), f_X8_isState_L4 (n + 1) (sR m 16 g) (nI d) 0 (nI k) = some (0, sR m 16 g) := by
    intro n k g
    rw [f_X8_isState_L4]
    simp [f_X8_isState_J50]
  have loop : ∀ (n k : Nat) (g : Nat → Int32), k ≤ ln → ln - k + 1 < n → (∀ r, r < k → hd nw wd d x r < nw ∧ g r = nI (hd nw wd d x r)) → ∃ g2 : Nat → Int32, f_X8_isState_L4 n (sR m 16 g) (nI d) 1 (nI k) = some (bi (isSt nw ln wd d x), sR m 16 g2) ∧ (isSt nw ln wd d x = true → ∀ c, c < ln → g2 c = nI (hd nw wd d x c)) := by
    intro n
    induction n with
    | zero => intro k g _ h2; omega
    | succ n ih =>
      intro k g hk hnn hg
      rw [f_X8_isState_L4, sR_I, hM.2.1, ite_leN (by omega) (by omega)]
      by_cases e : ln ≤ k
      · have hp : isSt nw ln wd d x = true := al_iff.mpr (fun i hi => by simp [(hg i (by omega)).1])
        rw [if_pos e, f_X8_isState_J50, if_pos (Or.inr rfl), hp]
        exact ⟨g, rfl, fun _ r hr => (hg r (by omega)).2⟩
      · rw [if_neg e, if_neg (by decide), bc_m hW ((sR_Fr (by decide) g).ml hM) h0 hd4 (Ax_sR (by decide) hA) (by omega)]
        simp only [Option.bind_some, lt]
        have e7 : (sR m 16 g).2.1 16 = g := by rw [sR_A, if_pos rfl]
        rw [ite_in (show k < 4 by omega) (by decide), nI_clamp (by omega), sA_sR, sR_sR, e7, ite_in (show k < 4 by omega) (by decide)]
        have e8 : (sR m 16 (upd g k (orN nw (hd nw wd d x k)))).2.1 16 k = orN nw (hd nw wd d x k) := by rw [sR_A, if_pos rfl, upd_at, if_pos rfl]
        rw [e8, ite_orN (by omega), f_X8_isState_J43, f_X8_isState_J43, lt, lt, nI_1]
        by_cases e2 : hd nw wd d x k < nw
        · rw [if_pos e2]
          refine ih (k + 1) _ (by omega) (by omega) (fun r hr => ?_)
          rw [upd_at]
          by_cases e3 : r = k
          · rw [if_pos e3, e3]
            refine ⟨e2, ?_⟩
            rw [orN, if_pos e2]
          · rw [if_neg e3]; exact hg r (by omega)
        · rw [if_neg e2]
          have hp : isSt nw ln wd d x = false := al_split (k := k) (by omega) (by simp; omega)
          obtain ⟨n', rfl⟩ : ∃ n', n = n' + 1 := ⟨n - 1, by omega⟩
          rw [hp, stop]
          exact ⟨_, rfl, fun h => by cases h⟩
  have h9 := loop FU 0 (m.2.1 16) (by omega) (by have := FU_big; omega) (fun r hr => by omega)
  rw [sR_id, nI_0] at h9
  rw [f_X8_isState]
  exact h9
theorem rest_m {nw ln : Nat} {wd : Nat → Nat → Nat} {m : St} (hW : WL nw ln wd) (hM : ML nw ln wd m) {d b v : Nat} (hd4 : d ≤ ln) (hb : b < nw) (hv : v < nw) : f_X8_hasRest m (nI b) (nI d) (nI v) = some (bi (hasR nw ln wd d b v)) := by
  have hn := hW.1
  have hl := hW.2.1
  have inner : ∀ (r6 : Int32 → Int32 → Int32 → Int32 → Int32 → Option Int32) (w : Nat) (fl s : Bool), w < nw → ∀ (n k : Nat), d ≤ k → k ≤ ln → ln - k < n → f_X8_hasRest_L36 m r6 n (nI b) (nI d) (nI v) (bi fl) (nI w) (bi (s && al (fun i => decide (i < d) || (wd w i == wd v i)) k)) (nI k) = r6 (nI b) (nI d) (nI v) (bi (fl || (s && al (fun i => decide (i < d) || (wd w i == wd v i)) ln))) (nI (w + 1)) := by
    intro r6 w fl s hw n
    induction n with
    | zero => intro k _ _ h2; omega
    | succ n ih =>
      intro k hk1 hk hnn
      rw [f_X8_hasRest_L36, hM.2.1, ite_leN (by omega) (by omega)]
      by_cases e : ln ≤ k
      · rw [if_pos e, show k = ln by omega]
        simp only [f_X8_hasRest_J96, f_X8_hasRest_J91, lt, nI_1]
        cases fl <;> cases (s && al (fun i => decide (i < d) || (wd w i == wd v i)) ln) <;> rfl
      · have ih1 := ih (k + 1) (by omega) (by omega) (by omega)
        rw [if_neg e]
        rw [al, decide_eq_false (show ¬ k < d by omega), Bool.false_or, ← Bool.and_assoc] at ih1
        cases h : (s && al (fun i => decide (i < d) || (wd w i == wd v i)) k) with
        | false =>
          rw [h] at ih1
          rw [bi_f, if_pos rfl]
          simp only [f_X8_hasRest_J72, f_X8_hasRest_J73, lt, nI_1]
          exact ih1
        | true =>
          rw [h] at ih1
          have b1 := hW.2.2.2.2.1 v hv k (by omega)
          have b2 := hW.2.2.2.2.1 w hw k (by omega)
          rw [bi_t, if_neg (by decide), at_m hW hM hw (by omega), at_m hW hM hv (by omega)]
          simp only [Option.bind_some, f_X8_hasRest_J72, f_X8_hasRest_J73, lt, nI_1]
          rw [ite_eqN (by omega) (by omega)]
          by_cases e2 : wd w k = wd v k
          · rw [if_pos (by omega)]
            simp only [e2, beq_self_eq_true, Bool.and_true] at ih1
            exact ih1
          · rw [if_neg (by omega)]
            have e3 : (wd w k == wd v k) = false := by simp [e2]
            rw [e3] at ih1
            exact ih1
  have hd0 : ∀ w, al (fun i => decide (i < d) || (wd w i == wd v i)) d = true := fun w => al_iff.mpr (fun i hi => by rw [decide_eq_true hi]; rfl)
  have outer : ∀ (n j : Nat), j ≤ nw → nw - j < n → f_X8_hasRest_L6 m n (nI b) (nI d) (nI v) (bi (an (fun w => sp wd d b w && al (fun i => decide (i < d) || (wd w i == wd v i)) ln) j)) (nI j) = some (bi (hasR nw ln wd d b v)) := by
    intro n
    induction n with
    | zero => intro j _ h2; omega
    | succ n ih =>
      intro j hj hnn
      rw [f_X8_hasRest_L6, hM.1, ite_leN (by omega) (by omega)]
      by_cases e : nw ≤ j
      · rw [if_pos e, show j = nw by omega, hasR]
        cases an (fun w => sp wd d b w && al (fun i => decide (i < d) || (wd w i == wd v i)) ln) nw <;> rfl
      · have ih1 := ih (j + 1) (by omega) (by omega)
        rw [if_neg e, alike_m hW hM hb (by omega)]
        have b1 : alk ln wd b j ≤ ln := fs_le _ _
        simp only [Option.bind_some, f_X8_hasRest_J31]
        have h1 := inner (f_X8_hasRest_L6 m n) j (an (fun w => sp wd d b w && al (fun i => decide (i < d) || (wd w i == wd v i)) ln) j) (sp wd d b j) (by omega) FU d (by omega) hd4 (by have := FU_big; omega)
        rw [hd0, Bool.and_true] at h1
        have hsel : (if nI (alk ln wd b j) < nI d then f_X8_hasRest_L36 m (f_X8_hasRest_L6 m n) FU (nI b) (nI d) (nI v) (bi (an (fun w => sp wd d b w && al (fun i => decide (i < d) || (wd w i == wd v i)) ln) j)) (nI j) 0 (nI d) else f_X8_hasRest_L36 m (f_X8_hasRest_L6 m n) FU (nI b) (nI d) (nI v) (bi (an (fun w => sp wd d b w && al (fun i => decide (i < d) || (wd w i == wd v i)) ln) j)) (nI j) 1 (nI d)) = f_X8_hasRest_L36 m (f_X8_hasRest_L6 m n) FU (nI b) (nI d) (nI v) (bi (an (fun w => sp wd d b w && al (fun i => decide (i < d) || (wd w i == wd v i)) ln) j)) (nI j) (bi (sp wd d b j)) (nI d) := by
          have hk := alk_ge (ln := ln) (wd := wd) (v := b) (w := j) hd4
          rw [ite_ltN (by omega) (by omega)]
          cases hs : sp wd d b j with
          | false =>
            rw [if_pos]
            · rfl
            · rcases Nat.lt_or_ge (alk ln wd b j) d with q | q
              · exact q
              · rw [hk.mp q] at hs; cases hs
          | true =>
            rw [if_neg]
            · rfl
            · have := hk.mpr hs; omega
        rw [hsel, h1]
        rw [an] at ih1
        exact ih1
  have h9 := outer FU 0 (by omega) (by have := FU_big; omega)
  rw [an, bi_f, nI_0] at h9
  rw [f_X8_hasRest]
  exact h9
theorem rests_m {nw ln : Nat} {wd : Nat → Nat → Nat} {m : St} (hW : WL nw ln wd) (hM : ML nw ln wd m) {d b o : Nat} (hd4 : d ≤ ln) (hb : b < nw) (ho : o < nw) : f_X8_hasAllRests m (nI b) (nI o) (nI d) = some (bi (allR nw ln wd d b o)) := by
  have hn := hW.1
  have hl := hW.2.1
  have outer : ∀ (n j : Nat), j ≤ nw → nw - j < n → f_X8_hasAllRests_L6 m n (nI b) (nI o) (nI d) (bi (al (fun w => !sp wd d o w || hasR nw ln wd d b w) j)) (nI j) = some (bi (allR nw ln wd d b o)) := by
    intro n
    induction n with
    | zero => intro j _ h2; omega
    | succ n ih =>
      intro j hj hnn
      rw [f_X8_hasAllRests_L6, hM.1, ite_leN (by omega) (by omega)]
      by_cases e : nw ≤ j
      · rw [if_pos e, show j = nw by omega, allR]
        cases al (fun w => !sp wd d o w || hasR nw ln wd d b w) nw <;> rfl
      · have ih1 := ih (j + 1) (by omega) (by omega)
        rw [if_neg e]
        rw [al] at ih1
        cases h : al (fun w => !sp wd d o w || hasR nw ln wd d b w) j with
        | false =>
          rw [h] at ih1
          rw [bi_f, if_pos rfl]
          simp only [f_X8_hasAllRests_J46, f_X8_hasAllRests_J47, lt, nI_1]
          exact ih1
        | true =>
          rw [h] at ih1
          have b1 : alk ln wd o j ≤ ln := fs_le _ _
          have hk := alk_ge (ln := ln) (wd := wd) (v := o) (w := j) hd4
          rw [bi_t, if_neg (by decide), alike_m hW hM ho (by omega), rest_m hW hM hd4 hb (by omega)]
          simp only [Option.bind_some, f_X8_hasAllRests_J46, f_X8_hasAllRests_J42, f_X8_hasAllRests_J47, lt, nI_1]
          rw [ite_ltN (by omega) (by omega)]
          cases hs : sp wd d o j with
          | false =>
            rw [hs] at ih1
            rw [if_pos]
            · exact ih1
            · rcases Nat.lt_or_ge (alk ln wd o j) d with q | q
              · exact q
              · rw [hk.mp q] at hs; cases hs
          | true =>
            rw [hs] at ih1
            rw [if_neg (by have := hk.mpr hs; omega)]
            cases hr : hasR nw ln wd d b j with
            | false => rw [hr] at ih1; exact ih1
            | true => rw [hr] at ih1; exact ih1
  have h9 := outer FU 0 (by omega) (by have := FU_big; omega)
  rw [al, bi_t, nI_0] at h9
  rw [f_X8_hasAllRests]
  exact h9
theorem allR_rf {nw ln : Nat} {wd : Nat → Nat → Nat} {d b : Nat} (hb : b < nw) : allR nw ln wd d b b = true := by
  refine al_iff.mpr (fun w hw => ?_)
  cases h : sp wd d b w with
  | false => rfl
  | true =>
    rw [Bool.not_true, Bool.false_or]
    exact an_iff.mpr ⟨w, hw, by rw [h, Bool.true_and]; exact al_iff.mpr (fun i _ => by simp)⟩
theorem lk_le {nw ln : Nat} {wd : Nat → Nat → Nat} {d b : Nat} (hb : b < nw) : lk nw ln wd d b ≤ b := by
  rcases Nat.lt_or_ge b (lk nw ln wd d b) with q | q
  · have := fs_min (fun w => allR nw ln wd d w b && allR nw ln wd d b w) q
    rw [allR_rf hb] at this; cases this
  · exact q
theorem like_m {nw ln : Nat} {wd : Nat → Nat → Nat} {m : St} (hW : WL nw ln wd) (hM : ML nw ln wd m) {d b : Nat} (hd4 : d ≤ ln) (hb : b < nw) : f_X8_likeOf m (nI b) (nI d) = some (nI (lk nw ln wd d b)) := by
  have hn := hW.1
  have outer : ∀ (n j : Nat), j ≤ b → b - j < n → (∀ i, i < j → (allR nw ln wd d i b && allR nw ln wd d b i) = false) → f_X8_likeOf_L2 m n (nI b) (nI d) (nI j) = some (nI (lk nw ln wd d b)) := by
    intro n
    induction n with
    | zero => intro j _ h2; omega
    | succ n ih =>
      intro j hj hnn hal
      have next : (allR nw ln wd d j b && allR nw ln wd d b j) = false → f_X8_likeOf_L2 m n (nI b) (nI d) (nI (j + 1)) = some (nI (lk nw ln wd d b)) := fun h => by
        have hjb : j ≠ b := fun q => by rw [q, allR_rf hb] at h; cases h
        exact ih (j + 1) (by omega) (by omega) (fun i hi => by
          by_cases e : i = j
          · rw [e]; exact h
          · exact hal i (by omega))
      rw [f_X8_likeOf_L2, rests_m hW hM hd4 (by omega) hb, rests_m hW hM hd4 hb (by omega)]
      simp only [Option.bind_some, f_X8_likeOf_J22, lt, nI_1]
      cases h1 : allR nw ln wd d j b with
      | false =>
        rw [bi_f, if_pos rfl]
        exact next (by rw [h1]; rfl)
      | true =>
        rw [bi_t, if_neg (by decide)]
        cases h2 : allR nw ln wd d b j with
        | false =>
          rw [bi_f, if_pos rfl]
          exact next (by rw [h1, h2]; rfl)
        | true =>
          rw [bi_t, if_neg (by decide)]
          have : lk nw ln wd d b = j := fs_eq (by omega) (by rw [h1, h2]; rfl) hal
          rw [this]
  have h9 := outer FU 0 (by omega) (by have := FU_big; omega) (fun i hi => by omega)
  rw [nI_0] at h9
  rw [f_X8_likeOf]
  exact h9
/-- a key as a number -/
def kcd (B n : Nat) (l : List Nat) : Nat := nb B n (fun i => l.getD i 0)
def Gk (ln : Nat) (l : List Nat) : Prop := l.length = ln + 1 ∧ ∀ i, l.getD i 0 < 12
theorem kcd_inj {B n ln : Nat} {l l' : List Nat} (hB : 12 ≤ B) (hn : ln + 1 ≤ n) (h : Gk ln l) (h' : Gk ln l') (e : kcd B n l = kcd B n l') : l = l' := by
  have h1 := nb_inj (B := B) (n := n) (f := fun i => l.getD i 0) (g := fun i => l'.getD i 0) (fun i _ => by have := h.2 i; show l.getD i 0 < B; omega) (fun i _ => by have := h'.2 i; show l'.getD i 0 < B; omega) e
  apply List.ext_getElem (by rw [h.1, h'.1])
  intro i hi hi'
  have := h1 i (by rw [h.1] at hi; omega)
  simpa [List.getD_eq_getElem?_getD, hi, hi'] using this
theorem key_len {nw ln : Nat} {wd : Nat → Nat → Nat} {d x : Nat} : (key nw ln wd d x).length = ln + 1 := by simp [key]
theorem key_get {nw ln : Nat} {wd : Nat → Nat → Nat} {d x : Nat} (i : Nat) : (key nw ln wd d x).getD i 0 = if i = 0 then d else if i ≤ ln then (if d = 0 then 0 else lk nw ln wd d (hd nw wd d x (i - 1))) else 0 := by
  unfold key
  cases i with
  | zero => rfl
  | succ i =>
    rw [if_neg (by omega), List.getD_cons_succ]
    by_cases e : i + 1 ≤ ln
    · rw [if_pos e]
      have : i < ln := by omega
      simp [List.getD_eq_getElem?_getD, this]
    · rw [if_neg e]
      have : ¬ i < ln := by omega
      simp [List.getD_eq_getElem?_getD, this]
theorem key_good {nw ln : Nat} {wd : Nat → Nat → Nat} (hW : WL nw ln wd) {d x : Nat} (hd4 : d < ln) (hs : isSt nw ln wd d x = true) : Gk ln (key nw ln wd d x) := by
  have hn := hW.1
  have hl := hW.2.1
  refine ⟨key_len, fun i => ?_⟩
  rw [key_get]
  by_cases e : i = 0
  · rw [if_pos e]; omega
  · rw [if_neg e]
    by_cases e2 : i ≤ ln
    · rw [if_pos e2]
      by_cases e3 : d = 0
      · rw [if_pos e3]; decide
      · rw [if_neg e3]
        have h1 := al_iff.mp hs (i - 1) (by omega)
        have h2 : hd nw wd d x (i - 1) < nw := by simpa using h1
        have := lk_le (ln := ln) (wd := wd) (d := d) h2
        omega
    · rw [if_neg e2]; decide
theorem key_m {nw ln : Nat} {wd : Nat → Nat → Nat} {m : St} (hW : WL nw ln wd) (hM : ML nw ln wd m) {d x : Nat} (hd4 : d < ln) (hs : isSt nw ln wd d x = true) (hc : ∀ c, c < ln → m.2.1 16 c = nI (hd nw wd d x c)) : f_X8_keyOf m (nI d) = some (nI (kcd 16 (ln + 1) (key nw ln wd d x))) := by
  have hn := hW.1
  have hl := hW.2.1
  have loop : ∀ (n k : Nat), k ≤ ln → ln - k < n → f_X8_keyOf_L4 m n (nI d) (nI (nb 16 (k + 1) (fun i => (key nw ln wd d x).getD i 0))) (nI k) = some (nI (kcd 16 (ln + 1) (key nw ln wd d x))) := by
    intro n
    induction n with
    | zero => intro j _ h2; omega
    | succ n ih =>
      intro k hk hnn
      rw [f_X8_keyOf_L4, hM.2.1, ite_leN (by omega) (by omega)]
      by_cases e : ln ≤ k
      · rw [if_pos e, show k = ln by omega]; rfl
      · have ih1 := ih (k + 1) (by omega) (by omega)
        rw [nb, key_get, if_neg (by omega), if_pos (by omega)] at ih1
        rw [if_neg e, ← nI_0, ite_eqN (by omega) (by omega), show (16 : Int32) = nI 16 from rfl, pk_mul, Nat.mul_comm 16]
        by_cases e2 : d = 0
        · rw [if_pos e2]
          rw [if_pos e2] at ih1
          rw [f_X8_keyOf_J35, lt, lt, nI_1, nI_add]
          exact ih1
        · rw [if_neg e2]
          rw [if_neg e2] at ih1
          have h1 := al_iff.mp hs k (by omega)
          have h2 : hd nw wd d x k < nw := by simpa using h1
          rw [ite_in (show k < 4 by omega) (by decide), nI_clamp (by omega), hc k (by omega), like_m hW hM (by omega) h2]
          simp only [Option.bind_some]
          rw [f_X8_keyOf_J35, lt, lt, nI_1, nI_add]
          exact ih1
  have h9 := loop FU 0 (by omega) (by have := FU_big; omega)
  rw [nb, nb, key_get, if_pos rfl, nI_0, Nat.zero_mul, Nat.zero_add] at h9
  rw [f_X8_keyOf]
  exact h9
theorem kcd_lt {ln : Nat} (hl : ln ≤ 4) {l : List Nat} (h : Gk ln l) : kcd 16 (ln + 1) l < 2 ^ 20 := by
  have h1 := nb_lt (B := 16) (n := ln + 1) (f := fun i => l.getD i 0) (fun i _ => by have := h.2 i; show l.getD i 0 < 16; omega)
  have h2 : 16 ^ (ln + 1) ≤ 16 ^ 5 := Nat.pow_le_pow_right (by decide) (by omega)
  have h3 : (16 : Nat) ^ 5 = 2 ^ 20 := by decide
  unfold kcd; omega
theorem kept_m {ln : Nat} (hl : ln ≤ 4) {m : St} {ks : List (List Nat)} (h12 : m.1 12 = nI ks.length) (hlen : ks.length ≤ 2000) (h17 : ∀ i, i < ks.length → m.2.1 17 i = nI (kcd 16 (ln + 1) (ks.getD i []))) (hg : ∀ l, l ∈ ks → Gk ln l) {l : List Nat} (hk : Gk ln l) : f_X8_isKept m (nI (kcd 16 (ln + 1) l)) = some (bi (decide (l ∈ ks))) := by
  have hmem : ∀ i, i < ks.length → Gk ln (ks.getD i []) := fun i hi => hg _ (by
    rw [List.getD_eq_getElem?_getD, List.getElem?_eq_getElem hi]; exact List.getElem_mem hi)
  have loop : ∀ (n k : Nat), k ≤ ks.length → ks.length - k < n → f_X8_isKept_L4 m n (nI (kcd 16 (ln + 1) l)) (bi (an (fun i => decide (ks.getD i [] = l)) k)) (nI k) = some (bi (an (fun i => decide (ks.getD i [] = l)) ks.length)) := by
    intro n
    induction n with
    | zero => intro j _ h2; omega
    | succ n ih =>
      intro k hk' hnn
      rw [f_X8_isKept_L4, h12, ite_leN (by omega) (by omega)]
      by_cases e : ks.length ≤ k
      · rw [if_pos e, show k = ks.length by omega]
        cases an (fun i => decide (ks.getD i [] = l)) ks.length <;> rfl
      · have ih1 := ih (k + 1) (by omega) (by omega)
        rw [if_neg e]
        rw [an] at ih1
        cases h : an (fun i => decide (ks.getD i [] = l)) k with
        | true =>
          rw [h] at ih1
          rw [bi_t, if_neg (by decide)]
          simp only [f_X8_isKept_J26, f_X8_isKept_J31, lt, nI_1]
          exact ih1
        | false =>
          rw [h] at ih1
          have b1 := kcd_lt hl hk
          have b2 := kcd_lt hl (hmem k (by omega))
          rw [bi_f, if_pos rfl, ite_in (show k < 2000 by omega) (by decide), nI_clamp (by omega), h17 k (by omega), ite_eqN (by omega) (by omega)]
          simp only [f_X8_isKept_J26, f_X8_isKept_J31, lt, nI_1]
          by_cases e2 : ks.getD k [] = l
          · rw [e2, if_pos rfl]
            rw [decide_eq_true e2] at ih1
            exact ih1
          · rw [if_neg (fun q => e2 (kcd_inj (by decide) (Nat.le_refl _) (hmem k (by omega)) hk q))]
            rw [decide_eq_false e2] at ih1
            exact ih1
  have h9 := loop FU 0 (by omega) (by have := FU_big; omega)
  rw [an, bi_f, nI_0] at h9
  have hd : an (fun i => decide (ks.getD i [] = l)) ks.length = decide (l ∈ ks) := by
    apply Bool.eq_iff_iff.mpr
    rw [an_iff, decide_eq_true_eq]
    constructor
    · rintro ⟨i, hi, h⟩
      rw [decide_eq_true_eq] at h
      rw [← h, List.getD_eq_getElem?_getD, List.getElem?_eq_getElem hi]
      exact List.getElem_mem hi
    · intro h
      obtain ⟨i, hi, h2⟩ := List.getElem_of_mem h
      refine ⟨i, hi, ?_⟩
      rw [decide_eq_true_eq, List.getD_eq_getElem?_getD, List.getElem?_eq_getElem hi]
      exact h2
  rw [hd] at h9
  rw [f_X8_isKept]
  exact h9
end
