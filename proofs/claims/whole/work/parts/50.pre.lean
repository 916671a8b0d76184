section
/-! the class's tables of beginnings -/
def FRr (S : Nat → Prop) (c c' : St) : Prop := c'.1 = c.1 ∧ c'.2.2 = c.2.2 ∧ ∀ j, ¬ S j → c'.2.1 j = c.2.1 j
theorem FRr.rf {S : Nat → Prop} {c : St} : FRr S c c := ⟨rfl, rfl, fun _ _ => rfl⟩
theorem FRr.tr {S : Nat → Prop} {a b c : St} (h : FRr S a b) (g : FRr S b c) : FRr S a c := ⟨g.1.trans h.1, g.2.1.trans h.2.1, fun j hj => (g.2.2 j hj).trans (h.2.2 j hj)⟩
theorem FRr.mo {S T : Nat → Prop} {a b : St} (h : FRr S a b) (hST : ∀ j, S j → T j) : FRr T a b := ⟨h.1, h.2.1, fun j hj => h.2.2 j (fun q => hj (hST j q))⟩
theorem FRr.cl {nw ln : Nat} {wd : Nat → Nat → Nat} {S : Nat → Prop} {c c' : St} (h : FRr S c c') (hS : ¬ S 12) (g : CL nw ln wd c) : CL nw ln wd c' := ⟨by rw [h.1]; exact g.1, by rw [h.1]; exact g.2.1, fun w hw => by rw [h.2.2 12 hS]; exact g.2.2 w hw⟩
theorem sR_FRr {c : St} {q : Nat} {g : Nat → Int32} : FRr (fun j => j = q) c (sR c q g) := ⟨rfl, rfl, fun j hj => by rw [sR_A, if_neg hj]⟩
theorem sA_FRr {c : St} {q i : Nat} {v : Int32} : FRr (fun j => j = q) c (sA c q i v) := sR_FRr
theorem head_c {nw ln : Nat} {wd : Nat → Nat → Nat} {c : St} (hW : WL nw ln wd) (hC : CL nw ln wd c) {w d : Nat} (hw : w < nw) (hd : d ≤ ln) : f_X3_isHead c (nI w) (nI d) = some (bi (isH wd d w)) := by
  have hn := hW.1
  unfold f_X3_isHead f_X3_isHead_J19 isH
  by_cases e : w = 0
  · subst e
    rw [if_pos nI_0]; rfl
  · rw [if_neg (fun q => e (by rw [← nI_0, nI_eq_iff (by omega) (by omega)] at q; exact q)), n1, pk_sub (by omega), samePre_c hW hC (by omega) hw hd, decide_eq_false e, Bool.false_or]
    cases sp wd d (w - 1) w <;> rfl
theorem place_c {h l : Nat} (hh : h < 16) (hl : l < 32) : f_X3_placeOf (nI h) (nI l) = some (nI (32 * h + l)) := by
  unfold f_X3_placeOf
  rw [and15 hh, and_nI (by omega) 5 (by decide), Nat.mod_eq_of_lt (show l < 2 ^ 5 by omega), show (32 : Int32) = nI 32 from rfl, pk_mul, nI_add, Nat.mul_comm]
/-- the first word that goes on from a head with a letter -/
def fw (nw : Nat) (wd : Nat → Nat → Nat) (d h l n : Nat) : Nat := fs (fun v => sp wd d h v && (wd v d == l)) n
def LG (nw : Nat) (wd : Nat → Nat → Nat) (d : Nat) (c : St) : Prop := ∀ h, h < nw → isH wd d h = true → ∀ l, l < 32 → c.2.1 (24 + d) (32 * h + l) = orN nw (fw nw wd d h l nw)
def TK (nw ln : Nat) (wd : Nat → Nat → Nat) (d : Nat) (c : St) : Prop := ∀ h, h < nw → isH wd d h = true → ∀ q, q < ln → ∃ T : Nat, T < 2 ^ 12 ∧ c.2.1 (29 + d) (4 * h + q) = nI T ∧ ∀ w, T.testBit w = (decide (w < nw) && decide (fw nw wd d h (wd w q) nw < nw))
def LKs (nw ln : Nat) (wd : Nat → Nat → Nat) (d : Nat) (c : St) : Prop := ∀ h, h < nw → isH wd d h = true → c.2.1 (34 + d) h = nI (lk nw ln wd d h)
theorem orN_keep {p : Nat → Bool} {n : Nat} (h : p n = false) : orN (n + 1) (fs p (n + 1)) = orN n (fs p n) := by
  rw [fs, h]
  have := fs_le p n
  by_cases e : fs p n < n
  · rw [if_pos e, orN, orN, if_pos (by omega), if_pos e]
  · rw [if_neg e, orN, orN, if_neg e]
    simp
theorem orN_old {p : Nat → Bool} {n : Nat} (h : fs p n < n) : orN (n + 1) (fs p (n + 1)) = orN n (fs p n) := by
  rw [fs, if_pos h, orN, orN, if_pos (by omega), if_pos h]
theorem orN_new {p : Nat → Bool} {n : Nat} (h : p n = true) (h2 : ¬ fs p n < n) : orN (n + 1) (fs p (n + 1)) = nI n := by
  rw [fs, if_neg h2, if_pos h, orN, if_pos (by omega)]
theorem longer_c {nw ln : Nat} {wd : Nat → Nat → Nat} {c : St} (hW : WL nw ln wd) (hC : CL nw ln wd c) {d : Nat} (hd : d < ln) : ∃ c', f_X3_buildLonger c (nI d) = some c' ∧ FRr (fun j => j = 24 + d) c c' ∧ LG nw wd d c' := by
  have hn := hW.1
  have hl := hW.2.1
  have h12 : ¬ ((fun j => j = 24 + d) 12) := by show ¬ (12 = 24 + d); omega
  have loop : ∀ (n k hx : Nat) (st : St), k ≤ nw → nw - k < n → hx < 16 → (0 < k → hx = fh nw wd d (k - 1)) → FRr (fun j => j = 24 + d) c st → (∀ h, h < nw → isH wd d h = true → ∀ l, l < 32 → st.2.1 (24 + d) (32 * h + l) = orN k (fw nw wd d h l k)) → ∃ c', f_X3_buildLonger_L14 n st (nI d) (nI hx) (nI k) = some c' ∧ FRr (fun j => j = 24 + d) c c' ∧ LG nw wd d c' := by
    intro n
    induction n with
    | zero => intro k hx st _ h; omega
    | succ n ih =>
      intro k hx st hk hnn hx16 hhx hF hI
      have hC2 := hF.cl h12 hC
      rw [f_X3_buildLonger_L14]
      simp only [f_X6_size, Option.bind_some, hC2.1]
      rw [ite_leN (by omega) (by omega)]
      by_cases e : nw ≤ k
      · have : k = nw := by omega
        subst this
        rw [if_pos e]
        exact ⟨st, rfl, hF, hI⟩
      · have hfk := fh_le (nw := nw) (wd := wd) (d := d) (w := k)
        have hsel : ((f_X3_isHead st (nI k) (nI d)).bind fun b28 => if b28 = 0 then f_X3_buildLonger_J36 (f_X3_buildLonger_L14 n) st (nI d) (nI hx) (nI k) else f_X3_buildLonger_J36 (f_X3_buildLonger_L14 n) st (nI d) (nI k) (nI k)) = f_X3_buildLonger_J36 (f_X3_buildLonger_L14 n) st (nI d) (nI (fh nw wd d k)) (nI k) := by
          rw [head_c hW hC2 (show k < nw by omega) (by omega)]
          simp only [Option.bind_some]
          cases hh : isH wd d k with
          | true =>
            rw [bi_t, if_neg (by decide), (isH_iff hW (by omega) (by omega)).mp hh]
          | false =>
            obtain ⟨h0, h1⟩ := isH_f (nw := nw) hh
            rw [bi_f, if_pos rfl, hhx h0, h1]
        have hlet := hW.2.2.2.2.1 k (by omega) d hd
        rw [if_neg e, hsel, f_X3_buildLonger_J36, bind_s (letter_c hW hC2 (show k < nw by omega) hd), bind_s (place_c (show fh nw wd d k < 16 by omega) (show wd k d < 32 by omega))]
        have i4 : ∀ {a b : Option St}, (if inb (nI d) 4 = true then a else b) = a := fun {a b} => ite_in (show d < 4 by omega) (by decide)
        have i512 : ∀ {a b : Option St}, (if inb (nI (32 * fh nw wd d k + wd k d)) 512 = true then a else b) = a := fun {a b} => ite_in (show 32 * fh nw wd d k + wd k d < 512 by omega) (by decide)
        simp only [i4, i512, nI_clamp (show d < 2 ^ 31 by omega), nI_clamp (show 32 * fh nw wd d k + wd k d < 2 ^ 31 by omega)]
        have hfn : fh nw wd d k < nw := by omega
        have hentry := hI (fh nw wd d k) hfn (isH_fh hW (by omega) (by omega)) (wd k d) (by omega)
        have hpk : (sp wd d (fh nw wd d k) k && (wd k d == wd k d)) = true := by rw [fh_sp (show k < nw by omega)]; simp
        rw [hentry, ite_orN (by omega)]
        have other : ∀ h l, h < nw → isH wd d h = true → l < 32 → ¬ (h = fh nw wd d k ∧ l = wd k d) → (sp wd d h k && (wd k d == l)) = false := fun h l hh1 hh2 _ hne => by
          cases g : (sp wd d h k && (wd k d == l)) with
          | false => rfl
          | true =>
            rw [Bool.and_eq_true] at g
            exact absurd ⟨isH_eq hW (by omega) hh1 hh2 g.1, by have := g.2; simp at this; exact this.symm⟩ hne
        by_cases e2 : fw nw wd d (fh nw wd d k) (wd k d) k < k
        · rw [if_pos e2, f_X3_buildLonger_J74, lt, nI_1]
          refine ih (k + 1) (fh nw wd d k) st (by omega) (by omega) (by omega) (fun _ => rfl) hF (fun h h1 h2 l hl2 => ?_)
          rw [hI h h1 h2 l hl2]
          by_cases e3 : h = fh nw wd d k ∧ l = wd k d
          · rw [e3.1, e3.2]
            exact (orN_old e2).symm
          · exact (orN_keep (other h l h1 h2 hl2 e3)).symm
        · rw [if_neg e2, lt, f_X3_buildLonger_J74, lt, nI_1]
          refine ih (k + 1) (fh nw wd d k) _ (by omega) (by omega) (by omega) (fun _ => rfl) (hF.tr sA_FRr) (fun h h1 h2 l hl2 => ?_)
          rw [sA_A, if_pos rfl, upd_at]
          by_cases e3 : h = fh nw wd d k ∧ l = wd k d
          · rw [e3.1, e3.2, if_pos rfl]
            exact (orN_new hpk e2).symm
          · rw [if_neg (by omega), hI h h1 h2 l hl2]
            exact (orN_keep (other h l h1 h2 hl2 e3)).symm
  obtain ⟨g, f1, f2⟩ := fill_c (st := c) (q := 24 + d) (n := 512) (v := -1) (by decide)
  obtain ⟨c', l1, l2, l3⟩ := loop FU 0 0 (sR c (24 + d) g) (by omega) (by have := FU_big; omega) (by omega) (fun h => by omega) sR_FRr (fun h h1 h2 l hl2 => by
    rw [sR_A, if_pos rfl, f2 _ (by omega)]
    simp [orN])
  rw [nI_0] at l1
  refine ⟨c', ?_, l2, l3⟩
  rw [f_X3_buildLonger, ite_in (show d < 4 by omega) (by decide), nI_clamp (by omega), f1]
  simp only [Option.bind_some]
  exact l1
theorem takers_c {nw ln : Nat} {wd : Nat → Nat → Nat} {c : St} (hW : WL nw ln wd) (hC : CL nw ln wd c) {d h : Nat} (hd : d < ln) (hL : LG nw wd d c) (hh : h < nw) (hH : isH wd d h = true) : ∃ c', f_X3_buildTakers c (nI d) (nI h) = some c' ∧ FRr (fun j => j = 29 + d) c c' ∧ (∀ i, ¬ (4 * h ≤ i ∧ i < 4 * h + 4) → c'.2.1 (29 + d) i = c.2.1 (29 + d) i) ∧ ∀ q, q < ln → ∃ T : Nat, T < 2 ^ 12 ∧ c'.2.1 (29 + d) (4 * h + q) = nI T ∧ ∀ w, T.testBit w = (decide (w < nw) && decide (fw nw wd d h (wd w q) nw < nw)) := by
  have hn := hW.1
  have hl := hW.2.1
  have h12 : ¬ ((fun j => j = 29 + d) 12) := by show ¬ (12 = 29 + d); omega
  have i4 : ∀ {a b : Option St}, (if inb (nI d) 4 = true then a else b) = a := fun {a b} => ite_in (show d < 4 by omega) (by decide)
  have j76 : ∀ (r2 : St → Int32 → Int32 → Int32 → Option St) (st : St) (q : Nat) (v : Int32), q < 4 → f_X3_buildTakers_J76 r2 st (nI d) (nI h) (nI q) v = r2 (sA st (29 + d) (4 * h + q) v) (nI d) (nI h) (nI (q + 1)) := fun r2 st q v hq => by
    rw [f_X3_buildTakers_J76, i4, and15 (by omega), n4, pk_mul, nI_add, ite_in (show h * 4 + q < 64 by omega) (by decide), nI_clamp (by omega), nI_clamp (by omega), lt, lt, nI_1, Nat.mul_comm h]
  have inner : ∀ (r2 : St → Int32 → Int32 → Int32 → Option St) (st : St) (q : Nat), q < ln → FRr (fun j => j = 29 + d) c st → ∀ (n k S : Nat), k ≤ nw → nw - k < n → S < 2 ^ 12 → (∀ w, S.testBit w = (decide (w < k) && decide (fw nw wd d h (wd w q) nw < nw))) → ∃ T : Nat, T < 2 ^ 12 ∧ (∀ w, T.testBit w = (decide (w < nw) && decide (fw nw wd d h (wd w q) nw < nw))) ∧ f_X3_buildTakers_L13 r2 n st (nI d) (nI h) (nI q) (nI S) (nI k) = r2 (sA st (29 + d) (4 * h + q) (nI T)) (nI d) (nI h) (nI (q + 1)) := by
    intro r2 st q hq hF n
    have hC2 := hF.cl h12 hC
    induction n with
    | zero => intro k S _ h; omega
    | succ n ih =>
      intro k S hk hnn hS hb
      rw [f_X3_buildTakers_L13]
      simp only [f_X6_size, f_X6_length, Option.bind_some, hC2.1, hC2.2.1]
      rw [ite_leN (by omega) (by omega)]
      by_cases e : nw ≤ k
      · have : k = nw := by omega
        subst this
        rw [if_pos e, j76 _ _ _ _ (by omega)]
        exact ⟨S, hS, hb, rfl⟩
      · have hlet := hW.2.2.2.2.1 k (by omega) q hq
        rw [if_neg e, ite_leN (by omega) (by omega), if_neg (by omega), i4, bind_s (letter_c hW hC2 (show k < nw by omega) hq), bind_s (place_c (show h < 16 by omega) (show wd k q < 32 by omega))]
        have hent : st.2.1 (24 + d) (32 * h + wd k q) = orN nw (fw nw wd d h (wd k q) nw) := by
          rw [hF.2.2 (24 + d) (by show ¬ (24 + d = 29 + d); omega)]
          exact hL h hh hH (wd k q) (by omega)
        rw [ite_in (show 32 * h + wd k q < 512 by omega) (by decide), nI_clamp (by omega), nI_clamp (by omega), hent, ite_orN (by omega)]
        by_cases e2 : fw nw wd d h (wd k q) nw < nw
        · rw [if_pos e2, setb_nI (by omega), lt, f_X3_buildTakers_J70, lt, nI_1]
          refine ih (k + 1) _ (by omega) (by omega) (or_lt12 hS (by omega)) (fun w => ?_)
          rw [tb_or, hb]
          by_cases e3 : k = w
          · rw [e3] at e2
            rw [decide_eq_true e3, Bool.or_true, decide_eq_true (show w < k + 1 by omega), decide_eq_true e2]; rfl
          · rw [decide_eq_false e3, Bool.or_false]
            congr 1
            exact decide_eq_decide.mpr (by omega)
        · rw [if_neg e2, f_X3_buildTakers_J70, lt, nI_1]
          refine ih (k + 1) _ (by omega) (by omega) hS (fun w => ?_)
          rw [hb]
          by_cases e3 : w = k
          · rw [e3, decide_eq_false e2, Bool.and_false, Bool.and_false]
          · congr 1
            exact decide_eq_decide.mpr (by omega)
  have outer : ∀ (n k : Nat) (st : St), k ≤ 4 → 4 - k < n → FRr (fun j => j = 29 + d) c st → (∀ i, ¬ (4 * h ≤ i ∧ i < 4 * h + 4) → st.2.1 (29 + d) i = c.2.1 (29 + d) i) → (∀ q, q < ln → q < k → ∃ T : Nat, T < 2 ^ 12 ∧ st.2.1 (29 + d) (4 * h + q) = nI T ∧ ∀ w, T.testBit w = (decide (w < nw) && decide (fw nw wd d h (wd w q) nw < nw))) → ∃ c', f_X3_buildTakers_L2 n st (nI d) (nI h) (nI k) = some c' ∧ FRr (fun j => j = 29 + d) c c' ∧ (∀ i, ¬ (4 * h ≤ i ∧ i < 4 * h + 4) → c'.2.1 (29 + d) i = c.2.1 (29 + d) i) ∧ ∀ q, q < ln → ∃ T : Nat, T < 2 ^ 12 ∧ c'.2.1 (29 + d) (4 * h + q) = nI T ∧ ∀ w, T.testBit w = (decide (w < nw) && decide (fw nw wd d h (wd w q) nw < nw)) := by
    intro n
    induction n with
    | zero => intro k st _ h; omega
    | succ n ih =>
      intro k st hk hnn hF ho hI
      have hC2 := hF.cl h12 hC
      rw [f_X3_buildTakers_L2, n4, ite_leN (by omega) (by omega)]
      by_cases e : 4 ≤ k
      · rw [if_pos e]
        exact ⟨st, rfl, hF, ho, fun q hq => hI q hq (by omega)⟩
      · have up : ∀ v : Int32, (∀ i, ¬ (4 * h ≤ i ∧ i < 4 * h + 4) → (sA st (29 + d) (4 * h + k) v).2.1 (29 + d) i = c.2.1 (29 + d) i) := fun v i hi => by
          rw [sA_A, if_pos rfl, upd_at, if_neg (by omega)]
          exact ho i hi
        rw [if_neg e]
        by_cases e2 : k < ln
        · obtain ⟨T, t1, t2, t3⟩ := inner (f_X3_buildTakers_L2 n) st k e2 hF FU 0 0 (by omega) (by have := FU_big; omega) (by decide) (fun w => by rw [Nat.zero_testBit]; simp)
          rw [nI_0] at t3
          rw [t3]
          refine ih (k + 1) _ (by omega) (by omega) (hF.tr sA_FRr) (up (nI T)) (fun q hq hqk => ?_)
          rw [sA_A, if_pos rfl, upd_at]
          by_cases e3 : q = k
          · rw [if_pos (by omega)]
            subst e3
            exact ⟨T, t1, rfl, t2⟩
          · rw [if_neg (by omega)]
            exact hI q hq (by omega)
        · have t3 : f_X3_buildTakers_L13 (f_X3_buildTakers_L2 n) FU st (nI d) (nI h) (nI k) 0 0 = f_X3_buildTakers_L2 n (sA st (29 + d) (4 * h + k) 0) (nI d) (nI h) (nI (k + 1)) := by
            obtain ⟨fu, hfu⟩ := fu_s 1 (by decide)
            rw [hfu, f_X3_buildTakers_L13]
            simp only [f_X6_size, f_X6_length, Option.bind_some, hC2.1, hC2.2.1]
            rw [ite_leN (by omega) (by omega), if_pos (show ln ≤ k by omega), j76 _ _ _ _ (by omega)]
            split <;> rfl
          rw [t3]
          refine ih (k + 1) _ (by omega) (by omega) (hF.tr sA_FRr) (up 0) (fun q hq hqk => ?_)
          rw [sA_A, if_pos rfl, upd_at, if_neg (by omega)]
          exact hI q hq (by omega)
  have h9 := outer FU 0 c (by omega) (by have := FU_big; omega) FRr.rf (fun _ _ => rfl) (fun q hq hq2 => by omega)
  rw [nI_0] at h9
  rw [f_X3_buildTakers]
  exact h9
end
