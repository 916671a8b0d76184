section
/-! the squares that fit the board: the reference -/
/-- the letter that all have so far, or 0 -/
def sv (F : Nat → Bool) (g : Nat → Nat) : Nat → Nat
  | 0 => 0
  | n + 1 => if F n then (if ct F n = 0 then g n else if sv F g n = g n then g n else 0) else sv F g n
theorem sR_id (m : St) (j : Nat) : sR m j (m.2.1 j) = m := by
  unfold sR
  have : va_up m.2.1 j (m.2.1 j) = m.2.1 := by
    funext i
    unfold va_up
    by_cases e : i = j <;> simp [e]
  rw [this]
theorem isf_m {nw ln : Nat} {wd : Nat → Nat → Nat} {bd : Nat → Int32} {m m' : St} (hW : WL nw ln wd) (hM : ML nw ln wd m) (hF : Fs m m') (hB : ∀ r, r < 4 → m.2.1 3 r = bd r) (h0 : 0 < nw) {x : Nat} (hA : Ax nw ln x m') : ∃ g : Nat → Int32, f_X8_isFitting m' = some (bi (FT nw ln wd bd x), sR m' 7 g) := by
  have hn := hW.1
  have hl := hW.2.1
  have hM2 := hF.1.ml hM
  have hB2 : ∀ r, r < 4 → m'.2.1 3 r = bd r := fun r hr => by rw [hF.1.2 3 (by decide) (by decide)]; exact hB r hr
  have loop : ∀ (n k : Nat), k ≤ ln → ln - k < n → ∃ g : Nat → Int32, f_X8_isFitting_L4 n m' (bi (al (fun r => decide (bd r = -1) || decide (bd r = nI (dg nw ln x r))) k)) (nI k) = some (bi (FT nw ln wd bd x), sR m' 7 g) := by
    intro n
    induction n with
    | zero => intro k _ h; omega
    | succ n ih =>
      intro k hk hnn
      rw [f_X8_isFitting_L4, hM2.2.1, ite_leN (by omega) (by omega)]
      by_cases e : ln ≤ k
      · rw [if_pos e, show k = ln by omega, FT]
        cases al (fun r => decide (bd r = -1) || decide (bd r = nI (dg nw ln x r))) ln with
        | false =>
          rw [Bool.and_false, bi_f, if_pos rfl]
          exact ⟨m'.2.1 7, by rw [sR_id]; rfl⟩
        | true =>
          obtain ⟨g, h1, -⟩ := sq_m hW hM2 h0 hA
          rw [Bool.and_true, bi_t, if_neg (by decide), h1]
          refine ⟨g, ?_⟩
          cases P0 nw ln wd x <;> simp [bi, f_X8_isFitting_J68]
      · have ih1 := ih (k + 1) (by omega) (by omega)
        rw [if_neg e]
        rw [al] at ih1
        cases h : al (fun r => decide (bd r = -1) || decide (bd r = nI (dg nw ln x r))) k with
        | false =>
          rw [h] at ih1
          rw [bi_f, if_pos rfl]
          simp only [f_X8_isFitting_J45, f_X8_isFitting_J46, lt, nI_1]
          exact ih1
        | true =>
          rw [h] at ih1
          rw [bi_t, if_neg (by decide), ite_in (show k < 4 by omega) (by decide), ite_in (show k < 4 by omega) (by decide), ite_in (show k < 4 by omega) (by decide), nI_clamp (by omega), hA k (by omega), hB2 k (by omega)]
          simp only [f_X8_isFitting_J45, f_X8_isFitting_J41, f_X8_isFitting_J46, lt, nI_1]
          by_cases e2 : bd k = -1
          · rw [if_pos e2]
            rw [decide_eq_true e2] at ih1
            exact ih1
          · rw [if_neg e2]
            rw [decide_eq_false e2] at ih1
            by_cases e3 : bd k = nI (dg nw ln x k)
            · rw [if_pos e3]
              rw [decide_eq_true e3] at ih1
              exact ih1
            · rw [if_neg e3]
              rw [decide_eq_false e3] at ih1
              exact ih1
  have h9 := loop FU 0 (by omega) (by have := FU_big; omega)
  rw [nI_0] at h9
  rw [f_X8_isFitting]
  exact h9
def FI (nw ln : Nat) (wd : Nat → Nat → Nat) (F : Nat → Bool) (x : Nat) (st : St) : Prop := st.1 8 = nI (ct F x) ∧ (∀ r, r < ln → st.2.1 12 r = mk F (fun x => dg nw ln x r) x) ∧ ∀ r, r < ln → ∀ q, q < ln → 0 < ct F x → st.2.1 13 (4 * r + q) = nI (sv F (fun x => 97 + wd (dg nw ln x r) q) x)
theorem sv_lt {F : Nat → Bool} {g : Nat → Nat} {B : Nat} (hg : ∀ x, g x < B) (hB : 0 < B) : ∀ n, sv F g n < B
  | 0 => hB
  | n + 1 => by
    have := sv_lt (F := F) hg hB n
    have := hg n
    rw [sv]
    split
    · split
      · assumption
      · split
        · assumption
        · exact hB
    · assumption
theorem cf_m {nw ln : Nat} {wd : Nat → Nat → Nat} {F : Nat → Bool} {m st : St} (hW : WL nw ln wd) (hM : ML nw ln wd m) (h0 : 0 < nw) {x : Nat} (hx : x < 20736) (hFx : F x = true) (hF : Fs m st) (hA : Ax nw ln x st) (hI : FI nw ln wd F x st) : ∃ st2, f_X8_countFitting st = some st2 ∧ Fs m st2 ∧ Ax nw ln x st2 ∧ FI nw ln wd F (x + 1) st2 := by
  have hn := hW.1
  have hl := hW.2.1
  have hc := ct_le F x
  have hg : ∀ r q, r < ln → q < ln → ∀ x, 97 + wd (dg nw ln x r) q < 200 := fun r q _ hq x => by
    have := hW.2.2.2.2.1 (dg nw ln x r) (dg_lt h0) q hq
    omega
  have hsv : ∀ r q, r < ln → q < ln → sv F (fun x => 97 + wd (dg nw ln x r) q) x < 200 := fun r q hr hq => sv_lt (hg r q hr hq) (by decide) x
  have hmk : ∀ r, mk F (fun x => dg nw ln x r) (x + 1) = mk F (fun x => dg nw ln x r) x ||| (1 <<< (nI (dg nw ln x r) &&& 31)) := fun r => by rw [mk, if_pos hFx]
  have hs1 : ∀ r q, sv F (fun x => 97 + wd (dg nw ln x r) q) (x + 1) = if ct F x = 0 then 97 + wd (dg nw ln x r) q else if sv F (fun x => 97 + wd (dg nw ln x r) q) x = 97 + wd (dg nw ln x r) q then 97 + wd (dg nw ln x r) q else 0 := fun r q => by rw [sv, if_pos hFx]
  /- what stands after row k up to place j -/
  let I : Nat → Nat → Nat → St → Prop := fun a k j st => Fs m st ∧ Ax nw ln x st ∧ st.1 8 = nI (ct F x) ∧ (∀ r, r < ln → st.2.1 12 r = mk F (fun x => dg nw ln x r) (if r < a then x + 1 else x)) ∧ (∀ r, r < ln → ∀ q, q < ln → (r < k ∨ (r = k ∧ q < j)) → st.2.1 13 (4 * r + q) = nI (sv F (fun x => 97 + wd (dg nw ln x r) q) (x + 1))) ∧ (∀ r, r < ln → ∀ q, q < ln → ¬ (r < k ∨ (r = k ∧ q < j)) → 0 < ct F x → st.2.1 13 (4 * r + q) = nI (sv F (fun x => 97 + wd (dg nw ln x r) q) x))
  have inner : ∀ (r2 : St → Int32 → Option St) (k : Nat), k < ln → ∀ (n j : Nat) (st : St), j ≤ ln → ln - j < n → I (k + 1) k j st → ∃ st2, f_X8_countFitting_L29 r2 n st (nI k) (nI j) = r2 st2 (nI (k + 1)) ∧ I (k + 1) k ln st2 := by
    intro r2 k hk n
    induction n with
    | zero => intro j st _ h; omega
    | succ n ih =>
      intro j st hj hnn hI
      obtain ⟨i1, i2, i3, i4, i5, i6⟩ := hI
      have hM2 := i1.1.ml hM
      rw [f_X8_countFitting_L29, hM2.2.1, ite_leN (by omega) (by omega)]
      by_cases e : ln ≤ j
      · rw [if_pos e, lt, nI_1]
        have : j = ln := by omega
        subst this
        exact ⟨st, rfl, i1, i2, i3, i4, i5, i6⟩
      · have b1 : dg nw ln x k < nw := dg_lt h0
        have b2 := hW.2.2.2.2.1 (dg nw ln x k) b1 j (by omega)
        have val : (if st.1 8 = 0 then f_X8_countFitting_J79 r2 (f_X8_countFitting_L29 r2 n) st (nI k) (nI j) (nI (97 + wd (dg nw ln x k) j)) (nI (4 * k + j)) else if st.2.1 13 (4 * k + j) = nI (97 + wd (dg nw ln x k) j) then f_X8_countFitting_J79 r2 (f_X8_countFitting_L29 r2 n) st (nI k) (nI j) (nI (97 + wd (dg nw ln x k) j)) (nI (4 * k + j)) else f_X8_countFitting_J84 r2 (f_X8_countFitting_L29 r2 n) st (nI k) (nI j) 0 (nI (4 * k + j))) = f_X8_countFitting_J84 r2 (f_X8_countFitting_L29 r2 n) st (nI k) (nI j) (nI (sv F (fun x => 97 + wd (dg nw ln x k) j) (x + 1))) (nI (4 * k + j)) := by
          rw [hs1, i3]
          unfold f_X8_countFitting_J79
          by_cases e1 : ct F x = 0
          · rw [e1, if_pos nI_0, if_pos rfl]
          · rw [if_neg (fun q => e1 (by rw [← nI_0, nI_eq_iff (by omega) (by omega)] at q; exact q)), if_neg e1, i6 k hk j (by omega) (by omega) (by omega)]
            have hb := hsv k j hk (by omega)
            rw [ite_eqN (by omega) (by omega)]
            by_cases e2 : sv F (fun x => 97 + wd (dg nw ln x k) j) x = 97 + wd (dg nw ln x k) j
            · rw [if_pos e2, if_pos e2]
            · rw [if_neg e2, if_neg e2]; rfl
        rw [if_neg e, ite_in (show k < 4 by omega) (by decide), nI_clamp (by omega), i2 k hk, at_m hW hM2 b1 (by omega), n4, pk_mul, nI_add]
        simp only [Option.bind_some]
        rw [ite_in (show 4 * k + j < 16 by omega) (by decide), nI_clamp (by omega), val, f_X8_countFitting_J84, ite_in (show 4 * k + j < 16 by omega) (by decide), nI_clamp (by omega), lt, lt, nI_1]
        refine ih (j + 1) _ (by omega) (by omega) ⟨i1.tr (sA_Fs (by decide)), Ax_sA (by decide) i2, i3, i4, fun r hr q hq hh => ?_, fun r hr q hq hh hc0 => ?_⟩
        · rw [sA_A, if_pos rfl, upd_at]
          by_cases e2 : 4 * r + q = 4 * k + j
          · have e3 : r = k := by omega
            have e4 : q = j := by omega
            rw [if_pos e2, e3, e4]
          · rw [if_neg e2]
            exact i5 r hr q hq (by omega)
        · rw [sA_A, if_pos rfl, upd_at, if_neg (by omega)]
          exact i6 r hr q hq (by omega) hc0
  have outer : ∀ (n k : Nat) (st : St), k ≤ ln → ln - k < n → I k k 0 st → ∃ st2, f_X8_countFitting_L2 n st (nI k) = some st2 ∧ Fs m st2 ∧ Ax nw ln x st2 ∧ FI nw ln wd F (x + 1) st2 := by
    intro n
    induction n with
    | zero => intro k st _ h; omega
    | succ n ih =>
      intro k st hk hnn hI
      obtain ⟨i1, i2, i3, i4, i5, i6⟩ := hI
      have hM2 := i1.1.ml hM
      rw [f_X8_countFitting_L2, hM2.2.1, ite_leN (by omega) (by omega)]
      by_cases e : ln ≤ k
      · rw [if_pos e, lt, i3, nI_1]
        have e1 : ct F (x + 1) = ct F x + 1 := by rw [ct, if_pos hFx]
        refine ⟨_, rfl, i1.tr (sI_Fs (by decide)), i2, by rw [sI_I, if_pos rfl, e1], fun r hr => ?_, fun r hr q hq _ => ?_⟩
        · have := i4 r hr
          rw [if_pos (by omega)] at this
          exact this
        · exact i5 r hr q hq (by omega)
      · have b1 : dg nw ln x k < nw := dg_lt h0
        have hk12 := i4 k (by omega)
        rw [if_neg (by omega)] at hk12
        rw [if_neg e, ite_in (show k < 4 by omega) (by decide), ite_in (show k < 4 by omega) (by decide), ite_in (show k < 4 by omega) (by decide), nI_clamp (by omega), i2 k (by omega), hk12, ← hmk k, lt]
        obtain ⟨st2, s1, s2⟩ := inner (f_X8_countFitting_L2 n) k (by omega) FU 0 (sA st 12 k (mk F (fun x => dg nw ln x k) (x + 1))) (by omega) (by have := FU_big; omega) ⟨i1.tr (sA_Fs (by decide)), Ax_sA (by decide) i2, i3, fun r hr => by
          rw [sA_A, if_pos rfl, upd_at]
          by_cases e2 : r = k
          · rw [if_pos e2, if_pos (show r < k + 1 by omega), e2]
          · rw [if_neg e2, i4 r hr]
            by_cases e3 : r < k
            · rw [if_pos e3, if_pos (by omega)]
            · rw [if_neg e3, if_neg (by omega)], i5, i6⟩
        rw [nI_0] at s1
        rw [s1]
        obtain ⟨u1, u2, u3, u4, u5, u6⟩ := s2
        exact ih (k + 1) st2 (by omega) (by omega) ⟨u1, u2, u3, u4, fun r hr q hq hh => u5 r hr q hq (by omega), fun r hr q hq hh => u6 r hr q hq (by omega)⟩
  have h9 := outer FU 0 st (by omega) (by have := FU_big; omega) ⟨hF, hA, hI.1, fun r hr => by rw [if_neg (by omega)]; exact hI.2.1 r hr, fun r hr q hq hh => by omega, fun r hr q hq _ hc0 => hI.2.2 r hr q hq hc0⟩
  rw [f_X8_countFitting]
  exact h9
theorem lf_m {nw ln : Nat} {wd : Nat → Nat → Nat} {bd : Nat → Int32} {m : St} (hW : WL nw ln wd) (hM : ML nw ln wd m) (hB : ∀ r, r < 4 → m.2.1 3 r = bd r) : ∃ m2, f_X8_layFitting m = some m2 ∧ Fs m m2 ∧ FI nw ln wd (FT nw ln wd bd) (NN nw ln) m2 := by
  have hN := NN_le hW
  have hl := hW.2.1
  have zero : ∀ (n k : Nat) (st : St), k ≤ 4 → 4 - k < n → Fs m st → st.1 8 = 0 → (∀ w, w < k → st.2.1 12 w = 0) → ∃ st2, f_X8_layFitting_L7 n st (nI k) = ((f_X8_begin st2).bind fun b26 => if (b26.1 1) ≤ 0 then f_X8_layFitting_J41 b26 0 else f_X8_layFitting_J41 b26 1) ∧ Fs m st2 ∧ st2.1 8 = 0 ∧ ∀ w, w < 4 → st2.2.1 12 w = 0 := by
    intro n
    induction n with
    | zero => intro k st _ h; omega
    | succ n ih =>
      intro k st hk hnn hF h8 hz
      rw [f_X8_layFitting_L7, n4, ite_leN (by omega) (by omega)]
      by_cases e : 4 ≤ k
      · rw [if_pos e]
        exact ⟨st, rfl, hF, h8, fun w hw => hz w (by omega)⟩
      · rw [if_neg e, ite_in (show k < 4 by omega) (by decide), nI_clamp (by omega), lt, lt, nI_1]
        refine ih (k + 1) _ (by omega) (by omega) (hF.tr (sA_Fs (by decide))) h8 (fun w hw => ?_)
        rw [sA_A, if_pos rfl, upd_at]
        by_cases e2 : w = k
        · rw [if_pos e2]
        · rw [if_neg e2]; exact hz w (by omega)
  have loop : ∀ (n x : Nat) (m' : St), x ≤ NN nw ln → NN nw ln - x < n → Fs m m' → (x < NN nw ln → Ax nw ln x m') → FI nw ln wd (FT nw ln wd bd) x m' → ∃ m2, f_X8_layFitting_L42 n m' (bi (decide (x < NN nw ln))) = some m2 ∧ Fs m m2 ∧ FI nw ln wd (FT nw ln wd bd) (NN nw ln) m2 := by
    intro n
    induction n with
    | zero => intro x m' _ h2; omega
    | succ n ih =>
      intro x m' hx hnn hF hA hI
      rw [f_X8_layFitting_L42]
      by_cases e : x < NN nw ln
      · have h0 := nz_of e
        obtain ⟨g, h1⟩ := isf_m hW hM hF hB h0 (hA e)
        have hF2 := hF.tr (sR_Fs (m := m') (show 5 ≤ 7 by decide) g)
        have hA2 := Ax_sR (g := g) (show 7 ≠ 6 by decide) (hA e)
        have hI2 : FI nw ln wd (FT nw ln wd bd) x (sR m' 7 g) := hI
        rw [decide_eq_true e, bi_t, if_neg (by decide), h1]
        cases hp : FT nw ln wd bd x with
        | false =>
          obtain ⟨g2, h3, h4⟩ := nx_m hW (hF2.1.ml hM) e hA2
          have hc : ct (FT nw ln wd bd) (x + 1) = ct (FT nw ln wd bd) x := by rw [ct, hp]; rfl
          have ih1 := ih (x + 1) _ (by omega) (by omega) (hF2.tr (sR_Fs (m := sR m' 7 g) (show 5 ≤ 6 by decide) g2)) h4 ⟨by rw [hc]; exact hI2.1, fun r hr => by rw [mk, hp]; exact hI2.2.1 r hr, fun r hr q hq h => by rw [sv, hp]; rw [hc] at h; exact hI2.2.2 r hr q hq h⟩
          simp only [Option.bind_some, bi_f, f_X8_layFitting_J57, h3]
          rw [if_pos trivial]
          exact ih1
        | true =>
          obtain ⟨st2, s1, s2, s3, s4⟩ := cf_m hW hM h0 (by omega) hp hF2 hA2 hI2
          obtain ⟨g2, h3, h4⟩ := nx_m hW (s2.1.ml hM) e s3
          have ih1 := ih (x + 1) _ (by omega) (by omega) (s2.tr (sR_Fs (m := st2) (show 5 ≤ 6 by decide) g2)) h4 s4
          simp only [Option.bind_some, bi_t, f_X8_layFitting_J57, i10, if_false, s1, h3]
          exact ih1
      · rw [decide_eq_false e, bi_f, if_pos rfl]
        have : x = NN nw ln := by omega
        subst this
        exact ⟨m', rfl, hF, hI⟩
  obtain ⟨st2, z1, z2, z3, z4⟩ := zero FU 0 (sI m 8 0) (by omega) (by have := FU_big; omega) (sI_Fs (by decide)) rfl (fun w hw => by omega)
  obtain ⟨g, h1, h2⟩ := bg_m (m := st2) hW
  have h9 := loop FU 0 (sR st2 6 g) (by omega) (by have := FU_big; omega) (z2.tr (sR_Fs (by decide) g)) (fun _ => h2) ⟨z3, fun r hr => z4 r (by omega), fun r hr q hq h => by simp [ct] at h⟩
  rw [nI_0] at z1
  rw [f_X8_layFitting, lt, z1, h1]
  simp only [Option.bind_some, f_X8_layFitting_J41, sR_I, (z2.1.ml hM).1]
  rw [more_m hW (fun t => f_X8_layFitting_L42 FU (sR st2 6 g) t)]
  exact h9
end
