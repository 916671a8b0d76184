section
/-! the reference's search -/
/-- visited, dead, cuts, keys -/
abbrev GT : Type := Nat × Nat × Nat × List (List Nat)
def gfold (f : Nat → GT → GT × Bool) : Nat → GT → GT × Bool
  | 0, s => (s, false)
  | n + 1, s => ((f n (gfold f n s).1).1, (gfold f n s).2 || (f n (gfold f n s).1).2)
/-- a state is left -/
def gfin (kp : Bool) (l : List Nat) (q : GT × Bool) : GT × Bool := if q.2 then q else ((q.1.1, q.1.2.1 + 1, q.1.2.2.1, if kp then (if l ∈ q.1.2.2.2 then q.1.2.2.2 else q.1.2.2.2 ++ [l]) else q.1.2.2.2), false)
def gm (kp : Bool) (nw ln : Nat) (wd : Nat → Nat → Nat) : Nat → Nat → GT → GT × Bool
  | 0, _, s => ((s.1 + 1, s.2), true)
  | k + 1, x, s =>
    if kp && decide (key nw ln wd (ln - (k + 1)) x ∈ s.2.2.2) then ((s.1 + 1, s.2.1, s.2.2.1 + 1, s.2.2.2), false)
    else gfin kp (key nw ln wd (ln - (k + 1)) x) (gfold (fun w s => if isSt nw ln wd (ln - k) (x * nw + w) then gm kp nw ln wd k (x * nw + w) s else (s, false)) nw (s.1 + 1, s.2))
def TB (nw : Nat) : Nat → Nat
  | 0 => 0
  | k + 1 => nw * (1 + TB nw k) + 1
def KB (nw : Nat) : Nat → Nat
  | 0 => 0
  | k + 1 => nw * KB nw k + 1
theorem gfold_len {f : Nat → GT → GT × Bool} {B : Nat} (hf : ∀ w s, (f w s).1.2.2.2.length ≤ s.2.2.2.length + B) : ∀ n s, (gfold f n s).1.2.2.2.length ≤ s.2.2.2.length + n * B
  | 0, s => by
    rw [gfold]
    show s.2.2.2.length ≤ _
    omega
  | n + 1, s => by
    have h1 := gfold_len hf n s
    have h2 := hf n (gfold f n s).1
    rw [gfold, Nat.add_mul]
    show (f n (gfold f n s).1).1.2.2.2.length ≤ _
    omega
theorem gfin_len {kp : Bool} {l : List Nat} {q : GT × Bool} : (gfin kp l q).1.2.2.2.length ≤ q.1.2.2.2.length + 1 := by
  unfold gfin
  split
  · omega
  · show (if kp = true then _ else _ : List (List Nat)).length ≤ _
    split
    · split
      · omega
      · rw [List.length_append]; exact Nat.le_refl _
    · omega
theorem gm_len {kp : Bool} {nw ln : Nat} {wd : Nat → Nat → Nat} : ∀ k x s, (gm kp nw ln wd k x s).1.2.2.2.length ≤ s.2.2.2.length + KB nw k
  | 0, x, s => by rw [gm]; exact Nat.le_refl _
  | k + 1, x, s => by
    rw [gm]
    split
    · show s.2.2.2.length ≤ _
      omega
    · have h1 := gfold_len (B := KB nw k) (f := fun w s => if isSt nw ln wd (ln - k) (x * nw + w) then gm kp nw ln wd k (x * nw + w) s else (s, false)) (fun w s => by
        show (if isSt nw ln wd (ln - k) (x * nw + w) = true then gm kp nw ln wd k (x * nw + w) s else (s, false)).1.2.2.2.length ≤ _
        split
        · exact gm_len k (x * nw + w) s
        · show s.2.2.2.length ≤ _
          omega) nw (s.1 + 1, s.2)
      have h2 := gfin_len (kp := kp) (l := key nw ln wd (ln - (k + 1)) x) (q := gfold (fun w s => if isSt nw ln wd (ln - k) (x * nw + w) then gm kp nw ln wd k (x * nw + w) s else (s, false)) nw (s.1 + 1, s.2))
      rw [KB]
      have h3 : ((s.1 + 1, s.2) : GT).2.2.2 = s.2.2.2 := rfl
      rw [h3] at h1
      omega
theorem dg_ext {nw d x w : Nat} (hw : w < nw) {r : Nat} (hr : r ≤ d) : dg nw (d + 1) (x * nw + w) r = if r < d then dg nw d x r else w := by
  have h0 : 0 < nw := by omega
  unfold dg
  by_cases e : r < d
  · rw [if_pos e, show d + 1 - 1 - r = (d - 1 - r) + 1 by omega, Nat.pow_succ, Nat.mul_comm (nw ^ _), ← Nat.div_div_eq_div_mul, Nat.mul_comm x, Nat.mul_add_div h0, Nat.div_eq_of_lt hw, Nat.add_zero]
  · rw [if_neg e, show d + 1 - 1 - r = 0 by omega, Nat.pow_zero, Nat.div_one, Nat.mul_comm x, Nat.mul_add_mod, Nat.mod_eq_of_lt hw]
/-- the counters and the kept keys are those of s -/
def GS (ln : Nat) (s : GT) (st : St) : Prop := st.1 9 = nI s.1 ∧ st.1 10 = nI s.2.1 ∧ st.1 11 = nI s.2.2.1 ∧ st.1 12 = nI s.2.2.2.length ∧ (∀ i, i < s.2.2.2.length → st.2.1 17 i = nI (kcd 16 (ln + 1) (s.2.2.2.getD i []))) ∧ ∀ l, l ∈ s.2.2.2 → Gk ln l
theorem leave_m {kp : Bool} {nw ln : Nat} {wd : Nat → Nat → Nat} {m st : St} (hW : WL nw ln wd) (hM : ML nw ln wd m) (h0 : 0 < nw) {d x : Nat} {q : GT × Bool} (hd4 : d < ln) (hs : isSt nw ln wd d x = true) (hF : Fs m st) (hA : Ax nw d x st) (h15 : st.2.1 15 d = bi q.2) (hG : GS ln q.1 st) (hlen : q.1.2.2.2.length + 1 ≤ 2000) : ∃ st2, f_X8_leave st (nI d) (bi kp) = some st2 ∧ Fs m st2 ∧ st2.2.1 6 = st.2.1 6 ∧ st2.2.1 14 = st.2.1 14 ∧ (∀ j, st2.2.1 15 j = if j + 1 = d ∧ q.2 = true then 1 else st.2.1 15 j) ∧ GS ln (gfin kp (key nw ln wd d x) q).1 st2 := by
  have hn := hW.1
  have hl := hW.2.1
  obtain ⟨g1, g2, g3, g4, g5, g6⟩ := hG
  unfold f_X8_leave
  rw [ite_in (show d < 5 by omega) (by decide), nI_clamp (by omega), h15]
  cases hq : q.2 with
  | true =>
    have hfin : gfin kp (key nw ln wd d x) q = q := by unfold gfin; rw [hq, if_pos rfl]
    rw [hfin, bi_t, if_neg (by decide)]
    by_cases e : d = 0
    · subst e
      rw [if_pos (by decide)]
      refine ⟨st, rfl, hF, rfl, rfl, fun j => ?_, g1, g2, g3, g4, g5, g6⟩
      rw [if_neg (by omega)]
    · obtain ⟨d', rfl⟩ : ∃ d', d = d' + 1 := ⟨d - 1, by omega⟩
      rw [if_neg (nI_nle (by omega) (by omega)), n1, pk_sub (by omega), show d' + 1 - 1 = d' by omega, ite_in (show d' < 5 by omega) (by decide), nI_clamp (by omega), lt]
      refine ⟨_, rfl, hF.tr (sA_Fs (by decide)), rfl, rfl, fun j => ?_, g1, g2, g3, g4, g5, g6⟩
      rw [sA_A, if_pos rfl, upd_at]
      by_cases e2 : j = d'
      · rw [if_pos e2, if_pos ⟨by omega, rfl⟩]
      · rw [if_neg e2, if_neg (by omega)]
  | false =>
    have hfin : gfin kp (key nw ln wd d x) q = ((q.1.1, q.1.2.1 + 1, q.1.2.2.1, if kp then (if key nw ln wd d x ∈ q.1.2.2.2 then q.1.2.2.2 else q.1.2.2.2 ++ [key nw ln wd d x]) else q.1.2.2.2), false) := by unfold gfin; rw [hq, if_neg (by decide)]
    rw [hfin, bi_f, if_pos rfl, lt, g2, nI_1]
    cases kp with
    | false =>
      rw [bi_f, if_pos rfl]
      refine ⟨_, rfl, hF.tr (sI_Fs (by decide)), rfl, rfl, fun j => ?_, g1, rfl, g3, g4, g5, g6⟩
      rw [if_neg (by simp)]; rfl
    | true =>
      rw [bi_t, if_neg (by decide)]
      have hF2 : Fs m (sI st 10 (nI (q.1.2.1 + 1))) := hF.tr (sI_Fs (by decide))
      obtain ⟨g, s1, s2⟩ := st_m (m := sI st 10 (nI (q.1.2.1 + 1))) hW (hF2.1.ml hM) h0 (show d ≤ ln by omega) hA
      have hF3 := hF2.tr (sR_Fs (m := sI st 10 (nI (q.1.2.1 + 1))) (show 5 ≤ 16 by decide) g)
      have hkey := key_m (m := sR (sI st 10 (nI (q.1.2.1 + 1))) 16 g) hW (hF3.1.ml hM) hd4 hs (fun c hc => by rw [sR_A, if_pos rfl]; exact s2 hs c hc)
      have hgood := key_good hW hd4 hs
      have hkept := kept_m (m := sR (sI st 10 (nI (q.1.2.1 + 1))) 16 g) (ks := q.1.2.2.2) hl g4 (by omega) g5 g6 hgood
      rw [s1]
      simp only [Option.bind_some]
      rw [hkey]
      simp only [Option.bind_some]
      rw [hkept]
      simp only [Option.bind_some, if_true]
      by_cases e : key nw ln wd d x ∈ q.1.2.2.2
      · rw [decide_eq_true e, bi_t, if_neg (by decide), if_pos e]
        refine ⟨_, rfl, hF3, rfl, rfl, fun j => ?_, g1, rfl, g3, g4, g5, g6⟩
        rw [if_neg (by simp)]; rfl
      · have g4' : (sR (sI st 10 (nI (q.1.2.1 + 1))) 16 g).1 12 = nI q.1.2.2.2.length := g4
        rw [decide_eq_false e, bi_f, if_pos rfl, if_neg e, g4', ite_in (show q.1.2.2.2.length < 2000 by omega) (by decide), nI_clamp (by omega), lt, lt]
        have g4'' : (sA (sR (sI st 10 (nI (q.1.2.1 + 1))) 16 g) 17 q.1.2.2.2.length (nI (kcd 16 (ln + 1) (key nw ln wd d x)))).1 12 = nI q.1.2.2.2.length := g4
        rw [g4'', nI_1]
        refine ⟨_, rfl, (hF3.tr (sA_Fs (by decide))).tr (sI_Fs (by decide)), rfl, rfl, fun j => ?_, g1, rfl, g3, ?_, fun i hi => ?_, fun l hl2 => ?_⟩
        · rw [if_neg (by simp)]; rfl
        · rw [sI_I, if_pos rfl, List.length_append]; rfl
        · rw [sI_A, sA_A, if_pos rfl, upd_at]
          rw [List.length_append] at hi
          have hi2 : i < q.1.2.2.2.length + 1 := hi
          by_cases e2 : i = q.1.2.2.2.length
          · rw [if_pos e2, e2]
            congr 2
            simp [List.getD_eq_getElem?_getD]
          · rw [if_neg e2]
            have hi3 : i < q.1.2.2.2.length := by omega
            have : (q.1.2.2.2 ++ [key nw ln wd d x]).getD i [] = q.1.2.2.2.getD i [] := by
              rw [List.getD_eq_getElem?_getD, List.getD_eq_getElem?_getD, List.getElem?_append_left hi3]
            show st.2.1 17 i = nI (kcd 16 (ln + 1) ((q.1.2.2.2 ++ [key nw ln wd d x]).getD i []))
            rw [this]
            exact g5 i hi3
        · rcases List.mem_append.mp hl2 with h | h
          · exact g6 l h
          · rw [List.mem_singleton] at h
            rw [h]; exact hgood
def Fg (kp : Bool) (nw ln : Nat) (wd : Nat → Nat → Nat) (k x : Nat) : Nat → GT → GT × Bool := fun w s => if isSt nw ln wd (ln - k) (x * nw + w) then gm kp nw ln wd k (x * nw + w) s else (s, false)
def Child (kp : Bool) (nw ln : Nat) (wd : Nat → Nat → Nat) (m : St) (k : Nat) : Prop := ∀ (d y : Nat) (s : GT) (st : St), d + 1 + k = ln → isSt nw ln wd (d + 1) y = true → Fs m st → Ax nw (d + 1) y st → (∀ c, c < ln → st.2.1 16 c = nI (hd nw wd (d + 1) y c)) → GS ln s st → s.2.2.2.length + KB nw k ≤ 2000 → ∃ (t : Nat) (st3 : St), t ≤ TB nw k ∧ (∀ n, ((f_X8_visit st (nI (d + 1)) (bi kp)).bind fun b => f_X8_goes_L36 (n + t) b.2 (bi kp) b.1) = f_X8_goes_L36 n st3 (bi kp) (nI d)) ∧ Fs m st3 ∧ (∀ r, r < d + 1 → st3.2.1 6 r = st.2.1 6 r) ∧ (∀ i, i < d + 1 → st3.2.1 14 i = st.2.1 14 i) ∧ (∀ i, i < d + 1 → st3.2.1 15 i = if i = d ∧ (gm kp nw ln wd k y s).2 = true then 1 else st.2.1 15 i) ∧ GS ln (gm kp nw ln wd k y s).1 st3
def Walk (kp : Bool) (nw ln : Nat) (wd : Nat → Nat → Nat) (m : St) (k : Nat) : Prop := ∀ (d x : Nat) (s0 : GT), d + (k + 1) = ln → isSt nw ln wd d x = true → ∀ (j w : Nat) (st : St), w + j = nw → Fs m st → Ax nw d x st → st.2.1 14 d = nI w → st.2.1 15 d = bi (gfold (Fg kp nw ln wd k x) w s0).2 → GS ln (gfold (Fg kp nw ln wd k x) w s0).1 st → (gfold (Fg kp nw ln wd k x) w s0).1.2.2.2.length + j * KB nw k + 1 ≤ 2000 → ∃ (t : Nat) (st2 : St), t ≤ j * (1 + TB nw k) + 1 ∧ (∀ n, f_X8_goes_L36 (n + t) st (bi kp) (nI d) = f_X8_goes_L36 n st2 (bi kp) (nI d + (-1))) ∧ Fs m st2 ∧ (∀ r, r < d → st2.2.1 6 r = st.2.1 6 r) ∧ (∀ i, i < d → st2.2.1 14 i = st.2.1 14 i) ∧ (∀ i, i < d → st2.2.1 15 i = if i + 1 = d ∧ (gfold (Fg kp nw ln wd k x) nw s0).2 = true then 1 else st.2.1 15 i) ∧ GS ln (gfin kp (key nw ln wd d x) (gfold (Fg kp nw ln wd k x) nw s0)).1 st2
theorem walk_of {kp : Bool} {nw ln : Nat} {wd : Nat → Nat → Nat} {m : St} (hW : WL nw ln wd) (hM : ML nw ln wd m) (h0 : 0 < nw) {k : Nat} (hC : Child kp nw ln wd m k) : Walk kp nw ln wd m k := by
  have hn := hW.1
  have hl := hW.2.1
  intro d x s0 hdk hs j
  have hk : ln - k = d + 1 := by omega
  induction j with
  | zero =>
    intro w st hw hF hA h14 h15 hG hlen
    have e : w = nw := by omega
    subst e
    obtain ⟨st2, l1, l2, l3, l4, l5, l6⟩ := leave_m (kp := kp) hW hM h0 (show d < ln by omega) hs hF hA h15 hG (by omega)
    refine ⟨1, st2, by omega, fun n => ?_, l2, fun r _ => by rw [l3], fun i _ => by rw [l4], fun i _ => l5 i, l6⟩
    rw [f_X8_goes_L36, if_neg (nI_pos (by omega)), ite_in (show d < 5 by omega) (by decide), nI_clamp (by omega), h14, (hF.1.ml hM).1, if_pos rfl, l1]
    rfl
  | succ j ih =>
    intro w st hw hF hA h14 h15 hG hlen
    have hwn : w < nw := by omega
    generalize hs76 : sA st 6 d (nI w) = s76
    have a14 : s76.2.1 14 d = nI w := by rw [← hs76]; exact h14
    generalize hs86 : sA s76 14 d (nI (w + 1)) = s86
    have hF86 : Fs m s86 := by rw [← hs86, ← hs76]; exact (hF.tr (sA_Fs (by decide))).tr (sA_Fs (by decide))
    have hA86 : Ax nw (d + 1) (x * nw + w) s86 := fun r hr => by
      rw [dg_ext hwn (by omega), ← hs86, sA_A, if_neg (by decide), ← hs76, sA_A, if_pos rfl, upd_at]
      by_cases e : r < d
      · rw [if_pos e, if_neg (by omega)]; exact hA r e
      · rw [if_neg e, if_pos (by omega)]
    have r6 : ∀ r, r < d → s86.2.1 6 r = st.2.1 6 r := fun r hr => by
      rw [← hs86, sA_A, if_neg (by decide), ← hs76, sA_A, if_pos rfl, upd_at, if_neg (by omega)]
    have r14 : ∀ i, i < d → s86.2.1 14 i = st.2.1 14 i := fun i hi => by
      rw [← hs86, sA_A, if_pos rfl, upd_at, if_neg (by omega), ← hs76]; rfl
    have r14d : s86.2.1 14 d = nI (w + 1) := by rw [← hs86, sA_A, if_pos rfl, upd_at, if_pos rfl]
    have r15 : s86.2.1 15 = st.2.1 15 := by rw [← hs86, ← hs76]; rfl
    have hG86 : GS ln (gfold (Fg kp nw ln wd k x) w s0).1 s86 := by rw [← hs86, ← hs76]; exact hG
    obtain ⟨g, t1, t2⟩ := st_m hW (hF86.1.ml hM) h0 (show d + 1 ≤ ln by omega) hA86
    have step : ∀ N, f_X8_goes_L36 (N + 1) st (bi kp) (nI d) = (if bi (isSt nw ln wd (d + 1) (x * nw + w)) = 0 then f_X8_goes_L36 N (sR s86 16 g) (bi kp) (nI d) else (f_X8_visit (sR s86 16 g) (nI (d + 1)) (bi kp)).bind fun b102 => f_X8_goes_L36 N b102.2 (bi kp) b102.1) := fun N => by
      have i5 : ∀ {a b : Option St}, (if inb (nI d) 5 = true then a else b) = a := fun {a b} => ite_in (show d < 5 by omega) (by decide)
      have i4 : ∀ {a b : Option St}, (if inb (nI d) 4 = true then a else b) = a := fun {a b} => ite_in (show d < 4 by omega) (by decide)
      have hne : ¬ (nI w = nI nw) := by rw [nI_eq_iff (by omega) (by omega)]; omega
      rw [f_X8_goes_L36, if_neg (nI_pos (by omega))]
      simp only [i5, i4, nI_clamp (show d < 2 ^ 31 by omega), h14, (hF.1.ml hM).1]
      rw [if_neg hne, lt, lt, hs76, a14, nI_1, nI_1, hs86, t1]
      simp only [Option.bind_some, f_X8_goes_J109]
    have e15 : (sR s86 16 g).2.1 15 = st.2.1 15 := by rw [sR_A, if_neg (by decide), r15]
    have hF91 := hF86.tr (sR_Fs (m := s86) (show 5 ≤ 16 by decide) g)
    have hgf : gfold (Fg kp nw ln wd k x) (w + 1) s0 = ((Fg kp nw ln wd k x w (gfold (Fg kp nw ln wd k x) w s0).1).1, (gfold (Fg kp nw ln wd k x) w s0).2 || (Fg kp nw ln wd k x w (gfold (Fg kp nw ln wd k x) w s0).1).2) := rfl
    generalize hQ : gfold (Fg kp nw ln wd k x) w s0 = Q at *
    have hjm : (j + 1) * KB nw k = j * KB nw k + KB nw k := by rw [Nat.add_mul, Nat.one_mul]
    have hjt : (j + 1) * (1 + TB nw k) = j * (1 + TB nw k) + (1 + TB nw k) := by rw [Nat.add_mul, Nat.one_mul]
    cases hst : isSt nw ln wd (d + 1) (x * nw + w) with
    | false =>
      have hFg : Fg kp nw ln wd k x w Q.1 = (Q.1, false) := by unfold Fg; rw [hk, hst]; rfl
      rw [hFg, Bool.or_false] at hgf
      obtain ⟨t, st2, q1, q2, q3, q4, q5, q6, q7⟩ := ih (w + 1) (sR s86 16 g) (by omega) hF91 (fun r hr => by
        rw [sR_A, if_neg (by decide), r6 r hr]; exact hA r hr) (by rw [sR_A, if_neg (by decide)]; exact r14d) (by
        rw [hgf, sR_A, if_neg (by decide), r15]; exact h15) (by rw [hgf]; exact hG86) (by rw [hgf]; show Q.1.2.2.2.length + j * KB nw k + 1 ≤ 2000; omega)
      refine ⟨t + 1, st2, by omega, fun n => ?_, q3, fun r hr => ?_, fun i hi => ?_, fun i hi => ?_, q7⟩
      · rw [← Nat.add_assoc, step, hst, bi_f, if_pos rfl, q2 n]
      · rw [q4 r hr, sR_A, if_neg (by decide)]; exact r6 r hr
      · rw [q5 i hi, sR_A, if_neg (by decide)]; exact r14 i hi
      · rw [q6 i hi, e15]
    | true =>
      have hFg : Fg kp nw ln wd k x w Q.1 = gm kp nw ln wd k (x * nw + w) Q.1 := by unfold Fg; rw [hk, hst]; rfl
      rw [hFg] at hgf
      obtain ⟨tc, st3, c1, c2, c3, c4, c5, c6, c7⟩ := hC d (x * nw + w) Q.1 (sR s86 16 g) (by omega) hst hF91 (Ax_sR (by decide) hA86) (fun c hc => by rw [sR_A, if_pos rfl]; exact t2 hst c hc) hG86 (by omega)
      have hlen2 := gm_len (kp := kp) (nw := nw) (ln := ln) (wd := wd) k (x * nw + w) Q.1
      obtain ⟨t, st2, q1, q2, q3, q4, q5, q6, q7⟩ := ih (w + 1) st3 (by omega) c3 (fun r hr => by
        rw [c4 r (by omega), sR_A, if_neg (by decide), r6 r hr]; exact hA r hr) (by rw [c5 d (by omega), sR_A, if_neg (by decide)]; exact r14d) (by
        rw [hgf, c6 d (by omega), e15, h15]
        cases (gm kp nw ln wd k (x * nw + w) Q.1).2 with
        | false => rw [if_neg (by simp), Bool.or_false]
        | true => rw [if_pos ⟨rfl, rfl⟩, Bool.or_true]; rfl) (by rw [hgf]; exact c7) (by
        rw [hgf]
        show (gm kp nw ln wd k (x * nw + w) Q.1).1.2.2.2.length + j * KB nw k + 1 ≤ 2000
        omega)
      refine ⟨t + tc + 1, st2, by omega, fun n => ?_, q3, fun r hr => ?_, fun i hi => ?_, fun i hi => ?_, q7⟩
      · rw [← Nat.add_assoc, ← Nat.add_assoc, step, hst, bi_t, if_neg (by decide), c2, q2 n]
      · rw [q4 r hr, c4 r (by omega), sR_A, if_neg (by decide)]; exact r6 r hr
      · rw [q5 i hi, c5 i (by omega), sR_A, if_neg (by decide)]; exact r14 i hi
      · rw [q6 i hi, c6 i (by omega), if_neg (show ¬ (i = d ∧ _) by omega), e15]
theorem child_0 {kp : Bool} {nw ln : Nat} {wd : Nat → Nat → Nat} {m : St} (hW : WL nw ln wd) (hM : ML nw ln wd m) : Child kp nw ln wd m 0 := by
  have hl := hW.2.1
  intro d y s st hd hs hF hA h16 hG hlen
  obtain ⟨g1, g2, g3, g4, g5, g6⟩ := hG
  have hln : (sI st 9 (nI (s.1 + 1))).1 0 = nI ln := (hF.1.ml hM).2.1
  refine ⟨0, sA (sI st 9 (nI (s.1 + 1))) 15 d 1, Nat.le_refl _, fun n => ?_, (hF.tr (sI_Fs (by decide))).tr (sA_Fs (by decide)), fun r hr => rfl, fun i hi => rfl, fun i hi => ?_, rfl, g2, g3, g4, g5, g6⟩
  · rw [f_X8_visit, lt, g1, nI_1, hln, if_pos (by rw [show d + 1 = ln by omega]), nI_pred, ite_in (show d < 5 by omega) (by decide), nI_clamp (by omega), lt]
    rfl
  · rw [sA_A, if_pos rfl, upd_at, gm]
    by_cases e : i = d
    · rw [if_pos e, if_pos ⟨e, rfl⟩]
    · rw [if_neg e, if_neg (fun q => e q.1)]; rfl
theorem child_s {kp : Bool} {nw ln : Nat} {wd : Nat → Nat → Nat} {m : St} (hW : WL nw ln wd) (hM : ML nw ln wd m) {k : Nat} (hP : Walk kp nw ln wd m k) : Child kp nw ln wd m (k + 1) := by
  have hl := hW.2.1
  intro d y s st hd hs hF hA h16 hG hlen
  have hk1 : ln - (k + 1) = d + 1 := by omega
  have hG0 := hG
  obtain ⟨g1, g2, g3, g4, g5, g6⟩ := hG
  have hF7 : Fs m (sI st 9 (nI (s.1 + 1))) := hF.tr (sI_Fs (by decide))
  have hln : (sI st 9 (nI (s.1 + 1))).1 0 = nI ln := (hF.1.ml hM).2.1
  have hgood := key_good hW (show d + 1 < ln by omega) hs
  have hkey := key_m (m := sI st 9 (nI (s.1 + 1))) hW (hF7.1.ml hM) (show d + 1 < ln by omega) hs h16
  have hkept := kept_m (m := sI st 9 (nI (s.1 + 1))) (ks := s.2.2.2) hl g4 (by omega) g5 g6 hgood
  have hne : ¬ (nI (d + 1) = nI ln) := by rw [nI_eq_iff (by omega) (by omega)]; omega
  rw [KB] at hlen
  by_cases hc : kp = true ∧ key nw ln wd (d + 1) y ∈ s.2.2.2
  · have hgm : gm kp nw ln wd (k + 1) y s = ((s.1 + 1, s.2.1, s.2.2.1 + 1, s.2.2.2), false) := by
      rw [gm, hk1, if_pos (by rw [hc.1, decide_eq_true hc.2]; rfl)]
    refine ⟨0, sI (sI st 9 (nI (s.1 + 1))) 11 (nI (s.2.2.1 + 1)), Nat.zero_le _, fun n => ?_, hF7.tr (sI_Fs (by decide)), fun r hr => rfl, fun i hi => rfl, fun i hi => ?_, ?_⟩
    · rw [f_X8_visit, lt, g1, nI_1, hln, if_neg hne, hc.1, bi_t, if_neg (by decide), hkey]
      simp only [Option.bind_some]
      rw [hkept]
      simp only [Option.bind_some]
      have g3' : (sI st 9 (nI (s.1 + 1))).1 11 = nI s.2.2.1 := g3
      rw [decide_eq_true hc.2, bi_t, if_neg (by decide), lt, g3', nI_1, nI_pred]
      rfl
    · rw [hgm, if_neg (by simp)]; rfl
    · rw [hgm]
      exact ⟨rfl, g2, rfl, g4, g5, g6⟩
  · have hgm : gm kp nw ln wd (k + 1) y s = gfin kp (key nw ln wd (d + 1) y) (gfold (Fg kp nw ln wd k y) nw (s.1 + 1, s.2)) := by
      rw [gm, hk1, if_neg]
      · rfl
      · intro q
        rw [Bool.and_eq_true, decide_eq_true_eq] at q
        exact hc q
    obtain ⟨t, st3, q1, q2, q3, q4, q5, q6, q7⟩ := hP (d + 1) y (s.1 + 1, s.2) (by omega) hs nw 0 (sA (sA (sI st 9 (nI (s.1 + 1))) 14 (d + 1) 0) 15 (d + 1) 0) (by omega) ((hF7.tr (sA_Fs (by decide))).tr (sA_Fs (by decide))) hA (by
      rw [sA_A, if_neg (by decide), sA_A, if_pos rfl, upd_at, if_pos rfl]; rfl) (by rw [sA_A, if_pos rfl, upd_at, if_pos rfl]; rfl) ⟨rfl, g2, g3, g4, g5, g6⟩ (by
      show s.2.2.2.length + nw * KB nw k + 1 ≤ 2000
      omega)
    refine ⟨t, st3, q1, fun n => ?_, q3, fun r hr => ?_, fun i hi => ?_, fun i hi => ?_, by rw [hgm]; exact q7⟩
    · have hv : f_X8_visit st (nI (d + 1)) (bi kp) = some (nI (d + 1), sA (sA (sI st 9 (nI (s.1 + 1))) 14 (d + 1) 0) 15 (d + 1) 0) := by
        have hj : f_X8_visit_J61 (sI st 9 (nI (s.1 + 1))) (nI (d + 1)) = some (nI (d + 1), sA (sA (sI st 9 (nI (s.1 + 1))) 14 (d + 1) 0) 15 (d + 1) 0) := by
          rw [f_X8_visit_J61, ite_in (show d + 1 < 5 by omega) (by decide), nI_clamp (by omega), lt, ite_in (show d + 1 < 5 by omega) (by decide), lt]
        rw [f_X8_visit, lt, g1, nI_1, hln, if_neg hne]
        cases hkp : kp with
        | false => rw [bi_f, if_pos rfl, hj]
        | true =>
          have hnm : key nw ln wd (d + 1) y ∉ s.2.2.2 := fun q => hc ⟨hkp, q⟩
          rw [bi_t, if_neg (by decide), hkey]
          simp only [Option.bind_some]
          rw [hkept]
          simp only [Option.bind_some]
          rw [decide_eq_false hnm, bi_f, if_pos rfl, hj]
      rw [hv]
      simp only [Option.bind_some]
      rw [q2 n, pk_m1]
    · rw [q4 r hr]; rfl
    · rw [q5 i hi, sA_A, if_neg (by decide), sA_A, if_pos rfl, upd_at, if_neg (by omega)]; rfl
    · have hb : (gm kp nw ln wd (k + 1) y s).2 = (gfold (Fg kp nw ln wd k y) nw (s.1 + 1, s.2)).2 := by
        rw [hgm]
        unfold gfin
        cases h : (gfold (Fg kp nw ln wd k y) nw (s.1 + 1, s.2)).2 with
        | true => rw [if_pos rfl, h]
        | false => rw [if_neg (by decide)]
      have e15 : (sA (sA (sI st 9 (nI (s.1 + 1))) 14 (d + 1) 0) 15 (d + 1) 0).2.1 15 i = st.2.1 15 i := by
        rw [sA_A, if_pos rfl, upd_at, if_neg (by omega)]; rfl
      rw [q6 i hi, hb, e15]
      by_cases e : i = d
      · subst e
        simp
      · rw [if_neg (by omega), if_neg (by omega)]
theorem child_all {kp : Bool} {nw ln : Nat} {wd : Nat → Nat → Nat} {m : St} (hW : WL nw ln wd) (hM : ML nw ln wd m) (h0 : 0 < nw) : ∀ k, Child kp nw ln wd m k
  | 0 => child_0 hW hM
  | k + 1 => child_s hW hM (walk_of hW hM h0 (child_all hW hM h0 k))
theorem TB_le : ∀ nw, nw ≤ 12 → ∀ k, k ≤ 4 → TB nw k ≤ 24505 := by decide
theorem KB_le : ∀ nw, nw ≤ 12 → ∀ k, k ≤ 4 → KB nw k ≤ 1885 := by decide
theorem st_root {nw ln : Nat} {wd : Nat → Nat → Nat} (h0 : 0 < nw) : isSt nw ln wd 0 0 = true := al_iff.mpr (fun c _ => by
  have : hd nw wd 0 0 c = 0 := fs_eq h0 rfl (fun i hi => by omega)
  rw [this]
  exact decide_eq_true h0)
theorem goes_m {kp : Bool} {nw ln : Nat} {wd : Nat → Nat → Nat} {m : St} (hW : WL nw ln wd) (hM : ML nw ln wd m) (h0 : 0 < nw) : ∃ m2, f_X8_goes m (bi kp) = some m2 ∧ Fs m m2 ∧ GS ln (gm kp nw ln wd ln 0 (0, 0, 0, [])).1 m2 := by
  have hn := hW.1
  have hl := hW.2.1
  have hl2 := hW.2.2.2.1 h0
  obtain ⟨k, hk⟩ : ∃ k, ln = k + 1 := ⟨ln - 1, by omega⟩
  have hP := walk_of hW hM h0 (child_all (kp := kp) hW hM h0 k)
  have ht := TB_le nw hn (k + 1) (by omega)
  have hkb := KB_le nw hn (k + 1) (by omega)
  rw [KB] at hkb
  rw [TB] at ht
  obtain ⟨t, st2, q1, q2, q3, q4, q5, q6, q7⟩ := hP 0 0 (1, 0, 0, []) (by omega) (st_root h0) nw 0 (sA (sA (sI (sI (sI (sI m 9 1) 10 0) 11 0) 12 0) 14 0 0) 15 0 0) (by omega) ((((((sI_Fs (m := m) (by decide)).tr (sI_Fs (by decide))).tr (sI_Fs (by decide))).tr (sI_Fs (by decide))).tr (sA_Fs (by decide))).tr (sA_Fs (by decide))) (fun r hr => by omega) rfl rfl ⟨rfl, rfl, rfl, rfl, fun i hi => by simp [gfold] at hi, fun l hl => by simp [gfold] at hl⟩ (by
    show 0 + nw * KB nw k + 1 ≤ 2000
    omega)
  have hgm : gm kp nw ln wd ln 0 (0, 0, 0, []) = gfin kp (key nw ln wd 0 0) (gfold (Fg kp nw ln wd k 0) nw (1, 0, 0, [])) := by
    have e0 : ∀ j, j = k + 1 → gm kp nw ln wd j 0 (0, 0, 0, []) = gfin kp (key nw ln wd (ln - (k + 1)) 0) (gfold (Fg kp nw ln wd k 0) nw (1, 0, 0, [])) := by
      rintro j rfl
      rw [gm, if_neg (by simp)]
      rfl
    rw [e0 ln hk, show ln - (k + 1) = 0 by omega]
  refine ⟨st2, ?_, q3, by rw [hgm]; exact q7⟩
  obtain ⟨n, hn'⟩ : ∃ n, FU = (n + 1) + t := ⟨FU - t - 1, by have := FU_big; omega⟩
  have q2' := q2 (n + 1)
  rw [f_X8_goes_L36, if_pos (by decide)] at q2'
  rw [f_X8_goes]
  simp only [lt]
  rw [if_pos (by decide), if_pos (by decide), hn']
  exact q2'
end
