section
/-! the plain search of the class -/
theorem isSt_up {nw ln : Nat} {wd : Nat → Nat → Nat} {d y : Nat} (h0 : 0 < nw) (h : isSt nw ln wd (d + 1) y = true) : isSt nw ln wd d (y / nw) = true := al_iff.mpr (fun c hc => by
  have h1 : hd nw wd (d + 1) y c < nw := by have := al_iff.mp h c hc; simpa using this
  have h2 := hd_col h1
  have hm : y % nw < nw := Nat.mod_lt _ h0
  have hy : y / nw * nw + y % nw = y := by rw [Nat.mul_comm]; exact Nat.div_add_mod y nw
  have h5 : hd nw wd d (y / nw) c < nw := fs_lt_iff.mpr ⟨_, h1, al_iff.mpr (fun r hr => by
    have h3 := h2 r (by omega)
    have h4 := dg_ext (d := d) (x := y / nw) hm (show r ≤ d by omega)
    rw [hy, if_pos hr] at h4
    rw [← h4, h3]
    simp)⟩
  simpa using h5)
theorem isSt_par {nw ln : Nat} {wd : Nat → Nat → Nat} {d : Nat} (h0 : 0 < nw) : ∀ {k y : Nat}, isSt nw ln wd (d + k) y = true → isSt nw ln wd d (y / nw ^ k) = true
  | 0, y, h => by rw [Nat.pow_zero, Nat.div_one]; exact h
  | k + 1, y, h => by
    have h1 := isSt_par (k := k) h0 (isSt_up h0 h)
    rw [Nat.div_div_eq_div_mul, ← Nat.pow_succ'] at h1
    exact h1
theorem EX_skip1 {nw ln : Nat} {wd : Nat → Nat → Nat} {n : Nat} {c : St} (hE : EX nw ln wd n c) (hp : P0 nw ln wd n = false) : EX nw ln wd (n + 1) c := by
  have hk : ∀ k, PK nw ln wd k n = false := fun k => by
    rw [← Bool.not_eq_true]
    intro q
    rw [PK_P0 q] at hp
    cases hp
  obtain ⟨e0, e1, e2, e3, e4⟩ := hE
  refine ⟨SQ_skip e0 (hk 0), SQ_skip e1 (hk 1), SQ_skip e2 (hk 2), fun w hw => ?_, e4⟩
  have hp1 : P1 nw ln wd n = false := by unfold P1; rw [hp]; rfl
  rw [inR_s, inC_s, inS_s, hp, hp1]
  exact e3 w hw
theorem EX_skip {nw ln : Nat} {wd : Nat → Nat → Nat} {n : Nat} {c : St} : ∀ {j : Nat}, EX nw ln wd n c → (∀ y, n ≤ y → y < n + j → P0 nw ln wd y = false) → EX nw ln wd (n + j) c
  | 0, h, _ => h
  | j + 1, h, g => EX_skip1 (EX_skip h (fun y a b => g y a (by omega))) (g (n + j) (by omega) (by omega))
theorem EX_sI {nw ln : Nat} {wd : Nat → Nat → Nat} {n : Nat} {c : St} {q : Nat} {v : Int32} (hq : q = 7 ∨ q = 8) (h : EX nw ln wd n c) : EX nw ln wd n (sI c q v) := by
  rcases hq with rfl | rfl
  · exact h
  · exact h
def eV (nw ln : Nat) (wd : Nat → Nat → Nat) (k d x w : Nat) : Nat := if isSt nw ln wd (d + 1) (x * nw + w) then vis nw ln wd k (x * nw + w) else 0
def eD (nw ln : Nat) (wd : Nat → Nat → Nat) (k d x w : Nat) : Nat := if isSt nw ln wd (d + 1) (x * nw + w) then ded nw ln wd k (x * nw + w) else 0
def eB (nw ln : Nat) (wd : Nat → Nat → Nat) (k d x w : Nat) : Bool := isSt nw ln wd (d + 1) (x * nw + w) && fnd nw ln wd k (x * nw + w)
theorem vis_s {nw ln : Nat} {wd : Nat → Nat → Nat} {k d x : Nat} (h : d + (k + 1) = ln) : vis nw ln wd (k + 1) x = 1 + sm (eV nw ln wd k d x) nw := by
  show 1 + sm (fun w => if isSt nw ln wd (ln - k) (x * nw + w) then vis nw ln wd k (x * nw + w) else 0) nw = _
  rw [show ln - k = d + 1 by omega]
  rfl
theorem fnd_s {nw ln : Nat} {wd : Nat → Nat → Nat} {k d x : Nat} (h : d + (k + 1) = ln) : fnd nw ln wd (k + 1) x = an (eB nw ln wd k d x) nw := by
  show an (fun w => isSt nw ln wd (ln - k) (x * nw + w) && fnd nw ln wd k (x * nw + w)) nw = _
  rw [show ln - k = d + 1 by omega]
  rfl
theorem ded_s {nw ln : Nat} {wd : Nat → Nat → Nat} {k d x : Nat} (h : d + (k + 1) = ln) : ded nw ln wd (k + 1) x = (if fnd nw ln wd (k + 1) x then 0 else 1) + sm (eD nw ln wd k d x) nw := by
  show (if fnd nw ln wd (k + 1) x then 0 else 1) + sm (fun w => if isSt nw ln wd (ln - k) (x * nw + w) then ded nw ln wd k (x * nw + w) else 0) nw = _
  rw [show ln - k = d + 1 by omega]
  rfl
theorem pk_row {nw d x w : Nat} (hn : nw ≤ 12) (hd : d ≤ 3) (hw : w < nw) : (nI (pkd d (dg nw d x)) <<< (4 &&& 31)) ||| nI w = nI (pkd (d + 1) (dg nw (d + 1) (x * nw + w))) := by
  have pd : pkd d (dg nw d x) < 2 ^ 12 := by
    have h1 := nb_lt (B := 16) (n := d) (f := dg nw d x) (fun i hi => by have h : dg nw d x i < nw := dg_lt (by omega); omega)
    have h2 : 16 ^ d ≤ 16 ^ 3 := Nat.pow_le_pow_right (by decide) hd
    rw [pkd_nb]
    have h3 : (16 : Nat) ^ 3 = 4096 := by decide
    omega
  have e7 : pkd d (dg nw (d + 1) (x * nw + w)) = pkd d (dg nw d x) := by
    rw [pkd_nb, pkd_nb]
    exact nb_congr (fun i hi => by rw [dg_ext hw (by omega), if_pos hi])
  rw [shl4 pd (by omega), pkd, e7, dg_ext hw (Nat.le_refl _), if_neg (Nat.lt_irrefl _)]
theorem expl_c {nw ln : Nat} {wd : Nat → Nat → Nat} (hW : WL nw ln wd) (h0 : 0 < nw) : ∀ (k d x D : Nat) (c : St), d + k = ln → x < nw ^ d → isSt nw ln wd d x = true → CL nw ln wd c → TT nw ln wd ln c → EX nw ln wd (x * nw ^ k) c → k < D → ∃ c', f_X2_explore D c (nI d) (nI (pkd d (dg nw d x))) (nI (pkd ln (hd nw wd d x))) = some (bi (fnd nw ln wd k x), c') ∧ EX nw ln wd ((x + 1) * nw ^ k) c' ∧ FE c c' ∧ c'.1 7 = c.1 7 + nI (vis nw ln wd k x) ∧ c'.1 8 = c.1 8 + nI (ded nw ln wd k x) := by
  have hn := hW.1
  have hl := hW.2.1
  intro k
  induction k with
  | zero =>
    intro d x D c hdk hx hs hC hT hE hD
    obtain ⟨D, rfl⟩ : ∃ D', D = D' + 1 := ⟨D - 1, by omega⟩
    have hdl : d = ln := by omega
    subst hdl
    have hF7 : FE c (sI c 7 (c.1 7 + 1)) := sI_FE (Or.inl rfl)
    have hC7 := hF7.cl hC
    rw [Nat.pow_zero, Nat.mul_one] at hE
    obtain ⟨c', a1, a2, a3, a4, a5⟩ := keep_c hW hC7 (show x < NN nw d by rw [NN_pos h0]; exact hx) hs (EX_sI (v := c.1 7 + 1) (Or.inl rfl) hE)
    refine ⟨c', ?_, by rw [Nat.pow_zero, Nat.mul_one]; exact a2, hF7.tr a3, ?_, ?_⟩
    · rw [f_X2_explore, lt, bind_s (len_c hC7), if_neg (by rw [nI_lt_iff (by omega) (by omega)]; omega), bind_s a1, f_X2_explore_J27]
      rfl
    · rw [a4, sI_I, if_pos rfl]; rfl
    · rw [a5, sI_I, if_neg (by decide)]
      exact (Int32.add_zero _).symm
  | succ k ih =>
    intro d x D c hdk hx hs hC hT hE hD
    obtain ⟨D, rfl⟩ : ∃ D', D = D' + 1 := ⟨D - 1, by omega⟩
    have hdl : d < ln := by omega
    have hF7 : FE c (sI c 7 (c.1 7 + 1)) := sI_FE (Or.inl rfl)
    have hC7 := hF7.cl hC
    have hT7 := hF7.tt hT
    obtain ⟨S, s1, s2, s3⟩ := next_c hW hC7 hT7 hdl hs
    have loop : ∀ (n w : Nat) (st : St), w ≤ nw → nw - w < n → FE c st → EX nw ln wd ((x * nw + w) * nw ^ k) st → st.1 7 = c.1 7 + nI (1 + sm (eV nw ln wd k d x) w) → st.1 8 = c.1 8 + nI (sm (eD nw ln wd k d x) w) → ∃ c', f_X2_explore_L46 (f_X2_explore D) n st (nI d) (nI (pkd d (dg nw d x))) (nI (pkd ln (hd nw wd d x))) (nI S) (bi (an (eB nw ln wd k d x) w)) (nI w) = some (bi (fnd nw ln wd (k + 1) x), c') ∧ EX nw ln wd ((x + 1) * nw ^ (k + 1)) c' ∧ FE c c' ∧ c'.1 7 = c.1 7 + nI (vis nw ln wd (k + 1) x) ∧ c'.1 8 = c.1 8 + nI (ded nw ln wd (k + 1) x) := by
      intro n
      induction n with
      | zero => intro w st _ h; omega
      | succ n ihn =>
        intro w st hw hnn hF hX h7 h8
        have hC2 := hF.cl hC
        have hT2 := hF.tt hT
        rw [f_X2_explore_L46, bind_s (siz_c hC2), ite_leN (by omega) (by omega)]
        by_cases e : nw ≤ w
        · have hwn : w = nw := by omega
          rw [hwn] at hX h7 h8
          have hX2 : EX nw ln wd ((x + 1) * nw ^ (k + 1)) st := by
            have e9 : (x * nw + nw) * nw ^ k = (x + 1) * nw ^ (k + 1) := by rw [Nat.pow_succ', ← Nat.mul_assoc, Nat.add_mul x 1 nw, Nat.one_mul]
            rw [← e9]; exact hX
          rw [if_pos e, hwn, ← fnd_s hdk]
          cases g : fnd nw ln wd (k + 1) x with
          | false =>
            rw [bi_f, if_pos rfl, lt, f_X2_explore_J119, if_pos (Or.inl rfl)]
            refine ⟨_, rfl, EX_sI (Or.inr rfl) hX2, hF.tr (sI_FE (Or.inr (Or.inl rfl))), ?_, ?_⟩
            · rw [sI_I, if_neg (by decide), h7, vis_s hdk]
            · rw [sI_I, if_pos rfl, h8, ded_s hdk, g, if_neg (by decide), Int32.add_assoc, nI_1, Nat.add_comm 1]
          | true =>
            rw [bi_t, if_neg (by decide), f_X2_explore_J119, if_pos (Or.inr rfl)]
            refine ⟨_, rfl, hX2, hF, ?_, ?_⟩
            · rw [h7, vis_s hdk]
            · rw [h8, ded_s hdk, g, if_pos rfl, Nat.zero_add]
        · have hwn : w < nw := by omega
          have hb := s3 w hwn
          rw [if_neg e, bit_nI (by omega) (by omega), hb]
          cases g : isSt nw ln wd (d + 1) (x * nw + w) with
          | false =>
            have hX3 : EX nw ln wd ((x * nw + (w + 1)) * nw ^ k) st := by
              have e5 : (x * nw + (w + 1)) * nw ^ k = (x * nw + w) * nw ^ k + nw ^ k := by rw [← Nat.add_assoc, Nat.add_mul _ 1, Nat.one_mul]
              rw [e5]
              refine EX_skip hX (fun y hy1 hy2 => ?_)
              have e6 : y / nw ^ k = x * nw + w := Nat.div_eq_of_lt_le hy1 (by rw [Nat.add_mul _ 1, Nat.one_mul]; exact hy2)
              rw [← Bool.not_eq_true]
              intro q
              have q2 : isSt nw ln wd (d + 1 + k) y = true := by rw [show d + 1 + k = ln by omega]; exact q
              have q3 := isSt_par h0 q2
              rw [e6, g] at q3
              cases q3
            have q := ihn (w + 1) st (by omega) (by omega) hF hX3 (by rw [h7, sm, eV, g]; rfl) (by rw [h8, sm, eD, g]; rfl)
            rw [an, eB, g, Bool.false_and, Bool.or_false] at q
            rw [if_neg (show ¬ (false = true) by decide), nI_0, if_pos rfl, f_X2_explore_J98, lt, nI_1]
            exact q
          | true =>
            have hy : x * nw + w < nw ^ (d + 1) := by
              have h9 : (x + 1) * nw ≤ nw ^ d * nw := Nat.mul_le_mul_right nw hx
              rw [Nat.pow_succ]
              rw [Nat.add_mul] at h9
              omega
            obtain ⟨c2, a1, a2, a3, a4, a5⟩ := ih (d + 1) (x * nw + w) D st (by omega) hy g hC2 hT2 hX (by omega)
            have q := ihn (w + 1) c2 (by omega) (by omega) (hF.tr a3) a2 (by rw [a4, h7, Int32.add_assoc, nI_add, sm, eV, g, if_pos rfl, Nat.add_assoc]) (by rw [a5, h8, Int32.add_assoc, nI_add, sm, eD, g, if_pos rfl])
            rw [if_pos rfl, ← n1, if_neg (by decide), bind_s (heads_c hW hC2 hT2 hdl hs hwn g), nI_1, pk_row hn (by omega) hwn, bind_s a1, f_X2_explore_J92]
            cases g2 : fnd nw ln wd k (x * nw + w) with
            | false =>
              rw [an, eB, g, g2, Bool.and_false, Bool.or_false] at q
              rw [bi_f, if_pos rfl, f_X2_explore_J98, lt, nI_1]
              exact q
            | true =>
              rw [an, eB, g, g2, Bool.and_true, Bool.or_true, bi_t] at q
              rw [bi_t, if_neg (show ¬ ((1 : Int32) = 0) by decide), f_X2_explore_J98, lt, nI_1]
              exact q
    have h9 := loop FU 0 (sI c 7 (c.1 7 + 1)) (by omega) (by have := FU_big; omega) hF7 (by
      have e9 : (x * nw + 0) * nw ^ k = x * nw ^ (k + 1) := by rw [Nat.pow_succ', ← Nat.mul_assoc, Nat.add_zero]
      rw [e9]; exact EX_sI (Or.inl rfl) hE) (by rw [sI_I, if_pos rfl]; rfl) (by rw [sI_I, if_neg (by decide)]; exact (Int32.add_zero _).symm)
    rw [show an (eB nw ln wd k d x) 0 = false from rfl, bi_f, nI_0] at h9
    rw [f_X2_explore, lt, bind_s (len_c hC7), if_pos (by rw [nI_lt_iff (by omega) (by omega)]; exact hdl), bind_s s2]
    exact h9
end
