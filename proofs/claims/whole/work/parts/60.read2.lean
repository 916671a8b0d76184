section
/-! the reference's step; both read alike -/
theorem tk_comma {tl : Nat} {tx : Nat → Nat} {st : St} {p j a L : Nat} (h : TXI tl tx p j a L) (hM : TM tx j a L st) (hx : tx p = 44) : (cmm j a L → ∃ st', f_X8_takes st (nI (tx p)) = some (1, st') ∧ Fs st st' ∧ TM tx (j + 1) 0 a st') ∧ (¬ cmm j a L → f_X8_takes st (nI (tx p)) = some (0, st)) := by
  obtain ⟨h1, h2, h3, h4, h5, h6, h7, h8, h9⟩ := h
  obtain ⟨m5, m6, m7, mA⟩ := hM
  have hL4 : L ≤ 4 := by
    rcases Nat.eq_zero_or_pos j with q | q
    · rw [h4 q]; omega
    · exact (h5 q).2
  have ha : a ≤ 4 := by split at h6 <;> omega
  have e0 : f_X8_takesComma st = f_X8_takesComma_J39 st (bi (decide (if L = 0 then 2 ≤ a else a = L))) := by
    rw [f_X8_takesComma, m7, m6]
    by_cases e : L = 0
    · rw [e, if_pos nI_0, show (2 : Int32) = nI 2 from rfl, ite_ltN (by omega) (by omega)]
      by_cases e2 : a < 2
      · rw [if_pos e2, decide_eq_false (by rw [if_pos rfl]; omega)]; rfl
      · rw [if_neg e2, decide_eq_true (by rw [if_pos rfl]; omega)]; rfl
    · rw [if_neg (by rw [← nI_0, nI_eq_iff (by omega) (by omega)]; exact e), ite_eqN (by omega) (by omega)]
      by_cases e2 : a = L
      · rw [if_pos e2, decide_eq_true (by rw [if_neg e]; exact e2)]; rfl
      · rw [if_neg e2, decide_eq_false (by rw [if_neg e]; exact e2)]; rfl
  have e1 : (nI j + 1 = 12) = (j = 11) := by
    rw [nI_1, show (12 : Int32) = nI 12 from rfl, nI_eq_iff (by omega) (by omega)]
    exact propext ⟨fun g => by omega, fun g => by omega⟩
  rw [hx, f_X8_takes, show (44 : Int32) = nI 44 from rfl, if_pos rfl, e0, f_X8_takesComma_J39, m5, m6]
  unfold cmm
  constructor
  · rintro ⟨g1, g2⟩
    have e5 : (sI st 7 (nI a)).1 5 = nI j := by rw [sI_I, if_neg (by decide)]; exact m5
    rw [decide_eq_true g1, bi_t, if_neg (by decide), if_neg (by rw [e1]; exact g2), lt, e5, nI_1, lt, lt, bind_s rfl, if_pos (Or.inr rfl)]
    refine ⟨_, rfl, ((sI_Fs (by decide)).tr (sI_Fs (by decide))).tr (sI_Fs (by decide)), ?_, ?_, ?_, fun k i hk => ?_⟩
    · rw [sI_I, if_neg (by decide), sI_I, if_pos rfl]
    · rw [sI_I, if_pos rfl]; exact nI_0.symm
    · rw [sI_I, if_neg (by decide), sI_I, if_neg (by decide), sI_I, if_pos rfl]
    · have hk2 : k ≤ j ∧ i < a := by omega
      by_cases e : L = 0
      · have hj0 : j = 0 := by
          rcases Nat.eq_zero_or_pos j with q | q
          · exact q
          · have := h5 q; omega
        have q := mA 0 i (Or.inr ⟨hj0.symm, hk2.2⟩)
        rw [Nat.zero_mul] at q
        rw [show k = 0 by omega, Nat.zero_mul]
        exact q
      · rw [if_neg e] at g1
        rw [g1]
        exact mA k i (by omega)
  · intro g
    by_cases g1 : if L = 0 then 2 ≤ a else a = L
    · have g2 : j = 11 := by
        rcases Nat.lt_or_ge j 11 with q | q
        · exact absurd ⟨g1, by omega⟩ g
        · omega
      rw [decide_eq_true g1, bi_t, if_neg (by decide), if_pos (by rw [e1]; exact g2), f_X8_takesComma_J55, bind_s rfl, if_pos (Or.inl rfl)]
    · rw [decide_eq_false g1, bi_f, if_pos rfl, f_X8_takesComma_J55, bind_s rfl, if_pos (Or.inl rfl)]
theorem wi_m {x : Nat} (hx : x ≤ 126) : f_X8_within (nI x) 97 122 = some (bi (decide (97 ≤ x ∧ x ≤ 122))) := by
  by_cases e : 97 ≤ x ∧ x ≤ 122
  · rw [decide_eq_true e, within_t]
    · rfl
    · rw [show (97 : Int32) = nI 97 from rfl, nI_lt_iff (by omega) (by omega)]; omega
    · rw [show (122 : Int32) = nI 122 from rfl, nI_lt_iff (by omega) (by omega)]; omega
  · rw [decide_eq_false e, within_f]
    · rfl
    · rw [show (97 : Int32) = nI 97 from rfl, show (122 : Int32) = nI 122 from rfl, nI_lt_iff (by omega) (by omega), nI_lt_iff (by omega) (by omega)]; omega
theorem tk_letter {tl : Nat} {tx : Nat → Nat} {st : St} {p j a L : Nat} (h : TXI tl tx p j a L) (hM : TM tx j a L st) (hx : tx p ≠ 44) (hxb : tx p ≤ 126) : (ltr tx p j a L → ∃ st', f_X8_takes st (nI (tx p)) = some (1, st') ∧ Fs st st' ∧ TM tx j (a + 1) L st') ∧ (¬ ltr tx p j a L → ∃ st', f_X8_takes st (nI (tx p)) = some (0, st') ∧ Fs st st') := by
  obtain ⟨h1, h2, h3, h4, h5, h6, h7, h8, h9⟩ := h
  obtain ⟨m5, m6, m7, mA⟩ := hM
  have hL4 : L ≤ 4 := by
    rcases Nat.eq_zero_or_pos j with q | q
    · rw [h4 q]; omega
    · exact (h5 q).2
  have ha : a ≤ 4 := by split at h6 <;> omega
  have e41 : ∀ B : Nat, B = (if L = 0 then 4 else L) → (97 ≤ tx p ∧ tx p ≤ 122) → (ltr tx p j a L → ∃ st', f_X8_takes_J41 st (nI (tx p)) (nI B) (nI a) = some (1, st') ∧ Fs st st' ∧ TM tx j (a + 1) L st') ∧ (¬ ltr tx p j a L → ∃ st', f_X8_takes_J41 st (nI (tx p)) (nI B) (nI a) = some (0, st') ∧ Fs st st') := by
    intro B hB hl
    have hB4 : B ≤ 4 := by rw [hB]; split <;> omega
    rw [← hB] at h6
    rw [f_X8_takes_J41, ite_eqN (by omega) (by omega)]
    unfold ltr
    rw [← hB]
    by_cases e : a = B
    · rw [if_pos e, f_X8_takes_J44]
      exact ⟨fun q => by omega, fun _ => ⟨st, rfl, Fs.rf⟩⟩
    · have hF : Fs st (sI (sA st 5 (4 * j + a) (nI (tx p))) 6 (nI (a + 1))) := (sA_Fs (by decide)).tr (sI_Fs (by decide))
      have hTM : TM tx j (a + 1) L (sI (sA st 5 (4 * j + a) (nI (tx p))) 6 (nI (a + 1))) := by
        refine ⟨?_, ?_, ?_, fun k i hk => ?_⟩
        · rw [sI_I, if_neg (by decide), sA_I]; exact m5
        · rw [sI_I, if_pos rfl]
        · rw [sI_I, if_neg (by decide), sA_I]; exact m7
        · rw [sI_A, sA_A, if_pos rfl, upd_at]
          by_cases e2 : k = j ∧ i = a
          · rw [if_pos (by omega), e2.1, e2.2, ← h2]
          · rw [if_neg (by omega)]
            exact mA k i (by omega)
      have e7 : (sI (sA st 5 (4 * j + a) (nI (tx p))) 6 (nI (a + 1))).1 7 = nI L := hTM.2.2.1
      have e6 : (sI (sA st 5 (4 * j + a) (nI (tx p))) 6 (nI (a + 1))).1 6 = nI (a + 1) := hTM.2.1
      rw [if_neg e, m5, m6, n4, pk_mul, nI_add, ite_in (show 4 * j + a < 48 by omega) (by decide), nI_clamp (by omega), lt, sA_I, m6, nI_1, lt, e7, e6]
      by_cases e0 : L = 0
      · rw [if_pos (by rw [e0]; exact nI_0), f_X8_takes_J98]
        exact ⟨fun _ => ⟨_, rfl, hF, hTM⟩, fun q => absurd ⟨hl, by omega, fun q2 => by omega⟩ q⟩
      · rw [if_neg (by rw [← nI_0, nI_eq_iff (by omega) (by omega)]; exact e0), ite_ltN (by omega) (by omega)]
        rw [if_neg e0] at hB
        by_cases e2 : a + 1 < L
        · rw [if_pos e2, f_X8_takes_J98]
          exact ⟨fun _ => ⟨_, rfl, hF, hTM⟩, fun q => absurd ⟨hl, by omega, fun q2 => by omega⟩ q⟩
        · have e3 : a + 1 = L := by omega
          have hc := twice_m (tx := tx) (st := sI (sA st 5 (4 * j + a) (nI (tx p))) 6 (nI (a + 1))) h3 hL4 hTM.1 hTM.2.2.1 (fun k i hk hi => ⟨hTM.2.2.2 k i (by omega), by
            by_cases e4 : k = j ∧ i = a
            · rw [e4.1, e4.2, ← h2]; exact hxb
            · have := h7 k i (by omega)
              omega⟩)
          rw [if_neg e2, bind_s hc]
          cases g : tw tx L j with
          | false =>
            rw [bi_f, if_pos rfl, f_X8_takes_J98]
            exact ⟨fun _ => ⟨_, rfl, hF, hTM⟩, fun q => absurd ⟨hl, by omega, fun q2 => by cases q2.2⟩ q⟩
          | true =>
            rw [bi_t, if_neg (by decide)]
            exact ⟨fun q => absurd ⟨e3, rfl⟩ q.2.2, fun _ => ⟨_, rfl, hF⟩⟩
  rw [f_X8_takes, show (44 : Int32) = nI 44 from rfl, ite_eqN (by omega) (by omega), if_neg hx, bind_s (wi_m hxb), m7, m6]
  by_cases e : 97 ≤ tx p ∧ tx p ≤ 122
  · rw [decide_eq_true e, bi_t, if_neg (by decide)]
    by_cases e0 : L = 0
    · have q := e41 4 (by rw [if_pos e0]) e
      rw [if_pos (by rw [e0]; exact nI_0), show (4 : Int32) = nI 4 from rfl]
      exact q
    · have q := e41 L (by rw [if_neg e0]) e
      rw [if_neg (by rw [← nI_0, nI_eq_iff (by omega) (by omega)]; exact e0)]
      exact q
  · rw [decide_eq_false e, bi_f, if_pos rfl, f_X8_takes_J44]
    exact ⟨fun q => absurd q.1 e, fun _ => ⟨st, rfl, Fs.rf⟩⟩
theorem read_both {tl : Nat} {tx : Nat → Nat} {c m : St} (hT : RT tl tx c m) : ∃ r m2, f_X5_firstFault c = some (nI r) ∧ f_X8_read m = some (nI r, m2) ∧ Fs m m2 ∧ r ≤ tl ∧ (r = tl → ∃ j a L, TXI tl tx tl j a L ∧ TM tx j a L m2) := by
  have ht := hT.1
  have loop : ∀ (n p j a L : Nat) (st : St), tl - p < n → TXI tl tx p j a L → TM tx j a L st → Fs m st → ∃ r m2, f_X5_firstFault_L9 c n (nI L) (nI (j * (L + 1))) (nI (j + 1)) (nI p) = some (nI r) ∧ f_X8_read_L17 n st (nI p) = some (nI r, m2) ∧ Fs m m2 ∧ r ≤ tl ∧ (r = tl → ∃ j a L, TXI tl tx tl j a L ∧ TM tx j a L m2) := by
    intro n
    induction n with
    | zero => intro p j a L st h; omega
    | succ n ih =>
      intro p j a L st hn hI hM hF
      have hp := hI.1
      have m4 : st.1 4 = nI tl := by rw [hF.1.1 4 (by decide)]; exact hT.2.2.1
      by_cases e : tl ≤ p
      · have hpt : p = tl := by omega
        rw [f_X5_firstFault_L9, hT.2.1, ite_leN (by omega) (by omega), if_pos e, f_X8_read_L17, m4, ite_leN (by omega) (by omega), if_pos e, f_X8_read_J44, hpt]
        rw [hpt] at hI
        exact ⟨tl, st, rfl, rfl, hF, Nat.le_refl _, fun _ => ⟨j, a, L, hI, hM⟩⟩
      · have hp2 : p < tl := by omega
        obtain ⟨x1, x2, x3, x4⟩ := hT.2.2.2 p hp2
        have hs : st.2.1 4 p = nI (tx p) := by rw [hF.1.2 4 (by decide) (by decide)]; exact x4
        rw [f_X8_read_L17, m4, ite_leN (by omega) (by omega), if_neg e, ite_in (show p < 60 by omega) (by decide), nI_clamp (by omega), hs]
        by_cases hx : tx p = 44
        · have q1 := ff_comma (n := n) hT hI hp2 hx
          have q2 := tk_comma hI hM hx
          by_cases g : cmm j a L
          · obtain ⟨st', s1, s2, s3⟩ := q2.1 g
            have hI2 := TXI_comma hI hp2 hx g.1 g.2
            have e2 : (j + 1) * (a + 1) = p + 1 := hI2.2.1.symm
            have q := ih (p + 1) (j + 1) 0 a st' (by omega) hI2 s3 (hF.tr s2)
            rw [e2] at q
            rw [q1.1 g, bind_s s1, if_neg (show ¬ ((1 : Int32) = 0) by decide), lt, nI_1]
            exact q
          · rw [q1.2 g, bind_s (q2.2 g), if_pos rfl, f_X8_read_J44]
            exact ⟨p, st, rfl, rfl, hF, by omega, fun q => by omega⟩
        · have q1 := ff_letter (n := n) hT hI hp2 hx
          have q2 := tk_letter hI hM hx x2
          by_cases g : ltr tx p j a L
          · obtain ⟨st', s1, s2, s3⟩ := q2.1 g
            have q := ih (p + 1) j (a + 1) L st' (by omega) (TXI_letter hI hp2 g.1 g.2.1 g.2.2) s3 (hF.tr s2)
            rw [q1.1 g, bind_s s1, if_neg (show ¬ ((1 : Int32) = 0) by decide), lt, nI_1]
            exact q
          · obtain ⟨st', s1, s2⟩ := q2.2 g
            rw [q1.2 g, bind_s s1, if_pos rfl, f_X8_read_J44]
            exact ⟨p, st', rfl, rfl, hF.tr s2, by omega, fun q => by omega⟩
  have hF0 : Fs m (sI (sI (sI m 5 0) 6 0) 7 0) := ((sI_Fs (by decide)).tr (sI_Fs (by decide))).tr (sI_Fs (by decide))
  have h9 := loop FU 0 0 0 0 (sI (sI (sI m 5 0) 6 0) 7 0) (by have := FU_big; omega) ⟨by omega, by omega, by omega, fun _ => rfl, fun q => by omega, by rw [if_pos rfl]; omega, fun k i hk => by omega, fun k hk => by omega, fun k q hkq hq => by omega⟩ ⟨nI_0.symm, nI_0.symm, nI_0.symm, fun k i hk => by omega⟩ hF0
  rw [Nat.zero_mul, Nat.zero_add, nI_0, ← n1] at h9
  rw [f_X5_firstFault, f_X8_read, lt, lt, lt]
  exact h9
theorem op2 : Op_2 Rel := by
  rintro c m ⟨nw, ln, wd, wt, tl, tx, bd, hR⟩
  obtain ⟨r, m2, a1, a2, a3, a4, a5⟩ := read_both hR.2.1
  refine ⟨nI r, m2, ?_, ?_, ⟨nw, ln, wd, wt, tl, tx, bd, a3.1.rel hR⟩⟩
  · rw [f_X7_fault, bind_s a1]
  · rw [f_X8_fault, bind_s a2]
end
