section
/-! words -/
theorem wloop {nw tl : Nat} {tx : Nat → Nat} {j a : Nat} (hL : TL tl tx j a) (hN12 : nw + (j + 1) ≤ 12) : ∀ (n k : Nat) (f : Nat → Nat → Nat) (wt : Nat → Nat) (c m : St), k ≤ j + 1 → j + 1 - k < n → RT tl tx c m → RN c m → RP c → NL tx j a m → c.1 5 = nI (nw + k) → (0 < k → c.1 6 = nI a) → m.1 1 = nI (nw + k) → m.1 0 = nI a → (∀ w, w < nw + k → ∀ i, i < a → f w i < 26) → (∀ v w, v < w → w < nw + k → cd a (f v) < cd a (f w)) → (∀ w, w < nw + k → ∀ q, k ≤ q → q ≤ j → cd a (f w) ≠ cd a (gw tx a q)) → (∀ w, w < nw + k → c.2.1 12 w = nI (cd a (f w))) → (∀ w, w < nw + k → ∀ i, i < a → m.2.1 1 (4 * w + i) = nI (97 + f w i)) → RW (nw + k) wt c m → ∃ r c' m', f_X7_words_L90 n c (nI a) (nI (j + 1)) (nI k) = some (r, c') ∧ f_X8_words_L89 n m (nI (j + 1)) (nI k) = some (r, m') ∧ Rel c' m' := by
  obtain ⟨ha2, ha4, hj, -, -, -⟩ := id hL
  intro n
  induction n with
  | zero => intro k f wt c m _ h; omega
  | succ n ih =>
    intro k f wt c m hk hnn hT hN hP hNL h5 h6 h1 h0 hl hs hfr hc hm hRW
    rw [f_X7_words_L90, f_X8_words_L89, ite_leN (by omega) (by omega), ite_leN (by omega) (by omega)]
    by_cases e : j + 1 ≤ k
    · have hkj : k = j + 1 := by omega
      subst hkj
      obtain ⟨g, b1, b2⟩ := cb_m (m := m)
      have hW : WL (nw + (j + 1)) a f := ⟨hN12, ha4, fun q => by omega, fun _ => ha2, hl, hs⟩
      have hF : ∀ i, i ≠ 4 → i ≠ 2 → (sI (sI c 4 0) 2 (c.1 2 + 1)).1 i = c.1 i := fun i i4 i2 => by rw [sI_I, if_neg i2, sI_I, if_neg i4]
      have hG : ∀ i, i ≠ 4 → i ≠ 2 → (sI (sI (sR m 3 g) 2 (m.1 2 + 1)) 4 0).1 i = m.1 i := fun i i4 i2 => by rw [sI_I, if_neg i4, sI_I, if_neg i2, sR_I]
      have hG2 : ∀ i, i ≠ 3 → (sI (sI (sR m 3 g) 2 (m.1 2 + 1)) 4 0).2.1 i = m.2.1 i := fun i hi => by rw [sI_A, sI_A, sR_A, if_neg hi]
      obtain ⟨c', r1, r2, r3⟩ := renew_c (c := sI (sI c 4 0) 2 (c.1 2 + 1)) (m := sI (sI (sR m 3 g) 2 (m.1 2 + 1)) 4 0) (wt := wt) (tl := 0) (tx := tx) hW ⟨by omega, by rw [sI_I, if_neg (by decide), sI_I, if_pos rfl]; exact nI_0.symm, by rw [sI_I, if_pos rfl]; exact nI_0.symm, fun i hi => by omega⟩ ⟨by rw [hF 5 (by decide) (by decide)]; exact h5, by rw [hF 6 (by decide) (by decide)]; exact h6 (by omega), hc⟩ ⟨by rw [hG 1 (by decide) (by decide)]; exact h1, by rw [hG 0 (by decide) (by decide)]; exact h0, fun w hw i hi => by rw [hG2 1 (by decide)]; exact hm w hw i hi⟩ (fun w hw => by
          obtain ⟨p1, p2, p3, p4⟩ := hRW w hw
          exact ⟨p1, p2, p3, by rw [hG2 2 (by decide)]; exact p4⟩) ⟨by
          rw [sI_I, if_pos rfl, sI_I, if_neg (by decide), sI_I, if_pos rfl, hN.1], by rw [hF 3 (by decide) (by decide), hG 3 (by decide) (by decide)]; exact hN.2⟩ hP (fun r hr => by rw [sI_A, sI_A, sR_A, if_pos rfl]; exact b2 r hr)
      refine ⟨nI (j + 1), c', _, ?_, ?_, ⟨_, _, _, _, _, _, _, r2⟩⟩
      · have e2 : (sI c 4 0).1 2 = c.1 2 := by rw [sI_I, if_neg (by decide)]
        rw [if_pos e, f_X5_clear, lt, bind_s rfl, e2, lt, bind_s r1, f_X7_words_J139]
      · rw [if_pos e, bind_s b1, sR_I, lt, lt]
    · have hkj : k ≤ j := by omega
      obtain ⟨p, p1, p2, p3⟩ := pos_ex (g := gw tx a k) hs (fun w hw => hfr w hw k (Nat.le_refl _) hkj)
      have hg := gw_lt hL hkj
      obtain ⟨c1, d1, d2, d3, d4, d5, d6, d7⟩ := insert_c (N := nw + k) (a := a) (p := p) (G := cd a (gw tx a k)) (F := fun w => cd a (f w)) (c := c) (by omega) h5 (fun w hw => ⟨hc w hw, cd_lt ha4 (hl w hw)⟩) (cd_lt ha4 hg) p1 p2 p3
      obtain ⟨m1, s1, s2, s3, s4, s5, s6⟩ := comes_m (N := nw + k) (a := a) (p := p) (k := k) (f := f) (g := gw tx a k) (m := m) (by omega) ha4 (by omega) h1 h0 (fun w hw i hi => ⟨hl w hw i hi, hm w hw i hi⟩) (fun i hi => ⟨hg i hi, hNL k i hkj hi⟩) p1 p2 p3
      rw [if_neg e, if_neg e, bind_s (code_c hT hL hkj), bind_s d1, bind_s s1, lt, lt, nI_1]
      refine ih (k + 1) (ins f (gw tx a k) p) (ins wt 1 p) c1 m1 (by omega) (by omega) ⟨hT.1, by rw [d4 4 (by decide) (by decide)]; exact hT.2.1, by rw [s3 4 (by decide)]; exact hT.2.2.1, fun i hi => ?_⟩ ⟨by rw [d4 2 (by decide) (by decide), s3 2 (by decide)]; exact hN.1, by rw [d4 3 (by decide) (by decide), s3 3 (by decide)]; exact hN.2⟩ (fun q hq => by rw [d5]; exact hP q hq) (fun q i hq hi => by rw [s5 5 (by decide) (by decide)]; exact hNL q i hq hi) d2 (fun _ => d3) s2 (by rw [s3 0 (by decide)]; exact h0) ?_ ?_ ?_ (fun w hw => ?_) (fun w hw i hi => ?_) (fun w hw => ?_)
      · obtain ⟨q1, q2, q3, q4⟩ := hT.2.2.2 i hi
        exact ⟨q1, q2, by rw [d6 11 (by decide) (by decide)]; exact q3, by rw [s5 4 (by decide) (by decide)]; exact q4⟩
      · exact ins_all (P := fun (h : Nat → Nat) => ∀ i, i < a → h i < 26) p1 hl hg
      · exact ins_srt hs p1 p2 p3
      · exact ins_all (P := fun (h : Nat → Nat) => ∀ q, k + 1 ≤ q → q ≤ j → cd a h ≠ cd a (gw tx a q)) p1 (fun w hw q hq hq2 => hfr w hw q (by omega) hq2) (fun q hq hq2 => gw_ne hL (by omega) hq2)
      · rw [(d7 w hw).1]
        rcases Nat.lt_trichotomy w p with q | q | q
        · rw [ins_lt q, ins_lt q]; exact hc w (by omega)
        · rw [q, ins_eq, ins_eq]
        · rw [ins_gt q, ins_gt q]; exact hc (w - 1) (by omega)
      · rw [(s6 w hw).2 i (by omega)]
        rcases Nat.lt_trichotomy w p with q | q | q
        · rw [ins_lt q, ins_lt q]; exact hm w (by omega) i hi
        · rw [q, ins_eq, ins_eq]; exact hNL k i hkj hi
        · rw [ins_gt q, ins_gt q]; exact hm (w - 1) (by omega) i hi
      · rw [(d7 w hw).2, (s6 w hw).1]
        rcases Nat.lt_trichotomy w p with q | q | q
        · rw [ins_lt q, ins_lt q, ins_lt q]; exact hRW w (by omega)
        · rw [q, ins_eq, ins_eq, ins_eq]; exact ⟨by omega, by omega, rfl, rfl⟩
        · rw [ins_gt q, ins_gt q, ins_gt q]; exact hRW (w - 1) (by omega)
theorem j42_0 {m : St} : f_X8_words_J42 m 0 = some (-103, m) := by
  rw [f_X8_words_J42, lt, if_pos rfl, f_X8_words_J62]
theorem op3 : Op_3 Rel := by
  rintro c m ⟨nw, ln, wd, wt, tl, tx, bd, hR⟩
  obtain ⟨hW, hT, hC, hM, hRW, hB, hN, hF, hP, hH, hK⟩ := id hR
  obtain ⟨r, m2, a1, a2, a3, a4, a5⟩ := read_both hT
  have hR2 := a3.1.rel hR
  obtain ⟨-, hT2, -, hM2, hRW2, -, hN2, -, -, -, -⟩ := id hR2
  have ht := hT.1
  have hnw := hW.1
  have hln := hW.2.1
  have m4 : m2.1 4 = nI tl := hT2.2.2.1
  have hzn : ∀ x : Nat, x < 2 ^ 31 → (nI x = 0) = (x = 0) := fun x hx => by rw [← nI_0]; exact nI_eq_iff hx (by decide)
  have bad : f_X5_lengthOfWords c = some 0 → f_X8_words m = some (-103, m2) → ∃ (r : Int32) (c' : St) (m' : St), f_X7_words c = some (r, c') ∧ f_X8_words m = some (r, m') ∧ Rel c' m' := fun h1 h2 => ⟨-103, c, m2, by rw [f_X7_words, bind_s h1, if_pos rfl, f_X7_words_J23], h2, ⟨nw, ln, wd, wt, tl, tx, bd, hR2⟩⟩
  by_cases hr : r = tl
  · obtain ⟨j, a, L, hI, hTM⟩ := a5 hr
    rw [hr] at a1 a2
    obtain ⟨t5, t6, t7, tA⟩ := id hTM
    have hj := hI.2.2.1
    have hL4 : L ≤ 4 := by
      rcases Nat.eq_zero_or_pos j with q | q
      · rw [hI.2.2.2.1 q]; omega
      · exact (hI.2.2.2.2.1 q).2
    have ha : a ≤ 4 := by have h6 := hI.2.2.2.2.2.1; split at h6 <;> omega
    have hlen := lenw_c hT a1 hI
    by_cases ok : 2 ≤ a ∧ (L = 0 ∨ a = L)
    · rw [if_pos ok] at hlen
      have hL := TL_of hI ok.1 ok.2
      have hNL := NL_of hI hTM ok.2 hL
      have hw42 : f_X8_words m = f_X8_words_J42 m2 1 := by
        rw [f_X8_words, bind_s a2]
        dsimp only
        rw [m4, if_pos rfl, t6, show (2 : Int32) = nI 2 from rfl, ite_ltN (by omega) (by omega), if_neg (by omega), t7]
        by_cases e0 : L = 0
        · rw [if_pos (by rw [hzn L (by omega)]; exact e0), f_X8_words_J37]
        · rw [if_neg (by rw [hzn L (by omega)]; exact e0), if_pos (by rw [ok.2.resolve_left e0]), f_X8_words_J37]
      have hcl : ∀ b : Int32, f_X6_takesLength c (nI a) = some b → f_X7_words c = if b = 0 then some (-103, c) else f_X7_words_L37 FU c (nI a) (nI (j + 1)) 0 := fun b hb => by
        rw [f_X7_words, bind_s hlen, if_neg (by rw [hzn a (by omega)]; omega), bind_s hb]
        by_cases e : b = 0
        · rw [if_pos e, if_pos e, f_X7_words_J23]
        · rw [if_neg e, if_neg e, bind_s (numw_c hT hL)]
      rw [hw42, f_X8_words_J42, t5, nI_1, lt, if_neg (by decide), hM2.1]
      by_cases hn : nw = 0 ∨ a = ln
      · have htk : f_X6_takesLength c (nI a) = some 1 := by
          rw [f_X6_takesLength, hC.1, hC.2.1]
          by_cases e0 : nw = 0
          · rw [if_pos (by rw [hzn nw (by omega)]; exact e0), f_X6_takesLength_J15]
          · rw [if_neg (by rw [hzn nw (by omega)]; exact e0), if_pos (by rw [hn.resolve_left e0]), f_X6_takesLength_J15]
        have hck := chk_c hW hC hT hL hn
        rw [hcl 1 htk, if_neg (by decide), bind_s (new_y hW hM2 hL hNL t6 hn)]
        cases g : al (fun k => !hs nw wd a (gw tx a k)) (j + 1) with
        | false =>
          rw [hck.1 g, bi_f, if_pos rfl, f_X8_words_J62]
          exact ⟨-103, c, m2, rfl, rfl, ⟨nw, ln, wd, wt, tl, tx, bd, hR2⟩⟩
        | true =>
          rw [hck.2 g, bi_t, if_neg (show ¬ ((1 : Int32) = 0) by decide), nI_add, show (12 : Int32) = nI 12 from rfl, ite_leN (by omega) (by omega)]
          by_cases e12 : nw + (j + 1) ≤ 12
          · rw [if_pos e12, if_pos e12, t6, lt]
            have hal : ∀ w, w < nw → a = ln := fun w hw => hn.resolve_left (by omega)
            have q := wloop (nw := nw) hL e12 FU 0 wd wt c (sI m2 0 (nI a)) (by omega) (by have := FU_big; omega) hT2 hN2 hP hNL hC.1 (fun q => by omega) hM2.1 (by rw [sI_I, if_pos rfl]) (fun w hw i hi => hW.2.2.2.2.1 w hw i (by rw [← hal w hw]; exact hi)) (fun v w hvw hw => by rw [hal w hw]; exact hW.2.2.2.2.2 v w hvw hw) (fun w hw q _ hq e => by
              have g2 := al_iff.mp g q (by omega)
              have g3 : hs nw wd a (gw tx a q) = false := by simpa using g2
              have hw1 : w < nw := hw
              rw [cd_nb, cd_nb] at e
              have e2 := nb_inj (B := 32) (fun i hi => by
                have := hW.2.2.2.2.1 w hw1 i (by rw [← hal w hw1]; exact hi)
                omega) (fun i hi => by have := gw_lt hL hq i hi; omega) e
              have g4 : hs nw wd a (gw tx a q) = true := an_iff.mpr ⟨w, hw1, al_iff.mpr (fun i hi => by simp [e2 i hi])⟩
              rw [g3] at g4
              cases g4) (fun w hw => by rw [hal w hw]; exact hC.2.2 w hw) (fun w hw i hi => hM2.2.2 w hw i (by rw [← hal w hw]; exact hi)) hRW2
            rw [nI_0] at q
            exact q
          · rw [if_neg e12, if_neg e12]
            exact ⟨-104, c, m2, rfl, rfl, ⟨nw, ln, wd, wt, tl, tx, bd, hR2⟩⟩
      · have h0 : nw ≠ 0 := fun q => hn (Or.inl q)
        have h1 : a ≠ ln := fun q => hn (Or.inr q)
        have htk : f_X6_takesLength c (nI a) = some 0 := by
          rw [f_X6_takesLength, hC.1, hC.2.1, if_neg (by rw [hzn nw (by omega)]; exact h0), ite_eqN (by omega) (by omega), if_neg h1]
        rw [hcl 0 htk, if_pos rfl, bind_s (new_n hW hM2 hj ha t6 h0 h1), if_pos rfl, f_X8_words_J62]
        exact ⟨-103, c, m2, rfl, rfl, ⟨nw, ln, wd, wt, tl, tx, bd, hR2⟩⟩
    · rw [if_neg ok, nI_0] at hlen
      refine bad hlen ?_
      rw [f_X8_words, bind_s a2]
      dsimp only
      rw [m4, if_pos rfl, t6, show (2 : Int32) = nI 2 from rfl, ite_ltN (by omega) (by omega), t7]
      by_cases e1 : a < 2
      · rw [if_pos e1, f_X8_words_J41, j42_0]
      · rw [if_neg e1, if_neg (by rw [hzn L (by omega)]; omega), ite_eqN (by omega) (by omega), if_neg (by omega), f_X8_words_J41, j42_0]
  · refine bad ?_ ?_
    · rw [f_X5_lengthOfWords, bind_s a1, hT.2.1, ite_leN (by omega) (by omega), if_neg (by omega)]
    · rw [f_X8_words, bind_s a2]
      dsimp only
      rw [m4, ite_eqN (by omega) (by omega), if_neg hr, f_X8_words_J41, j42_0]
end
