/-! ===== the steps: call, follows, lighter ===== -/
theorem has2 {I : mI} {m : Nat} (hm : m < 2 ^ 31) (h : I 248 8 = nI m) (x : Int32) : (∃ c, c < m ∧ x = nI c ∧ f_X0_has 248 x I = some 1 ∧ f_X11_in x 0 (nI m - 1) = some 1) ∨ (f_X0_has 248 x I = some 0 ∧ f_X11_in x 0 (nI m - 1) = some 0) := by
  unfold f_X0_has
  simp only [bnd_e]
  rw [h, inM]
  rcases rngL x hm with ⟨k, w1, rfl, w3, w4, w5⟩ | ⟨w1, w2⟩
  · left
    rw [if_neg w3, if_neg w4, if_neg w5]
    exact ⟨k, w1, rfl, rfl, rfl⟩
  · right
    rw [if_pos w1]
    refine ⟨?_, rfl⟩
    rcases w2 with w2 | ⟨w2, w3⟩
    · rw [if_pos w2]
    · rw [if_neg w2, if_pos w3]
theorem st_call : St_call Inv := by
  rintro IC LC RC IM LM RM ⟨rfl, now, past, T, b, n, f, hs, hC, hM⟩ x1 x2
  have hR := hC.1
  have h60 : nCl now.1 ≤ 60 := callsS_len hs.1.1
  obtain ⟨C1, L1, c1, c2, c3, c4⟩ := kbC hs hC
  obtain ⟨M1, y1, y2, y3⟩ := layM_ok hs.1.1 hM.1.1
  have hM1 := hM.fr (FrMi.b y3)
  have hn : C1 248 8 = nI (nCl now.1) := c4.2.1.1
  have hm : M1 0 18 = nI (nCl now.1) := y2.1.1
  obtain ⟨I1, e1, e2⟩ := refC hs c2
  obtain ⟨I2, f1, f2⟩ := refM2 hM1
  have r3 : Inv I1 L1 RC I2 LM R1M := ⟨rfl, now, past, T, b + 1, n, f, hs, e2, f2⟩
  rcases has2 (by omega) hn x1 with ⟨c, w1, rfl, w2, w3⟩ | ⟨w2, w3⟩
  · rcases rngI x2 (m := 3) (by decide) with ⟨k, k1, rfl, k3, _⟩ | ⟨k1, k2, k3⟩
    · obtain ⟨I3, L3, g1, g2, _⟩ := clC hs hC w1 k1
      refine ⟨_, I3, L3, M1, g1, ?_, rfl, now, past, T, b, n, f, hs, g2, hM1⟩
      unfold f_X11_call
      rw [y1, bd1_s]
      simp only [bnd_e]
      rw [hm, w3, bd1_s, if_neg n10, inM, show (3 : Int32) = nI 3 from rfl, if_neg k3, bd1_s, if_neg n10, clM hs.1.1 hM1.1.1 y2 w1 k1, bd1_s]
    · refine ⟨-2, I1, L1, I2, ?_, ?_, r3⟩
      · unfold f_X10_call
        rw [c1, bd2_s, hR.r4, w2, bd1_s]
        simp only [bnd_e]
        rw [if_neg n10]
        rcases k3 with k3 | ⟨k3, k4⟩
        · rw [if_pos k3, e1, bd2_s]
        · rw [if_neg k3, if_neg (show ¬ x2 ≤ 3 from k4), e1, bd2_s]
      · unfold f_X11_call
        rw [y1, bd1_s]
        simp only [bnd_e]
        rw [hm, w3, bd1_s, if_neg n10, inM, if_pos (show x2 < 0 ∨ 3 < x2 from k1), bd1_s, if_pos rfl, f1, bd2_s]
  · refine ⟨-2, I1, L1, I2, ?_, ?_, r3⟩
    · unfold f_X10_call
      rw [c1, bd2_s, hR.r4, w2, bd1_s]
      simp only [bnd_e]
      rw [if_pos trivial, e1, bd2_s]
    · unfold f_X11_call
      rw [y1, bd1_s]
      simp only [bnd_e]
      rw [hm, w3, bd1_s, if_pos rfl, f1, bd2_s]
theorem st_follows : St_follows Inv := by
  rintro IC LC RC IM LM RM ⟨rfl, now, past, T, b, n, f, hs, hC, hM⟩ x1 x2
  have hR := hC.1
  have h60 : nCl now.1 ≤ 60 := callsS_len hs.1.1
  obtain ⟨C1, L1, c1, c2, c3, c4⟩ := kbC hs hC
  obtain ⟨M1, y1, y2, y3⟩ := layM_ok hs.1.1 hM.1.1
  have hM1 := hM.fr (FrMi.b y3)
  have hn : C1 248 8 = nI (nCl now.1) := c4.2.1.1
  have hm : M1 0 18 = nI (nCl now.1) := y2.1.1
  obtain ⟨I1, e1, e2⟩ := refC hs c2
  obtain ⟨I2, f1, f2⟩ := refM2 hM1
  have r3 : Inv I1 L1 RC I2 LM R1M := ⟨rfl, now, past, T, b + 1, n, f, hs, e2, f2⟩
  unfold f_X10_follows f_X11_follows
  rw [c1, bd2_s, hR.r4, y1, bd1_s, hm]
  simp only [bnd_e]
  rcases has2 (by omega) hn x1 with ⟨c, w1, rfl, w2, w3⟩ | ⟨w2, w3⟩
  · rw [w2, bd1_s, if_neg n10, w3, bd1_s, if_neg n10]
    rcases has2 (by omega) hn x2 with ⟨d, v1, rfl, v2, v3⟩ | ⟨v2, v3⟩
    · rw [v2, bd1_s, if_neg n10, v3, bd1_s, if_neg n10, hR.bk.2.2.2.1, lc252, if_pos (inb_nI (by omega) (by omega)), nI_clamp (by omega), hbC (c4.2.2.2.1 c w1) (by omega), bd1_s, m60, mr19, lm14, if_pos (lm60 h60 w1 v1), nI_clamp (by omega), y2.2.1 c d w1 v1]
      have hI : Inv C1 L1 RC M1 LM R1M := ⟨rfl, now, past, T, b, n, f, hs, c2, hM1⟩
      cases hf : foS now.1 c d with
      | true =>
        rw [bi_t, if_pos rfl, if_neg n10, if_neg n10]
        exact ⟨1, C1, L1, M1, rfl, rfl, hI⟩
      | false =>
        rw [bi_f, if_neg (show ¬ false = true by decide), if_pos rfl, if_pos rfl]
        exact ⟨0, C1, L1, M1, rfl, rfl, hI⟩
    · rw [v2, bd1_s, if_pos rfl, v3, bd1_s, if_pos rfl, e1, f1, bd2_s, bd2_s]
      exact ⟨-2, I1, L1, I2, rfl, rfl, r3⟩
  · rw [w2, bd1_s, if_pos rfl, w3, bd1_s, if_pos rfl, e1, f1, bd2_s, bd2_s]
    exact ⟨-2, I1, L1, I2, rfl, rfl, r3⟩
theorem st_lighter : St_lighter Inv := by
  rintro IC LC RC IM LM RM ⟨rfl, now, past, T, b, n, f, hs, hC, hM⟩ x1
  have hR := hC.1
  have h60 : nCl now.1 ≤ 60 := callsS_len hs.1.1
  have hle := rgS_le now.1
  obtain ⟨C1, L1, c1, c2, c3, c4⟩ := kbC hs hC
  obtain ⟨M1, y1, y2, y3⟩ := layM_ok hs.1.1 hM.1.1
  have hM1 := hM.fr (FrMi.b y3)
  have hn : C1 248 9 = nI (rgS now.1).2 := c4.2.2.2.2.2
  have hm : M1 0 22 = nI (rgS now.1).2 := y2.2.2.2
  obtain ⟨I1, e1, e2⟩ := refC hs c2
  obtain ⟨I2, f1, f2⟩ := refM2 hM1
  have r3 : Inv I1 L1 RC I2 LM R1M := ⟨rfl, now, past, T, b + 1, n, f, hs, e2, f2⟩
  unfold f_X10_lighter f_X11_lighter
  rw [c1, bd2_s, hR.r4, hn, y1, bd1_s, hm, inM]
  simp only [bnd_e]
  rcases rngL x1 (m := (rgS now.1).2) (by omega) with ⟨k, w1, rfl, w3, w4, w5⟩ | ⟨w1, w2⟩
  · obtain ⟨C2, g1, g2, g3⟩ := wrC hs c2 c3 c4
    obtain ⟨M2, L2, j1, j2, j3⟩ := ltM' (g := k) (L := LM) (by omega) hs.1.1 hM1.1.1 y2
    rw [if_neg w3, if_neg w4, if_pos (nI_lt w1 (by omega)), g1, bd1_s, hR.bk.2.2.2.2.2.2, lc255, if_pos (inb_nI (by omega) (by omega)), nI_clamp (by omega), g3.1 k w1, bd1_s, if_neg n10, j1, bd3_s]
    exact ⟨_, C2, L1, M2, L2, rfl, rfl, rfl, now, past, T, b, n, f, hs, g2, hM1.fr (FrMi.e j2)⟩
  · rw [if_pos w1, bd1_s, if_pos rfl, f1, bd2_s, e1, bd2_s]
    refine ⟨-2, I1, L1, I2, LM, ?_, rfl, r3⟩
    rcases w2 with w2 | ⟨w2, w3⟩
    · rw [if_pos w2]
    · rw [if_neg w2, if_neg (fun q => by
        rw [Int32.lt_iff_toInt_lt] at q
        rw [Int32.le_iff_toInt_le] at w3
        omega)]
