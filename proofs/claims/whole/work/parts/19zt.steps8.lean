/-! ===== the steps: weighs, weight ===== -/
theorem lm1' : lnM 1 = 192 := rfl
theorem isRuleC {I : mI} {R : mR} {rs : List Ru} (hR : RO R) (h : I 1 2 = nI rs.length) {I' : mI} (h' : I' 1 = I 1) (x : Int32) : f_X10_isRule 0 x I' R = f_X10_isRule 0 x I R := by
  unfold f_X10_isRule
  rw [hR.r0, h']
theorem isRuleM {I I' : mI} (h' : I' 1 = I 1) (x : Int32) : f_X11_isRule 0 x I' R1M = f_X11_isRule 0 x I R1M := by
  unfold f_X11_isRule
  rw [mr0, h']
theorem st_weighs : St_weighs Inv := by
  rintro IC LC RC IM LM RM ⟨rfl, now, past, T, b, n, f, hs, hC, hM⟩ x1 x2
  obtain ⟨hR, k2, k3, k4, k5, k6⟩ := id hC
  have h5 := hs.1.1.1
  obtain ⟨C1, c1, c2⟩ := spC_ok hR.r8 x1 IC
  obtain ⟨M1, y1, y2, y3⟩ := lfM_ok x1 IM
  have FC : FrC C1 IC := FrC.hi (fun a ha => c1 a (by omega))
  have hC1 : CI C1 LC RC now past T b n f := hC.fr hs FC (FrLc.rfl' _)
  have hM1 : MI M1 now past T b n f := hM.fr (FrMi.e y1)
  obtain ⟨I1, e1, e2⟩ := refC hs hC1
  obtain ⟨I2, f1, f2⟩ := refM2 hM1
  have r3 : Inv I1 LC RC I2 LM R1M := ⟨rfl, now, past, T, b + 1, n, f, hs, e2, f2⟩
  rcases c2 with ⟨ok, c2, c3⟩ | ⟨ok, c2⟩
  · rw [ok, bi_t] at y2
    rcases isRule2 hs.1.1.1 hR hC1.2.1.1.1 hM1.1.1.1 x2 with ⟨r, w1, rfl, w2, w3⟩ | ⟨w2, w3⟩
    · obtain ⟨I3, g1, g2⟩ := wgC hs hC ok w1
      obtain ⟨L3, j1, j2⟩ := crM_ok (L := LM) hs.1.1 hM1.1.1 w1 (fun i hi => Nat.le_trans (figOK_le ok i hi) (by decide)) (y3 ok)
      refine ⟨_, I3, M1, L3, g1, ?_, rfl, now, past, T, b, n, f, hs, hC.fr hs g2 (FrLc.rfl' _), hM1⟩
      unfold f_X11_weighs
      simp only [bnd_e]
      rw [y2, bd2_s, if_neg n10, w3, bd1_s, if_neg n10, j1, bd2_s]
      rfl
    · refine ⟨-2, I1, I2, LM, ?_, ?_, r3⟩
      · unfold f_X10_weighs
        simp only [bnd_e]
        rw [c2, bd2_s, if_neg n10, w2, bd1_s, if_pos rfl, e1, bd2_s]
      · unfold f_X11_weighs
        simp only [bnd_e]
        rw [y2, bd2_s, if_neg n10, w3, bd1_s, if_pos rfl, f1, bd2_s]
  · rw [ok, bi_f] at y2
    refine ⟨-2, I1, I2, LM, ?_, ?_, r3⟩
    · unfold f_X10_weighs
      simp only [bnd_e]
      rw [c2, bd2_s, if_pos rfl, e1, bd2_s]
    · unfold f_X11_weighs
      simp only [bnd_e]
      rw [y2, bd2_s, if_pos rfl, f1, bd2_s]
theorem st_weight : St_weight Inv := by
  rintro IC LC RC IM LM RM ⟨rfl, now, past, T, b, n, f, hs, hC, hM⟩ x1
  obtain ⟨hR, k2, k3, k4, k5, k6⟩ := id hC
  obtain ⟨s0, s1, s2⟩ := hs.1
  have h11 : RC 1 1 = 3 := hR.now.2.1
  obtain ⟨C1, c1, c2⟩ := spC_ok hR.r8 x1 IC
  obtain ⟨M1, y1, y2, y3⟩ := lfM_ok x1 IM
  have FC : FrC C1 IC := FrC.hi (fun a ha => c1 a (by omega))
  have hC1 : CI C1 LC RC now past T b n f := hC.fr hs FC (FrLc.rfl' _)
  have hM1 : MI M1 now past T b n f := hM.fr (FrMi.e y1)
  unfold f_X10_weight f_X11_weight
  rcases c2 with ⟨ok, c2, c3⟩ | ⟨ok, c2⟩
  · have h9 : ∀ i, i < 7 → figS x1.toNatClampNeg i ≤ 9 := fun i hi => Nat.le_trans (figOK_le ok i hi) (by decide)
    rw [ok, bi_t] at y2
    obtain ⟨L1, e1, e2⟩ := wlC_ok (L := LC) (F := figS x1.toNatClampNeg) (hR.sc.2.2.2.1) hR.now.2.2.2.1 s2 s1 hC1.2.1.2 h9 c3
    obtain ⟨L2, j1, ⟨j2, _, _⟩, j5⟩ := wtM_ok1 (L := LM) (a := 1) (o := 132) (l := now.2) (F := figS x1.toNatClampNeg) (by rw [lm1]; omega) (by rw [lm1]; omega) s2 (fun j hj => hM1.1.2.2 j hj) h9 (y3 ok) s1.1
    rw [c2, bd2_s, if_neg n10, hR.r5, hR.r0, h11, hR.r8, e1, bd2_s, y2, bd2_s, if_neg n10, mr0, lm1, if_pos (show inb 131 192 = true from rfl), show (131 : Int32).toNatClampNeg = 131 from rfl, hM1.1.2.1, show (132 : Int32) = nI 132 from rfl, j1, bd1_s, mr13, lm9, if_pos (show inb 0 64 = true from rfl), i0, j2, vA_0]
    exact ⟨_, C1, L1, M1, L2, rfl, rfl, rfl, now, past, T, b, n, f, hs, hC1.fr hs (FrC.rfl' _) ⟨e2 252 (by decide), e2 254 (by decide)⟩, hM1⟩
  · rw [ok, bi_f] at y2
    obtain ⟨I1, e1, e2⟩ := refC hs hC1
    obtain ⟨I2, f1, f2⟩ := refM2 hM1
    rw [c2, bd2_s, if_pos rfl, e1, bd2_s, y2, bd2_s, if_pos rfl, f1, bd2_s]
    exact ⟨-2, I1, LC, I2, LM, rfl, rfl, rfl, now, past, T, b + 1, n, f, hs, e2, f2⟩
