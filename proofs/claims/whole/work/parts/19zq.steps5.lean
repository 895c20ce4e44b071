/-! ===== the steps: reads, term ===== -/
theorem FrMi.y {I I' : mI} (h : FrY I' I) : FrMi I' I := ⟨h.1 _ (by decide) (by decide) (by decide), h.1 _ (by decide) (by decide) (by decide), h.1 _ (by decide) (by decide) (by decide), h.1 _ (by decide) (by decide) (by decide), h.2 _ (by decide) (by decide), h.2 _ (by decide) (by decide)⟩
/-- the model takes what was read -/
theorem takeM {I : mI} {now now' : Sn} {past : List Sn} {T : List Int32} {b n f : Int32} (hs : OKS now past T) (h : MI I now past T b n f) (h2 : SnM (I 2) now') (hs' : SnOK now') : ∃ I1 I2, f_X11_remembers 0 I R1M = some I1 ∧ f_X11_copies 2 (nI 0) 1 (nI 0) I1 = some I2 ∧ MI I2 now' (pushS past now) T b n f := by
  obtain ⟨m1, m2, m3, m4⟩ := id h
  obtain ⟨J0, j1, j2, j3, j4⟩ := remM_ok m2 hs.2.1 m1 hs.1
  obtain ⟨J1, z1, z2, z3, z4⟩ := copiesM_ok (a := 2) (b := 1) (o1 := 0) (o2 := 0) (by decide) (by rw [lm2]; omega) (by rw [lm1]; omega) (by rw [lm2]; omega) (by rw [lm1]; omega) J0
  refine ⟨J0, J1, j1, z1, h2.cong hs' (fun j hj => ?_), j2.cong (by rw [z4 0 (by decide)]) (z4 3 (by decide)), ?_, ?_⟩
  · have := z2 j hj
    rw [Nat.zero_add] at this
    rw [this, j3 2 (by decide) (by decide)]
  · unfold TxM
    rw [z4 0 (by decide), z4 5 (by decide), j4 6 (by decide), j3 5 (by decide) (by decide)]
    exact m3
  · rw [z4 4 (by decide), j3 4 (by decide) (by decide)]
    exact m4
theorem ne_m1 {q : Nat} (h : q < 2 ^ 31) : ¬ nI q = -1 := bv_ne h
theorem st_reads : St_reads Inv := by
  rintro IC LC RC IM LM RM ⟨rfl, now, past, T, b, n, f, hs, hC, hM⟩ _
  obtain ⟨hR, k2, k3, k4, k5, k6⟩ := id hC
  obtain ⟨m1, m2, m3, m4⟩ := id hM
  obtain ⟨s0, s1, s2⟩ := hs.1
  have hT := hs.2.2
  have h5 := s0.1
  obtain ⟨I1, e1, e2, e3⟩ := readRsC_ok hR hT k4 k2 hs.1
  obtain ⟨J1, y1, y2⟩ := rdsM_ok hT m3 m1 hs.1
  have e1' : ∀ a, (a < 6 ∨ 40 < a) → a ≠ 243 → a ≠ 245 → I1 a = IC a := e1.1
  have hM1 : MI J1 now past T b n f := hM.fr (FrMi.y y1)
  unfold f_X10_reads f_X11_reads
  rw [hR.r0, hR.r2, hR.r1, mr0, mr1, lm1]
  rcases e3 with ⟨q, e3, e4, e5⟩ | ⟨rs', e3, e4, e5⟩
  · rcases y2 with ⟨q', y2, y3, y4⟩ | ⟨rs', y2, _⟩
    · have : q' = q := by rw [e3] at y2; cases y2; rfl
      subst this
      rw [e4, y4, bd2_s, bd2_s, if_pos rfl, if_neg (ne_m1 (by omega)), e5]
      refine ⟨_, I1, RC, J1, rfl, rfl, rfl, now, past, T, b, n, f, hs, ⟨hR, e2, k3.fr hR hs.2.1 (fun a x y => e1' a (by omega) (by omega) (by omega)), k4.frS e1, ?_, ?_⟩, hM1⟩
      · rw [e1' 0 (by omega) (by omega) (by omega)]
        exact k5
      · have h0 : I1 0 = IC 0 := e1' 0 (by omega) (by omega) (by omega)
        exact k6.cong (by rw [h0]) (by rw [h0]) (by rw [h0]) (fun a ha => e1' a (by omega) (by omega) (by omega)) (FrLc.rfl' _)
    · rw [e3] at y2; cases y2
  · rcases y2 with ⟨q', y2, _⟩ | ⟨rs2, y2, y3, y4⟩
    · rw [e3] at y2; cases y2
    · have : rs2 = rs' := by rw [e3] at y2; cases y2; rfl
      subst this
      have hok := (rdRs_ok (5 - now.1.length) 0 now.1 rs2 (Nat.zero_le _) (by omega) s0 e3).1
      have hok5 := hok.1
      obtain ⟨J2, J3, z1, z2, z3⟩ := takeM hs hM1 y4 ⟨hok, s1, s2⟩
      have e1h : HsC I1 RC past := k3.fr hR hs.2.1 (fun a x y => e1' a (by omega) (by omega) (by omega))
      obtain ⟨I2, R1, g1, g2, g3, g4, g5⟩ := keepC_ok hR e1h hs.2.1 e2 hs.1
      obtain ⟨I4, a1, a2, a3, a4⟩ := ffC_ok (u2 I2 1 2 (nI rs2.length))
      have hu : ∀ a, a ≠ 1 → u2 I2 1 2 (nI rs2.length) a = I2 a := fun a ha => by rw [u2_n _ _ _ ha]
      have hOK' : OKS (rs2, now.2) (pushS past now) T := ⟨⟨hok, s1, s2⟩, hs.2.1.push hs.1, hs.2.2⟩
      rw [e4, y3, bd2_s, bd2_s, if_neg (ne_m1 (by omega)), if_pos rfl, g1, bd2_s, g2.r0]
      simp only [bnd_e]
      rw [a1, bd1_s, z1, bd1_s, show (0 : Int32) = nI 0 from rfl, z2, bd1_s, if_pos (show inb (nI 0) 192 = true from rfl), show (nI 0).toNatClampNeg = 0 from rfl, z3.1.1.1]
      refine ⟨nI rs2.length, I4, R1, J3, rfl, rfl, rfl, (rs2, now.2), pushS past now, T, b, n, f, hOK', ?_, z3⟩
      refine CI.new hOK' g2 ?_ (g4.fr g2 hOK'.2.1 (fun a x y => hu a (by omega))) ?_ ?_ (a2 _ _) a3 a4
      · refine ⟨⟨by rw [u2_e], fun r hr => ?_⟩, e2.2.cong (by rw [hu 3 (by decide), g5 3 (by omega)]) (by rw [hu 4 (by decide), g5 4 (by omega)]) (by rw [hu 5 (by decide), g5 5 (by omega)])⟩
        have hr5 : r < 5 := by have : r < rs2.length := hr; omega
        obtain ⟨o1, o2, o3⟩ := hR.now.2.2.2.2.1 r hr5
        show RuC _ (R1 2 r) (rs2.getD r dRu)
        rw [g3 2 (by decide)]
        exact (e5 r hr).cong (fun a x y => by rw [hu a (by omega), g5 a (by omega)])
      · have hx : TxC I1 T := k4.frS e1
        exact hx.cong (by rw [hu 243 (by decide), g5 243 (by omega)]) (by rw [hu 244 (by decide), g5 244 (by omega)])
      · rw [hu 0 (by decide), g5 0 (by omega), e1' 0 (by omega) (by omega) (by omega)]
        exact k5
theorem st_term : St_term Inv := by
  rintro IC LC RC IM LM RM ⟨rfl, now, past, T, b, n, f, hs, hC, hM⟩ _
  obtain ⟨hR, k2, k3, k4, k5, k6⟩ := id hC
  obtain ⟨m1, m2, m3, m4⟩ := id hM
  obtain ⟨s0, s1, s2⟩ := hs.1
  have hT := hs.2.2
  obtain ⟨I1, e1, e3⟩ := readWC_ok hR hT k4
  obtain ⟨J1, y1, y2⟩ := rdTM_ok hT m3 m1 hs.1
  have F1 : FrC I1 IC := ⟨fun a x y _ _ w => e1.1 a (by omega) (by omega) (by omega) x y, e1.2 2 (by decide) (by decide)⟩
  have hC1 : CI I1 LC RC now past T b n f := hC.fr hs F1 (FrLc.rfl' _)
  have hM1 : MI J1 now past T b n f := hM.fr (FrMi.y y1)
  unfold f_X10_term f_X11_term
  rw [hR.r0, hR.r2, hR.r1, hR.r7, mr0, mr1, lm1]
  rcases e3 with ⟨q, e3, e4, e5⟩ | ⟨l, e3, e4, e5⟩
  · rcases y2 with ⟨q', y2, y3, y4⟩ | ⟨rs', y2, _⟩
    · have : q' = q := by rw [e3] at y2; cases y2; rfl
      subst this
      rw [e4, y4, bd2_s, bd2_s, if_pos rfl, if_neg (ne_m1 (by omega)), e5]
      exact ⟨_, I1, RC, J1, rfl, rfl, rfl, now, past, T, b, n, f, hs, hC1, hM1⟩
    · rw [e3] at y2; cases y2
  · rcases y2 with ⟨q', y2, _⟩ | ⟨l2, y2, y3, y4⟩
    · rw [e3] at y2; cases y2
    · have : l2 = l := by rw [e3] at y2; cases y2; rfl
      subst this
      obtain ⟨o1, o2⟩ := rdW_ok e3
      obtain ⟨J2, J3, z1, z2, z3⟩ := takeM hs hM1 y4 ⟨s0, o1, o2⟩
      obtain ⟨I2, R1, g1, g2, g3, g4, g5⟩ := keepC_ok hR hC1.2.2.1 hs.2.1 hC1.2.1 hs.1
      have h11 : R1 1 1 = 3 := g2.now.2.1
      have t3 := g2.now.2.2.2.1
      have w5 : TmC I2 268 l2 := e5.cong (g5 _ (by omega)) (g5 _ (by omega)) (g5 _ (by omega))
      obtain ⟨I3, a1, a2, a3⟩ := copyT_ok t3 g2.sp (by omega) w5 o2 o2
      have a3' : ∀ a, a ≠ 3 → a ≠ 4 → a ≠ 5 → I3 a = I2 a := fun a x y z => a3 a x y z
      have hOK' : OKS (now.1, l2) (pushS past now) T := ⟨⟨s0, o1, o2⟩, hs.2.1.push hs.1, hs.2.2⟩
      rw [e4, y3, bd2_s, bd2_s, if_neg n10, if_pos rfl, g1, bd2_s, g2.r0, h11, g2.r7, a1, bd1_s, a2.1, z1, bd1_s, show (0 : Int32) = nI 0 from rfl, z2, bd1_s, if_pos (show inb 131 192 = true from rfl), show (131 : Int32).toNatClampNeg = 131 from rfl, z3.1.2.1]
      have q2 : RsC I2 R1 1 now.1 := by
        have := hC1.2.1.cong (I' := I2) (R' := R1) hR.2.1 s0.1 (fun a x y => g5 a (by omega)) (g3 _ (by decide))
        exact this.1
      refine ⟨nI l2.length, I3, R1, J3, rfl, rfl, rfl, (now.1, l2), pushS past now, T, b, n, f, hOK', ⟨g2, ⟨q2.cong g2.2.1 s0.1 (by rw [a3' 1 (by decide) (by decide) (by decide)]) (fun a x y => a3' a (by omega) (by omega) (by omega)), a2⟩, g4.fr g2 hOK'.2.1 (fun a x y => a3' a (by omega) (by omega) (by omega)), ?_, ?_, ?_⟩, z3⟩
      · exact hC1.2.2.2.1.cong (by rw [a3' 243 (by decide) (by decide) (by decide), g5 243 (by omega)]) (by rw [a3' 244 (by decide) (by decide) (by decide), g5 244 (by omega)])
      · rw [a3' 0 (by decide) (by decide) (by decide), g5 0 (by omega)]
        exact hC1.2.2.2.2.1
      · have h0 : I3 0 = I1 0 := by rw [a3' 0 (by decide) (by decide) (by decide), g5 0 (by omega)]
        exact hC1.2.2.2.2.2.cong (by rw [h0]) (by rw [h0]) (by rw [h0]) (fun a ha => by rw [a3' a (by omega) (by omega) (by omega), g5 a (by omega)]) (FrLc.rfl' _)
