/-! ===== the steps: reads, term, drops, first ===== -/
theorem isRule2 {IC IM : mI} {R : mR} {rs : List Ru} (h5 : rs.length ≤ 5) (hR : RO R) (hC : IC 1 2 = nI rs.length) (hM : IM 1 0 = nI rs.length) (x : Int32) : (∃ r, r < rs.length ∧ x = nI r ∧ f_X10_isRule 0 x IC R = some 1 ∧ f_X11_isRule 0 x IM R1M = some 1) ∨ (f_X10_isRule 0 x IC R = some 0 ∧ f_X11_isRule 0 x IM R1M = some 0) := by
  unfold f_X10_isRule f_X11_isRule
  simp only [bnd_e]
  rw [hR.r0, hC, mr0, lm1, if_pos (show inb 0 192 = true from rfl), i0, hM, inM, bd1_s]
  rcases rngL x (m := rs.length) (by omega) with ⟨k, w1, rfl, w3, w4, w5⟩ | ⟨w1, w2⟩
  · left
    rw [if_neg w3, if_neg w4, if_neg w5]
    exact ⟨k, w1, rfl, rfl, rfl⟩
  · right
    rw [if_pos w1]
    refine ⟨?_, rfl⟩
    rcases w2 with w2 | ⟨w2, w3⟩
    · rw [if_pos w2]
    · rw [if_neg w2, if_pos w3]
theorem st_drops : St_drops Inv := by
  rintro IC LC RC IM LM RM ⟨rfl, now, past, T, b, n, f, hs, hC, hM⟩ x1
  obtain ⟨hR, k2, k3, k4, k5, k6⟩ := id hC
  obtain ⟨m1, m2, m3, m4⟩ := id hM
  obtain ⟨s0, s1, s2⟩ := hs.1
  unfold f_X10_drops f_X11_drops
  rcases isRule2 s0.1 hR k2.1.1 m1.1.1 x1 with ⟨r, w1, rfl, w2, w3⟩ | ⟨w2, w3⟩
  · obtain ⟨I1, R1, e1, e2, e3, e4, e5⟩ := keepC_ok hR k3 hs.2.1 k2 hs.1
    have q2 : SnC I1 R1 1 now := k2.cong hR.2.1 s0.1 (fun a x y => e5 a (by omega)) (e3 _ (by decide))
    obtain ⟨R2, g1, g2, g3, g4⟩ := remC_ok e2 q2 hs.1 w1
    obtain ⟨I3, a1, a2, a3, a4⟩ := ffC_ok (u2 I1 1 2 (nI (now.1.length - 1)))
    obtain ⟨J0, j1, j2, j3, j4⟩ := remM_ok m2 hs.2.1 m1 hs.1
    have hJ1 : J0 1 = IM 1 := j3 1 (by decide) (by decide)
    obtain ⟨J1, y1, y2, y3, y4⟩ := dropsM_ok (I := J0) (by rw [hJ1]; exact m1) hs.1 w1
    have hOK' : OKS (dropS now.1 r, now.2) (pushS past now) T := ⟨⟨dropS_ok s0 w1, s1, s2⟩, hs.2.1.push hs.1, hs.2.2⟩
    have hq : nI now.1.length - 1 = nI (now.1.length - 1) := by
      rw [show now.1.length = now.1.length - 1 + 1 by omega, nI_m1, pk_m1]
      rfl
    rw [w2, w3, bd1_s, bd1_s, if_neg n10, if_neg n10, hR.r0, hR.r1, e1, bd2_s, e2.r0, g1, bd2_s, a1, bd1_s, g2.r0, a3 1 (by decide), u2_e, j1, bd1_s, y1, bd1_s, mr0, lm1, if_pos (show inb 0 192 = true from rfl), i0, y2, hq]
    simp only [bnd_e]
    rw [u2_e]
    have e42 : HsC I1 R2 (pushS past now) := by
      refine ⟨e4.1, fun i hi => ?_⟩
      have hp5 := (hs.2.1.push hs.1).1
      obtain ⟨j, z1, z2⟩ := e2.2.2.2.1 i (by omega)
      rw [g3 42 (by decide), z2]
      have := e4.2 i hi
      rw [z2] at this
      exact this.cong (e2.2.2.1 j z1) (hOK'.2.1.2 i hi).1.1 (fun a _ _ => rfl) (g3 _ (by omega))
    have hu : ∀ a, a ≠ 1 → u2 I1 1 2 (nI (now.1.length - 1)) a = I1 a := fun a ha => by rw [u2_n _ _ _ ha]
    refine ⟨nI (now.1.length - 1), I3, R2, _, rfl, rfl, rfl, (dropS now.1 r, now.2), pushS past now, T, b, n, f, hOK', ?_, ?_⟩
    · refine CI.new hOK' g2 g4 (e42.fr g2 hOK'.2.1 (fun a x y => hu a (by omega))) ?_ ?_ (a2 _ _) a3 a4
      · exact k4.cong (by rw [hu 243 (by decide), e5 243 (by omega)]) (by rw [hu 244 (by decide), e5 244 (by omega)])
      · rw [hu 0 (by decide), e5 0 (by omega)]
        exact k5
    · refine ⟨y3, j2.cong (by rw [u2_n _ _ _ (by decide), y4 0 (by decide)]) (by rw [u2_n _ _ _ (by decide), y4 3 (by decide)]), ?_, ?_⟩
      · unfold TxM
        rw [u2_n _ _ _ (show (0 : Nat) ≠ 1 by decide), u2_n _ _ _ (show (5 : Nat) ≠ 1 by decide), y4 0 (by decide), y4 5 (by decide), j4 6 (by decide), j3 5 (by decide) (by decide)]
        exact m3
      · rw [u2_n _ _ _ (show (4 : Nat) ≠ 1 by decide), y4 4 (by decide), j3 4 (by decide) (by decide)]
        exact m4
  · obtain ⟨I1, e1, e2⟩ := refC hs hC
    obtain ⟨I2, f1, f2⟩ := refM2 hM
    rw [w2, w3, bd1_s, bd1_s, if_pos rfl, if_pos rfl, e1, f1, bd2_s, bd2_s]
    exact ⟨-2, I1, RC, I2, rfl, rfl, rfl, now, past, T, b + 1, n, f, hs, e2, f2⟩
theorem st_first : St_first Inv := by
  rintro IC LC RC IM LM RM ⟨rfl, now, past, T, b, n, f, hs, hC, hM⟩ x1
  obtain ⟨hR, k2, k3, k4, k5, k6⟩ := id hC
  obtain ⟨m1, m2, m3, m4⟩ := id hM
  obtain ⟨s0, s1, s2⟩ := hs.1
  unfold f_X10_first f_X11_first
  rcases isRule2 s0.1 hR k2.1.1 m1.1.1 x1 with ⟨r, w1, rfl, w2, w3⟩ | ⟨w2, w3⟩
  · obtain ⟨I1, R1, e1, e2, e3, e4, e5⟩ := keepC_ok hR k3 hs.2.1 k2 hs.1
    have q2 : SnC I1 R1 1 now := k2.cong hR.2.1 s0.1 (fun a x y => e5 a (by omega)) (e3 _ (by decide))
    obtain ⟨R2, g1, g2, g3, g4⟩ := frC_ok e2 q2 hs.1 w1
    obtain ⟨I3, a1, a2, a3, a4⟩ := ffC_ok I1
    obtain ⟨J0, j1, j2, j3, j4⟩ := remM_ok m2 hs.2.1 m1 hs.1
    have hJ1 : J0 1 = IM 1 := j3 1 (by decide) (by decide)
    obtain ⟨J1, z1, z2, z3, z4⟩ := copiesM_ok (a := 1) (b := 2) (o1 := 0) (o2 := 0) (by decide) (by rw [lm1]; omega) (by rw [lm2]; omega) (by rw [lm1]; omega) (by rw [lm2]; omega) J0
    obtain ⟨J2, J3, y1, y2, y3, y4⟩ := firstM_ok (I := J1) (sn := now) (r := r) (by rw [z4 1 (by decide), hJ1]; exact m1) hs.1 w1 (fun j hj => by
      have := z2 j hj
      rw [Nat.zero_add] at this
      rw [this, z4 1 (by decide)])
    have hOK' : OKS (firstS now.1 r, now.2) (pushS past now) T := ⟨⟨firstS_ok s0 w1, s1, s2⟩, hs.2.1.push hs.1, hs.2.2⟩
    rw [w2, w3, bd1_s, bd1_s, if_neg n10, if_neg n10, hR.r0, hR.r1, e1, bd2_s, e2.r0, g1, bd1_s, a1, bd1_s, j1, bd1_s, mr0, mr1, ← nI0, z1, bd1_s, y1, bd1_s, nI0, y2, bd1_s]
    have e42 : HsC I1 R2 (pushS past now) := by
      refine ⟨e4.1, fun i hi => ?_⟩
      have hp5 := (hs.2.1.push hs.1).1
      obtain ⟨j, z1, z2⟩ := e2.2.2.2.1 i (by omega)
      rw [g3 42 (by decide), z2]
      have := e4.2 i hi
      rw [z2] at this
      exact this.cong (e2.2.2.1 j z1) (hOK'.2.1.2 i hi).1.1 (fun a _ _ => rfl) (g3 _ (by omega))
    refine ⟨nI r, I3, R2, J3, rfl, rfl, rfl, (firstS now.1 r, now.2), pushS past now, T, b, n, f, hOK', ?_, ?_⟩
    · refine CI.new hOK' g2 g4 e42 ?_ ?_ (a2 _ _) a3 a4
      · exact k4.cong (by rw [e5 243 (by omega)]) (by rw [e5 244 (by omega)])
      · rw [e5 0 (by omega)]
        exact k5
    · refine ⟨y3, j2.cong (by rw [y4 0 (by decide), z4 0 (by decide)]) (by rw [y4 3 (by decide), z4 3 (by decide)]), ?_, ?_⟩
      · unfold TxM
        rw [y4 0 (by decide), y4 5 (by decide), z4 0 (by decide), z4 5 (by decide), j4 6 (by decide), j3 5 (by decide) (by decide)]
        exact m3
      · rw [y4 4 (by decide), z4 4 (by decide), j3 4 (by decide) (by decide)]
        exact m4
  · obtain ⟨I1, e1, e2⟩ := refC hs hC
    obtain ⟨I2, f1, f2⟩ := refM2 hM
    rw [w2, w3, bd1_s, bd1_s, if_pos rfl, if_pos rfl, e1, f1, bd2_s, bd2_s]
    exact ⟨-2, I1, RC, I2, rfl, rfl, rfl, now, past, T, b + 1, n, f, hs, e2, f2⟩
