/-! ===== the steps: of, shown ===== -/
theorem kbC {I : mI} {L : mL} {R : mR} {now : Sn} {past : List Sn} {T : List Int32} {b n f : Int32} (hs : OKS now past T) (h : CI I L R now past T b n f) : ∃ I' L', f_X10_keepBookRight 0 I L R = some (I', L') ∧ CI I' L' R now past T b n f ∧ I' 0 9 = 1 ∧ BookC I' L' now.1 := by
  obtain ⟨hR, k2, k3, k4, k5, k6⟩ := id h
  unfold f_X10_keepBookRight
  rcases k6.1 with w | ⟨w1, w2⟩
  · obtain ⟨I1, L1, e1, e2, e3, e4⟩ := fillC_ok (L := L) hR hs.1.1 k2.1
    have w10 : I 0 10 = 0 := k6.2.1.elim id (fun q => by rw [w] at q; exact absurd q.2.1 (by decide))
    rw [if_pos w, hR.r4, hR.r0, e1, bd2_s]
    simp only [bnd_e]
    have c0 : ∀ a, a < 244 → I1 a = I a := fun a ha => e3.1 a (by omega) (by omega) (by omega) (by omega)
    have hu : ∀ a, a ≠ 0 → u2 I1 0 9 1 a = I1 a := fun a ha => by rw [u2_n _ _ _ ha]
    have hb : BookC (u2 I1 0 9 1) L1 now.1 := e2.cong (hu _ (by decide)) (hu _ (by decide)) (hu _ (by decide)) (hu _ (by decide)) (FrLc.rfl' _)
    refine ⟨_, L1, rfl, ⟨hR, k2.cong hR.2.1 hs.1.1.1 (fun a x y => by rw [hu a (by omega), c0 a (by omega)]) rfl, k3.fr hR hs.2.1 (fun a x y => by rw [hu a (by omega), c0 a (by omega)]), k4.cong (by rw [hu 243 (by decide), c0 243 (by decide)]) (by rw [hu 244 (by decide), e3.1 244 (by decide) (by decide) (by decide) (by decide)]), ?_, Or.inr ⟨by rw [u2_e], hb⟩, Or.inl (by rw [u2_o _ _ _ (by decide), c0 0 (by decide)]; exact w10), by rw [u2_o _ _ _ (by decide), c0 0 (by decide)]; exact k6.2.2⟩, by rw [u2_e], hb⟩
    rw [u2_o _ _ _ (by decide), u2_o _ _ _ (by decide), u2_o _ _ _ (by decide), c0 0 (by decide)]
    exact k5
  · rw [if_neg (by rw [w1]; decide)]
    exact ⟨I, L, rfl, h, w1, w2⟩
def ofS (rs : List Ru) (r k : Nat) : Int32 := if k = 0 then nI (rs.getD r dRu).1.length else if k = 1 then nI (rs.getD r dRu).2.length else if k = 2 then (rs.getD r dRu).1.getD 0 0 else if k = 3 then unkS (rs.getD r dRu).1 else if k = 4 then unkS (rs.getD r dRu).2 else nI (fb_ct (ofP (callsS rs) r) 64)
theorem ofC {I : mI} {L : mL} {R : mR} {now : Sn} {past : List Sn} {T : List Int32} {b n f : Int32} (hs : OKS now past T) (h : CI I L R now past T b n f) {r k : Nat} (hr : r < now.1.length) (hk : k ≤ 5) : ∃ I' L', f_X10_of 0 (nI r) (nI k) I L R = some (ofS now.1 r k, I', L') ∧ CI I' L' R now past T b n f := by
  obtain ⟨hR, k2, k3, k4, k5, k6⟩ := id h
  have h5 := hs.1.1.1
  have h10 : R 1 0 = 2 := hR.now.1
  have l2 : lnC 2 = 5 := hR.now.2.2.1
  obtain ⟨⟨q1, q2, q3, q4, q5⟩, o2, o3⟩ := hR.now.2.2.2.2.1 r (by omega)
  obtain ⟨c1, c2⟩ : RuC I (R 2 r) (now.1.getD r dRu) := k2.1.2 r hr
  have hu := hs.1.1.get hr
  have hir : f_X10_isRule 0 (nI r) I R = some 1 := by
    unfold f_X10_isRule
    simp only [bnd_e]
    rw [if_neg (nI_pos (by omega)), hR.r0, k2.1.1, if_neg (nI_ge hr (by omega))]
  unfold f_X10_of
  rw [hir, bd1_s]
  simp only [bnd_e]
  rw [if_neg n10, if_neg (nI_pos (by omega)), if_pos (show nI k ≤ 5 from nI_le (b := 5) hk (by decide)), hR.r0, h10, l2, if_pos (inb_nI (by omega) (by omega)), nI_clamp (by omega), q1, q2]
  rcases (show k = 0 ∨ k = 1 ∨ k = 2 ∨ k = 3 ∨ k = 4 ∨ k = 5 by omega) with rfl | rfl | rfl | rfl | rfl | rfl
  · rw [if_pos (show nI 0 = 0 from rfl), c1.1]
    exact ⟨I, L, rfl, h⟩
  · rw [if_neg (show ¬ nI 1 = 0 by decide), if_pos (show nI 1 = 1 from rfl), c2.1]
    exact ⟨I, L, rfl, h⟩
  · rw [if_neg (show ¬ nI 2 = 0 by decide), if_neg (show ¬ nI 2 = 1 by decide), if_pos (show nI 2 = 2 from rfl), q3.1, q3.2.2.1, if_pos (show inb 0 12 = true from rfl), i0, c1.2.1 0 hu.1.pos]
    exact ⟨I, L, rfl, h⟩
  · rw [if_neg (show ¬ nI 3 = 0 by decide), if_neg (show ¬ nI 3 = 1 by decide), if_neg (show ¬ nI 3 = 2 by decide), if_pos (show nI 3 = 3 from rfl), unknowns_ok q3 hu.2.2.1 c1.w, bd1_s]
    exact ⟨I, L, rfl, h⟩
  · rw [if_neg (show ¬ nI 4 = 0 by decide), if_neg (show ¬ nI 4 = 1 by decide), if_neg (show ¬ nI 4 = 2 by decide), if_neg (show ¬ nI 4 = 3 by decide), if_pos (show nI 4 = 4 from rfl), unknowns_ok q4 hu.2.2.2.1 c2.w, bd1_s]
    exact ⟨I, L, rfl, h⟩
  · obtain ⟨I1, L1, e1, e2, e3, e4⟩ := kbC hs h
    rw [if_neg (show ¬ nI 5 = 0 by decide), if_neg (show ¬ nI 5 = 1 by decide), if_neg (show ¬ nI 5 = 2 by decide), if_neg (show ¬ nI 5 = 3 by decide), if_neg (show ¬ nI 5 = 4 by decide), e1, bd2_s, hR.r4, hR.bk.2.2.2.2.2.1, lc254, if_pos (inb_nI (by omega) (by omega)), bcC (e4.2.2.1 r hr), bd1_s]
    exact ⟨I1, L1, rfl, e2⟩
theorem ofM {I : mI} {now : Sn} {past : List Sn} {T : List Int32} {b n f : Int32} (hs : OKS now past T) (h : MI I now past T b n f) {r k : Nat} (hr : r < now.1.length) (hk : k ≤ 5) : f_X11_ruleTold 0 (nI r) (nI k) I R1M = some (ofS now.1 r k) := by
  have h5 := hs.1.1.1
  obtain ⟨c1, c2, c3, c4⟩ := h.1.1.2 r hr
  have hu := hs.1.1.get hr
  have u3 := hu.2.2.1
  have u4 := hu.2.2.2.1
  have hp := hu.1.pos
  unfold f_X11_ruleTold
  rw [mr0]
  rcases (show k = 0 ∨ k = 1 ∨ k = 2 ∨ k = 3 ∨ k = 4 ∨ k = 5 by omega) with rfl | rfl | rfl | rfl | rfl | rfl
  · rw [if_pos (show nI 0 = 0 from rfl), leftLong_ok lm1 (by omega), bd1_s, c1]
    rfl
  · rw [if_neg (show ¬ nI 1 = 0 by decide), if_pos (show nI 1 = 1 from rfl), rightLong_ok lm1 (by omega), bd1_s, c2]
    rfl
  · have e := c3 0 hp
    rw [Nat.add_zero] at e
    rw [if_neg (show ¬ nI 2 = 0 by decide), if_neg (show ¬ nI 2 = 1 by decide), if_pos (show nI 2 = 2 from rfl), leftOf_ok, bd1_s, lm1, if_pos (inb_nI (by omega) (by omega)), nI_clamp (by omega), e]
    rfl
  · rw [if_neg (show ¬ nI 3 = 0 by decide), if_neg (show ¬ nI 3 = 1 by decide), if_neg (show ¬ nI 3 = 2 by decide), if_pos (show nI 3 = 3 from rfl), leftOf_ok, bd1_s, leftLong_ok lm1 (by omega), bd1_s, c1, unkM_ok (by rw [lm1]; omega) (by rw [lm1]; omega) c3, bd1_s]
    rfl
  · rw [if_neg (show ¬ nI 4 = 0 by decide), if_neg (show ¬ nI 4 = 1 by decide), if_neg (show ¬ nI 4 = 2 by decide), if_neg (show ¬ nI 4 = 3 by decide), if_pos (show nI 4 = 4 from rfl), rightOf_ok, bd1_s, rightLong_ok lm1 (by omega), bd1_s, c2, unkM_ok (by rw [lm1]; omega) (by rw [lm1]; omega) c4, bd1_s]
    rfl
  · have e := rtM_L hs.1.1 h.1.1 hr (now.1.getD r dRu).2.length FU 0 0 (by omega) (by rw [FU_eq]; omega) (by omega)
    rw [nI0, List.drop_zero, Nat.zero_add] at e
    rw [if_neg (show ¬ nI 5 = 0 by decide), if_neg (show ¬ nI 5 = 1 by decide), if_neg (show ¬ nI 5 = 2 by decide), if_neg (show ¬ nI 5 = 3 by decide), if_neg (show ¬ nI 5 = 4 by decide), e, bd1_s]
    unfold ofS
    rw [if_neg (by decide), if_neg (by decide), if_neg (by decide), if_neg (by decide), if_neg (by decide), ofP_ct hs.1.1 hr]
theorem st_of : St_of Inv := by
  rintro IC LC RC IM LM RM ⟨rfl, now, past, T, b, n, f, hs, hC, hM⟩ x1 x2
  have hR := hC.1
  have refuse : (∃ (I1 I2 : mI), f_X10_refuseBad 0 IC = some (-2, I1) ∧ f_X11_refuses 0 (-2) IM R1M = some (-2, I2) ∧ Inv I1 LC RC I2 LM R1M) := by
    obtain ⟨I1, e1, e2⟩ := refC hs hC
    obtain ⟨I2, f1, f2⟩ := refM2 hM
    exact ⟨I1, I2, e1, f1, rfl, now, past, T, b + 1, n, f, hs, e2, f2⟩
  obtain ⟨J1, J2, r1, r2, r3⟩ := refuse
  rcases isRule2 hs.1.1.1 hR hC.2.1.1.1 hM.1.1.1 x1 with ⟨r, w1, rfl, w2, w3⟩ | ⟨w2, w3⟩
  · rcases rngI x2 (m := 5) (by decide) with ⟨k, k1, rfl, k3, _⟩ | ⟨k1, k2, k3⟩
    · obtain ⟨I1, L1, e1, e2⟩ := ofC hs hC w1 k1
      refine ⟨_, I1, L1, IM, e1, ?_, rfl, now, past, T, b, n, f, hs, e2, hM⟩
      unfold f_X11_of
      simp only [bnd_e]
      rw [w3, bd1_s, if_neg n10, inM, show (5 : Int32) = nI 5 from rfl, if_neg k3, bd1_s, if_neg n10, ofM hs hM w1 k1, bd1_s]
    · refine ⟨-2, J1, LC, J2, ?_, ?_, r3⟩
      · unfold f_X10_of
        simp only [bnd_e]
        rw [w2, bd1_s, if_neg n10]
        rcases k3 with k3 | ⟨k3, k4⟩
        · rw [if_pos k3, r1, bd2_s]
        · rw [if_neg k3, if_neg (show ¬ x2 ≤ 5 from k4), r1, bd2_s]
      · unfold f_X11_of
        simp only [bnd_e]
        rw [w3, bd1_s, if_neg n10, inM, if_pos (show x2 < 0 ∨ 5 < x2 from k1), bd1_s, if_pos rfl, r2, bd2_s]
  · refine ⟨-2, J1, LC, J2, ?_, ?_, r3⟩
    · unfold f_X10_of
      simp only [bnd_e]
      rw [w2, bd1_s, if_pos rfl, r1, bd2_s]
    · unfold f_X11_of
      simp only [bnd_e]
      rw [w3, bd1_s, if_pos rfl, r2, bd2_s]
