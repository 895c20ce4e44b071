/-! ===== the steps: settles, next, turns ===== -/
theorem FrMi.t {I I' : mI} (h : FrT I' I) : FrMi I' I := ⟨h.1 _ (by decide) (by decide) (by decide) (by decide) (by decide), h.1 _ (by decide) (by decide) (by decide) (by decide) (by decide), h.1 _ (by decide) (by decide) (by decide) (by decide) (by decide), h.1 _ (by decide) (by decide) (by decide) (by decide) (by decide), h.2 _ (by decide) (by decide) (by decide) (by decide), h.2 _ (by decide) (by decide) (by decide) (by decide)⟩
theorem FrC.hi {I I' : mI} (h : ∀ a, a < 256 → I' a = I a) : FrC I' I := ⟨fun a _ _ _ _ x => h a x, by rw [h 243 (by decide)]⟩
theorem RO.t0 {R : mR} (h : RO R) : R 263 0 = 264 := h.f (by decide)
theorem RO.t1 {R : mR} (h : RO R) : R 263 1 = 267 := h.f (by decide)
theorem setC {I : mI} {L : mL} {R : mR} {now : Sn} {past : List Sn} {T : List Int32} {b n f : Int32} (hs : OKS now past T) (h : CI I L R now past T b n f) : ∃ I', f_X10_settles 0 I R = some (setS now.1 30 0 now.2, I') ∧ FrC I' I := by
  obtain ⟨hR, k2, _⟩ := h
  obtain ⟨s0, s1, s2⟩ := hs.1
  have h11 : R 1 1 = 3 := hR.now.2.1
  have t3 := hR.now.2.2.2.1
  obtain ⟨I1, e1, e2, e3⟩ := copyT_ok hR.sp t3 (by omega) k2.2 s2 s2
  have e3' : ∀ a, a < 256 → I1 a = I a := fun a ha => e3 a (by omega) (by omega) (by omega)
  have r1 : RsC I1 R 1 now.1 := k2.1.cong hR.2.1 s0.1 (by rw [e3' 1 (by decide)]) (fun a x y => e3' a (by omega))
  obtain ⟨I2, g1, g2, g3⟩ := tmC_ok (m := 30) hR.sp hR.bt hR.t0 hR.t1 (Or.inr (by decide)) hR.2.1 (Or.inr (by decide)) s0 (Nat.le_refl _) e2 r1 s1 s2
  have g3' : ∀ a, a < 256 → I2 a = I1 a := fun a ha => g3 a (by omega) (by omega) (by omega) (by omega)
  have r2 : RsC I2 R 1 now.1 := r1.cong hR.2.1 s0.1 (by rw [g3' 1 (by decide)]) (fun a x y => g3' a (by omega))
  obtain ⟨o1, o2⟩ := iterS_ok s0 30 now.2 s1 s2
  obtain ⟨I3, j1, j2⟩ := seekC_ok hR.sp o2 hR.2.1 hR.t1 (Or.inr (by decide)) s0 o1 g2 r2
  refine ⟨I3, ?_, FrC.hi (fun a ha => by rw [j2 a (by omega) (by omega), g3' a ha, e3' a ha])⟩
  unfold f_X10_settles setS
  rw [hR.r7, hR.r6, hR.r0, h11, e1, bd1_s, show (30 : Int32) = nI 30 from rfl, g1, bd2_s, Nat.zero_add]
  rcases j1 with ⟨j3, j4⟩ | ⟨r, a, j3, j4, _⟩
  · rw [j4, bd2_s, if_pos rfl, j3]
    rfl
  · rw [j4, bd2_s, if_neg n10, j3]
    rfl
theorem setM {I : mI} {now : Sn} {past : List Sn} {T : List Int32} {b n f : Int32} (hs : OKS now past T) (h : MI I now past T b n f) : ∃ I', f_X11_settled 0 I R1M = some (setS now.1 30 0 now.2, I') ∧ FrT I' I := by
  obtain ⟨s0, s1, s2⟩ := hs.1
  obtain ⟨I1, e1, e2, e3⟩ := laysT_ok s2 h.1.2
  obtain ⟨I2, g1, g2⟩ := setM_L s0 30 FU 0 I1 now.2 (by omega) (by rw [FU_eq]; omega) (by omega) (by rw [e3.1 1 (by decide) (by decide) (by decide) (by decide) (by decide)]; exact h.1.1) e2 s1 s2
  refine ⟨I2, ?_, g2.trans e3⟩
  unfold f_X11_settled
  rw [nI0] at g1
  rw [e1, bd1_s, g1]
  rfl
def nextS (rs : List Ru) (l : List Int32) (k : Nat) : Int32 := match turnS rs l with
  | none => -1
  | some (r, a) => if k = 0 then nI r else nI a
theorem nextC {I : mI} {L : mL} {R : mR} {now : Sn} {past : List Sn} {T : List Int32} {b n f : Int32} (hs : OKS now past T) (h : CI I L R now past T b n f) {k : Nat} (hk : k ≤ 1) : ∃ I', f_X10_next 0 (nI k) I R = some (nextS now.1 now.2 k, I') ∧ FrC I' I := by
  obtain ⟨hR, k2, _⟩ := h
  obtain ⟨s0, s1, s2⟩ := hs.1
  have h11 : R 1 1 = 3 := hR.now.2.1
  have t3 := hR.now.2.2.2.1
  obtain ⟨I3, j1, j2⟩ := seekC_ok t3 s2 hR.2.1 hR.t1 (Or.inl (by decide)) s0 s1 k2.2 k2.1
  refine ⟨I3, ?_, FrC.hi (fun a ha => j2 a (by omega) (by omega))⟩
  unfold f_X10_next nextS
  simp only [bnd_e]
  rw [if_neg (nI_pos (by omega)), if_pos (show nI k ≤ 1 from nI_le (b := 1) hk (by decide)), hR.r6, hR.r0, h11]
  rcases j1 with ⟨j3, j4⟩ | ⟨r, a, j3, j4, j5, j6⟩
  · rw [j4, bd2_s, if_pos rfl, j3]
  · rw [j4, bd2_s, if_neg n10, j3, j5, j6]
    rcases (show k = 0 ∨ k = 1 by omega) with rfl | rfl <;> rfl
theorem nextM {I : mI} {now : Sn} {past : List Sn} {T : List Int32} {b n f : Int32} (hs : OKS now past T) (h : MI I now past T b n f) {k : Nat} (hk : k ≤ 1) : ∃ I', f_X11_nextOf 0 (nI k) I R1M = some (nextS now.1 now.2 k, I') ∧ FrT I' I := by
  obtain ⟨s0, s1, s2⟩ := hs.1
  obtain ⟨I1, e1, e2, e3⟩ := laysT_ok s2 h.1.2
  obtain ⟨I2, g1, g2⟩ := findsTurn_ok s1 s2 s0 (by rw [e3.1 1 (by decide) (by decide) (by decide) (by decide) (by decide)]; exact h.1.1) e2
  refine ⟨I2, ?_, (FrT.ofM g1).trans e3⟩
  unfold f_X11_nextOf nextS
  rw [e1, bd1_s]
  rcases g2 with ⟨j3, j4⟩ | ⟨r, a, j3, j4, j5, j6⟩
  · rw [j4, bd2_s, if_pos rfl, j3]
  · rw [j4, bd2_s, if_neg n10, j3, j5, j6]
    rcases (show k = 0 ∨ k = 1 by omega) with rfl | rfl <;> rfl
theorem st_settles : St_settles Inv := by
  rintro IC LC RC IM LM RM ⟨rfl, now, past, T, b, n, f, hs, hC, hM⟩ _
  obtain ⟨I1, e1, e2⟩ := setC hs hC
  obtain ⟨I2, f1, f2⟩ := setM hs hM
  refine ⟨_, I1, I2, e1, ?_, rfl, now, past, T, b, n, f, hs, hC.fr hs e2 (FrLc.rfl' _), hM.fr (FrMi.t f2)⟩
  unfold f_X11_settles
  rw [f1, bd2_s]
theorem st_next : St_next Inv := by
  rintro IC LC RC IM LM RM ⟨rfl, now, past, T, b, n, f, hs, hC, hM⟩ x1
  rcases rngI x1 (m := 1) (by decide) with ⟨k, k1, rfl, k3, _⟩ | ⟨k1, k2, k3⟩
  · obtain ⟨I1, e1, e2⟩ := nextC hs hC k1
    obtain ⟨I2, f1, f2⟩ := nextM hs hM k1
    refine ⟨_, I1, I2, e1, ?_, rfl, now, past, T, b, n, f, hs, hC.fr hs e2 (FrLc.rfl' _), hM.fr (FrMi.t f2)⟩
    unfold f_X11_next
    rw [inM, show (1 : Int32) = nI 1 from rfl, if_neg k3, bd1_s, if_neg (show ¬ nI 1 = 0 by decide), f1, bd2_s]
  · obtain ⟨I1, e1, e2⟩ := refC hs hC
    obtain ⟨I2, f1, f2⟩ := refM2 hM
    refine ⟨-2, I1, I2, ?_, ?_, rfl, now, past, T, b + 1, n, f, hs, e2, f2⟩
    · unfold f_X10_next
      simp only [bnd_e]
      rcases k3 with k3 | ⟨k3, k4⟩
      · rw [if_pos k3, e1, bd2_s]
      · rw [if_neg k3, if_neg (show ¬ x1 ≤ 1 from k4), e1, bd2_s]
    · unfold f_X11_next
      rw [inM, if_pos (show x1 < 0 ∨ 1 < x1 from k1), bd1_s, if_pos rfl, f1, bd2_s]
theorem st_turns : St_turns Inv := by
  rintro IC LC RC IM LM RM ⟨rfl, now, past, T, b, n, f, hs, hC, hM⟩ x1
  obtain ⟨hR, k2, k3, k4, k5, k6⟩ := id hC
  obtain ⟨m1, m2, m3, m4⟩ := id hM
  obtain ⟨s0, s1, s2⟩ := hs.1
  rcases rngI x1 (m := 30) (by decide) with ⟨k, w1, rfl, w3, w4, w5⟩ | ⟨w1, w2, w3⟩
  · obtain ⟨I1, R1, e1, e2, e3, e4, e5⟩ := keepC_ok hR k3 hs.2.1 k2 hs.1
    have q2 : SnC I1 R1 1 now := k2.cong hR.2.1 s0.1 (fun a x y => e5 a (by omega)) (e3 _ (by decide))
    have h11 : R1 1 1 = 3 := e2.now.2.1
    have t3 := e2.now.2.2.2.1
    obtain ⟨I2, g1, g2, g3⟩ := tmC_ok (m := k) t3 e2.bt e2.t0 e2.t1 (Or.inl (by decide)) e2.2.1 (Or.inl rfl) s0 w1 q2.2 q2.1 s1 s2
    obtain ⟨o1, o2⟩ := iterS_ok s0 k now.2 s1 s2
    have hOK' : OKS (now.1, (iterS now.1 k now.2).2) (pushS past now) T := ⟨⟨s0, o1, o2⟩, hs.2.1.push hs.1, hs.2.2⟩
    obtain ⟨J0, j1, j2, j3, j4⟩ := remM_ok m2 hs.2.1 m1 hs.1
    have hJ1 : J0 1 = IM 1 := j3 1 (by decide) (by decide)
    obtain ⟨J1, y1, y2, y3, y4, y5⟩ := turnsM_ok s0 w1 j1 (by rw [hJ1]; exact m1.1) (by rw [hJ1]; exact m1.2) s1 s2
    refine ⟨nI (iterS now.1 k now.2).1, I2, R1, J1, ?_, y1, rfl, (now.1, (iterS now.1 k now.2).2), pushS past now, T, b, n, f, hOK', ?_, ?_⟩
    · unfold f_X10_turns
      simp only [bnd_e]
      rw [if_neg w4, if_pos (show nI k ≤ 30 from w5), hR.r0, hR.r1, e1, bd2_s, e2.r6, e2.r0, h11, g1, bd2_s]
    · have g3' : ∀ a, a ≠ 3 → a ≠ 4 → a ≠ 5 → a < 256 → I2 a = I1 a := fun a x y z w => g3 a x y z (by omega)
      refine ⟨e2, ⟨q2.1.cong e2.2.1 s0.1 (by rw [g3' 1 (by decide) (by decide) (by decide) (by decide)]) (fun a x y => g3' a (by omega) (by omega) (by omega) (by omega)), g2⟩, e4.fr e2 hOK'.2.1 (fun a x y => g3' a (by omega) (by omega) (by omega) (by omega)), ?_, ?_, ?_⟩
      · exact k4.cong (by rw [g3' 243 (by decide) (by decide) (by decide) (by decide), e5 243 (by omega)]) (by rw [g3' 244 (by decide) (by decide) (by decide) (by decide), e5 244 (by omega)])
      · rw [g3' 0 (by decide) (by decide) (by decide) (by decide), e5 0 (by omega)]
        exact k5
      · have h0 : I2 0 = IC 0 := by rw [g3' 0 (by decide) (by decide) (by decide) (by decide), e5 0 (by omega)]
        exact k6.cong (by rw [h0]) (by rw [h0]) (by rw [h0]) (fun a ha => by rw [g3' a (by omega) (by omega) (by omega) (by omega), e5 a (by omega)]) (FrLc.rfl' _)
    · refine ⟨⟨m1.1.cong s0 (fun j hj => by rw [y3 j (by omega), hJ1]), y2⟩, j2.cong (y5 3 (by decide) (by decide) (by decide) (by decide)) (y4 3 (by decide) (by decide) (by decide) (by decide) (by decide) (by decide)), ?_, ?_⟩
      · unfold TxM
        rw [y5 6 (by decide) (by decide) (by decide) (by decide), y4 5 (by decide) (by decide) (by decide) (by decide) (by decide) (by decide), j4 6 (by decide), j3 5 (by decide) (by decide)]
        exact m3
      · rw [y4 4 (by decide) (by decide) (by decide) (by decide) (by decide) (by decide), j3 4 (by decide) (by decide)]
        exact m4
  · obtain ⟨I1, e1, e2⟩ := refC hs hC
    obtain ⟨I2, f1, f2⟩ := refM2 hM
    refine ⟨-2, I1, RC, I2, ?_, ?_, rfl, now, past, T, b + 1, n, f, hs, e2, f2⟩
    · unfold f_X10_turns
      simp only [bnd_e]
      rcases w3 with w3 | ⟨w3, w4⟩
      · rw [if_pos w3, e1, bd2_s]
      · rw [if_neg w3, if_neg (show ¬ x1 ≤ 30 from w4), e1, bd2_s]
    · unfold f_X11_turns
      rw [inM, if_pos (show x1 < 0 ∨ 30 < x1 from w1), bd1_s, if_pos rfl, f1, bd2_s]
