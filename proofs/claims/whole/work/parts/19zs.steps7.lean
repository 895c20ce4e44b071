/-! ===== the steps: shown, weighs, weight, fall ===== -/
theorem FrMi.v {I I' : mI} (h : FrV I' I) : FrMi I' I := ⟨h.1 _ (by decide) (by decide) (by decide), h.1 _ (by decide) (by decide) (by decide), h.1 _ (by decide) (by decide) (by decide), h.1 _ (by decide) (by decide) (by decide), h.2 _ (by decide) (by decide), h.2 _ (by decide) (by decide)⟩
theorem FrMi.e {I I' : mI} (h : ∀ a, a ≠ 8 → I' a = I a) : FrMi I' I := ⟨h _ (by decide), h _ (by decide), h _ (by decide), h _ (by decide), by rw [h 0 (by decide)], by rw [h 0 (by decide)]⟩
theorem FrMi.trans {I I' I'' : mI} (h : FrMi I'' I') (h' : FrMi I' I) : FrMi I'' I := ⟨h.1.trans h'.1, h.2.1.trans h'.2.1, h.2.2.1.trans h'.2.2.1, h.2.2.2.1.trans h'.2.2.2.1, h.2.2.2.2.1.trans h'.2.2.2.2.1, h.2.2.2.2.2.trans h'.2.2.2.2.2⟩
theorem wt1M {I : mI} {w : List Int32} (h : WrM I w) (hl : w.length < 100) (c : Int32) : ∃ I', f_X11_writes 0 c I R1M = some I' ∧ WrM I' (w ++ [c]) ∧ FrV I' I := by
  refine ⟨u2 (u2 I 7 w.length c) 0 11 (nI (w.length + 1)), ?_, ⟨by rw [u2_e, List.length_append]; rfl, fun k hk => ?_⟩, fun a x _ y => by rw [u2_n _ _ _ x, u2_n _ _ _ y], fun k _ x => by rw [u2_o _ _ _ x, u2_n _ _ _ (by decide)]⟩
  · unfold f_X11_writes
    simp only [bnd_e]
    rw [h.1, mr10, lm7, if_pos (inb_nI hl (by omega)), nI_clamp (by omega), u2_n _ _ _ (show (0 : Nat) ≠ 7 by decide), h.1, nI_1 w.length]
  · rw [u2_n _ _ _ (by decide)]
    rw [List.length_append, List.length_singleton] at hk
    by_cases hk2 : k = w.length
    · rw [hk2, u2_e, gD_app_e]
    · rw [u2_o _ _ _ hk2, gD_app_l _ (by omega)]
      exact h.2 k (by omega)
theorem shM {I : mI} {now : Sn} {past : List Sn} {T : List Int32} {b n f : Int32} (hs : OKS now past T) (h : MI I now past T b n f) {r : Nat} (hr : r < now.1.length) : ∃ I1 I2 I3, f_X11_writesTerm 0 (nI (3 + 26 * r)) (nI (now.1.getD r dRu).1.length) (u2 I 0 11 0) R1M = some I1 ∧ f_X11_writes 0 62 I1 R1M = some I2 ∧ f_X11_writesTerm 0 (nI (15 + 26 * r)) (nI (now.1.getD r dRu).2.length) I2 R1M = some I3 ∧ I1 1 = I 1 ∧ I2 1 = I 1 ∧ WrM I3 (shS (now.1.getD r dRu)) ∧ FrV I3 I := by
  have h5 := hs.1.1.1
  obtain ⟨c1, c2, c3, c4⟩ := h.1.1.2 r hr
  have hu := hs.1.1.get hr
  obtain ⟨l1, l2, l3⟩ := shS_len hu
  have u3 := hu.2.2.1
  have u4 := hu.2.2.2.1
  have F0 : FrV (u2 I 0 11 0) I := ⟨fun a x _ _ => by rw [u2_n _ _ _ x], fun k _ y => by rw [u2_o _ _ _ y]⟩
  obtain ⟨I1, e1, e2, e3⟩ := wtsM_ok (I := u2 I 0 11 0) (w := []) (o := 3 + 26 * r) (by omega) u3 hu.1 (fun k hk => by rw [u2_n _ _ _ (by decide)]; exact c3 k hk) ⟨by rw [u2_e]; rfl, fun k hk => by cases hk⟩ (by rw [List.length_nil]; omega)
  rw [List.nil_append] at e2
  obtain ⟨I2, g1, g2, g3⟩ := wt1M e2 (by omega) 62
  have F1 := e3.trans F0
  have F2 := g3.trans F1
  have h11 : I1 1 = I 1 := F1.1 1 (by decide) (by decide) (by decide)
  have h21 : I2 1 = I 1 := F2.1 1 (by decide) (by decide) (by decide)
  obtain ⟨I3, j1, j2, j3⟩ := wtsM_ok (I := I2) (w := wrS (now.1.getD r dRu).1 ++ [62]) (o := 15 + 26 * r) (by omega) u4 hu.2.1 (fun k hk => by rw [h21]; exact c4 k hk) g2 (by rw [List.length_append, List.length_singleton]; omega)
  exact ⟨I1, I2, I3, e1, g1, j1, h11, h21, j2, j3.trans F2⟩
theorem lm7' : lnM 7 = 100 := rfl
theorem st_shown : St_shown Inv := by
  rintro IC LC RC IM LM RM ⟨rfl, now, past, T, b, n, f, hs, hC, hM⟩ x1 x2
  obtain ⟨hR, k2, k3, k4, k5, k6⟩ := id hC
  have h5 := hs.1.1.1
  have h10 : RC 1 0 = 2 := hR.now.1
  have l2 : lnC 2 = 5 := hR.now.2.2.1
  have r0 : RC 246 0 = 247 := hR.f (by decide)
  obtain ⟨I1, e1, e2⟩ := refC hs hC
  obtain ⟨I2, f1, f2⟩ := refM2 hM
  have r3 : Inv I1 LC RC I2 LM R1M := ⟨rfl, now, past, T, b + 1, n, f, hs, e2, f2⟩
  unfold f_X10_shown f_X11_shown
  simp only [bnd_e]
  rcases isRule2 hs.1.1.1 hR hC.2.1.1.1 hM.1.1.1 x1 with ⟨r, w1, rfl, w2, w3⟩ | ⟨w2, w3⟩
  · rw [w2, w3, bd1_s, bd1_s, if_neg n10, if_neg n10]
    by_cases hx : (-1 : Int32) ≤ x2
    · have hq := (hR.now.2.2.2.2.1 r (by omega)).1
      have hc : RuC IC (RC 2 r) (now.1.getD r dRu) := k2.1.2 r w1
      have hu := hs.1.1.get w1
      have hlen := (shS_len hu).1
      obtain ⟨J, j1, j2, j3⟩ := wrRC_ok r0 hq hc hu
      obtain ⟨M1, M2, M3, y1, y2, y3, y4, y5, y6, y7⟩ := shM hs hM w1
      have cm := hM.1.1.2 r w1
      have FJ : FrC J IC := ⟨fun a _ _ x y _ => j3 a x y, by rw [j3 243 (by decide) (by decide)]⟩
      rw [if_pos hx, if_pos hx, hR.r0, h10, l2, if_pos (inb_nI (by omega) (by omega)), nI_clamp (by omega), hR.r3, j1, bd1_s, j2.1, leftOf_ok, bd1_s, mr0, leftLong_ok lm1 (by omega), u2_n _ _ _ (show (1 : Nat) ≠ 0 by decide), bd1_s, cm.1, y1, bd1_s, y2, bd1_s, rightOf_ok, bd1_s, rightLong_ok lm1 (by omega), y5, cm.2.1, bd1_s, y3, bd1_s, y6.1]
      have hI : Inv J LC RC M3 LM R1M := ⟨rfl, now, past, T, b, n, f, hs, hC.fr hs FJ (FrLc.rfl' _), hM.fr (FrMi.v y7)⟩
      by_cases h1 : x2 = -1
      · rw [if_pos h1, if_pos h1]
        exact ⟨_, J, M3, rfl, rfl, hI⟩
      · rw [if_neg h1, if_neg h1]
        have h0 : ¬ x2 < 0 := by
          rw [Int32.le_iff_toInt_le] at hx
          rw [Int32.lt_iff_toInt_lt]
          have e1 : (-1 : Int32).toInt = -1 := rfl
          have e2 : (0 : Int32).toInt = 0 := rfl
          have : x2.toInt ≠ -1 := fun w => h1 (by rw [← Int32.toInt_inj]; exact w)
          omega
        obtain ⟨k, hk, rfl⟩ := nI_of (x := x2) h0
        by_cases hl : (shS (now.1.getD r dRu)).length ≤ k
        · rw [if_pos (nI_le hl hk), if_pos (nI_le hl hk)]
          exact ⟨_, J, M3, rfl, rfl, hI⟩
        · rw [if_neg (nI_ge (by omega) (by omega)), if_neg (nI_ge (by omega) (by omega)), r0, lc247, if_pos (inb_nI (by omega) (by omega)), nI_clamp (by omega), mr10, lm7, if_pos (inb_nI (by omega) (by omega)), j2.2 k (by omega), y6.2 k (by omega)]
          exact ⟨_, J, M3, rfl, rfl, hI⟩
    · rw [if_neg hx, if_neg hx, e1, f1, bd2_s, bd2_s]
      exact ⟨-2, I1, I2, rfl, rfl, r3⟩
  · rw [w2, w3, bd1_s, bd1_s, if_pos rfl, if_pos rfl, e1, f1, bd2_s, bd2_s]
    exact ⟨-2, I1, I2, rfl, rfl, r3⟩
theorem fallC {I : mI} {L : mL} {R : mR} {now : Sn} {past : List Sn} {T : List Int32} {b n f : Int32} (hs : OKS now past T) (h : CI I L R now past T b n f) : ∃ I', f_X10_fall 0 I R = some (bv (lstS now.1 (-1)), I') ∧ CI I' L R now past T b n f := by
  obtain ⟨hR, k2, k3, k4, k5, k6⟩ := id h
  have go : ∀ v, v = I 0 11 → v = bv (lstS now.1 (-1)) → ∃ I', some (I 0 11, I) = some (bv (lstS now.1 (-1)), I') ∧ CI I' L R now past T b n f := fun v e1 e2 => ⟨I, by rw [← e1, e2], h⟩
  unfold f_X10_fall
  by_cases hx : I 0 11 = -9
  · obtain ⟨w, I1, e1, e2, e3⟩ := lwC_ok (x := -1) hR hs.1.1 k2.1 (fun q => absurd rfl q)
    have hw := lstS_e e3
    rw [if_pos hx, hR.r5, hR.r0, hR.r4, e1, bd2_s]
    simp only [bnd_e]
    rw [u2_e]
    have F1 : FrC I1 I := FrC.hi (fun a ha => e2.1 a (by omega) (by omega) (by omega) (by omega))
    have h1 : CI I1 L R now past T b n f := h.fr hs F1 (FrLc.rfl' _)
    refine ⟨_, by rw [hw], h1.c0 hs (fun a ha => by rw [u2_n _ _ _ ha]) ?_ ⟨?_, ?_, Or.inr (by rw [u2_e])⟩⟩
    · rw [u2_o _ _ _ (by decide), u2_o _ _ _ (by decide), u2_o _ _ _ (by decide)]
      exact h1.2.2.2.2.1
    · rw [u2_o _ _ _ (by decide)]
      exact h1.2.2.2.2.2.1.imp id (fun w => ⟨w.1, w.2.cong (by rw [u2_n _ _ _ (by decide)]) (by rw [u2_n _ _ _ (by decide)]) (by rw [u2_n _ _ _ (by decide)]) (by rw [u2_n _ _ _ (by decide)]) (FrLc.rfl' _)⟩)
    · rw [u2_o _ _ _ (by decide), u2_o _ _ _ (by decide)]
      refine h1.2.2.2.2.2.2.1.imp id (fun w => ⟨w.1, w.2.1, ?_⟩)
      unfold WgC
      rw [u2_n _ _ _ (show (255 : Nat) ≠ 0 by decide), u2_n _ _ _ (show (248 : Nat) ≠ 0 by decide)]
      exact w.2.2
  · rw [if_neg hx]
    exact go _ rfl (k6.2.2.elim (fun q => absurd q hx) id)
theorem fallM' {I : mI} {L : mL} {now : Sn} {past : List Sn} {T : List Int32} {b n f : Int32} (hs : OKS now past T) (h : MI I now past T b n f) : ∃ I' L', f_X11_fall 0 I L R1M = some (bv (lstS now.1 (-1)), I', L') ∧ (∀ a, a ≠ 8 → I' a = I a) ∧ FrLw L' L := by
  obtain ⟨I1, L1, w, e1, e2, e3, e4⟩ := fallM_ok (L := L) hs.1.1 h.1.1
  exact ⟨I1, L1, by rw [e1, lstS_e e4], e2, e3⟩
theorem st_fall : St_fall Inv := by
  rintro IC LC RC IM LM RM ⟨rfl, now, past, T, b, n, f, hs, hC, hM⟩ _
  obtain ⟨I1, e1, e2⟩ := fallC hs hC
  obtain ⟨I2, L2, f1, f2, f3⟩ := fallM' (L := LM) hs hM
  exact ⟨_, I1, I2, L2, e1, f1, rfl, now, past, T, b, n, f, hs, e2, hM.fr (FrMi.e f2)⟩
theorem cmR_C {I : mI} {R : mR} {rs : List Ru} {r : Nat} {F : Nat → Nat} (hR : RO R) (hr : RsOK rs) (hk : r < rs.length) (hc : RuC I (R 2 r) (rs.getD r dRu)) (hF : ∀ i, i < 7 → F i ≤ 3) (hf : ∀ i, i < 7 → I 271 i = nI (F i)) : ∃ I', f_X4_compareSides 256 (R 2 r) 271 I R = some (cmR rs F r, I') ∧ FrSc I' I := by
  have hr5 := hr.1
  obtain ⟨I1, e1, e2⟩ := csC_ok hR.sc (hR.now.2.2.2.2.1 r (by omega)).1 (hr.get hk) hc hF hf
  refine ⟨I1, ?_, e2⟩
  rw [e1]
  unfold cmR
  have hu := hr.get hk
  rw [vA_cv hF hu.2.2.1 hu.1 hu.1.pos, vA_cv hF hu.2.2.2.1 hu.2.1 hu.2.1.pos]
theorem FrC.sc {I I' : mI} (h : FrSc I' I) : FrC I' I := FrC.hi (fun a ha => h.1 a (by omega) (by omega) (by omega) (by omega))
theorem wgC {I : mI} {L : mL} {R : mR} {now : Sn} {past : List Sn} {T : List Int32} {b n f : Int32} (hs : OKS now past T) (h : CI I L R now past T b n f) {x : Int32} (hx : figOK x = true) {r : Nat} (hr : r < now.1.length) : ∃ I', f_X10_weighs 0 x (nI r) I R = some (cmR now.1 (figS x.toNatClampNeg) r, I') ∧ FrC I' I := by
  obtain ⟨hR, k2, k3, k4, k5, k6⟩ := id h
  have h5 := hs.1.1.1
  have h10 : R 1 0 = 2 := hR.now.1
  have l2 : lnC 2 = 5 := hR.now.2.2.1
  obtain ⟨I1, e1, e2⟩ := spC_ok hR.r8 x I
  rcases e2 with ⟨_, e2, e3⟩ | ⟨e2, _⟩
  · have F1 : FrC I1 I := FrC.hi (fun a ha => e1 a (by omega))
    have hc : RuC I1 (R 2 r) (now.1.getD r dRu) := (k2.1.2 r hr).cong (fun a x y => e1 a (by
      have := hR.now.2.2.2.2.1 r (by omega)
      have z : a ≤ R 2 r + 6 := y
      omega))
    obtain ⟨I2, g1, g2⟩ := cmR_C hR hs.1.1 hr hc (figOK_le hx) e3
    refine ⟨I2, ?_, (FrC.sc g2).trans F1⟩
    unfold f_X10_weighs
    simp only [bnd_e]
    have hir : f_X10_isRule 0 (nI r) I1 R = some 1 := by
      unfold f_X10_isRule
      simp only [bnd_e]
      rw [if_neg (nI_pos (by omega)), hR.r0, e1 1 (by decide), k2.1.1, if_neg (nI_ge hr (by omega))]
    rw [e2, bd2_s, if_neg n10, hir, bd1_s, if_neg n10, hR.r0, h10, l2, if_pos (inb_nI (by omega) (by omega)), nI_clamp (by omega), hR.r5, hR.r8, g1, bd2_s]
  · rw [hx] at e2; cases e2
