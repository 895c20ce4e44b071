/-! ===== the steps: text, counters, letters, back ===== -/
theorem RO.r0 {R : mR} (h : RO R) : R 0 0 = 1 := h.f (by decide)
theorem RO.r1 {R : mR} (h : RO R) : R 0 1 = 41 := h.f (by decide)
theorem RO.r2 {R : mR} (h : RO R) : R 0 2 = 243 := h.f (by decide)
theorem RO.r3 {R : mR} (h : RO R) : R 0 3 = 246 := h.f (by decide)
theorem RO.r4 {R : mR} (h : RO R) : R 0 4 = 248 := h.f (by decide)
theorem RO.r5 {R : mR} (h : RO R) : R 0 5 = 256 := h.f (by decide)
theorem RO.r6 {R : mR} (h : RO R) : R 0 6 = 263 := h.f (by decide)
theorem RO.r7 {R : mR} (h : RO R) : R 0 7 = 268 := h.f (by decide)
theorem RO.r8 {R : mR} (h : RO R) : R 0 8 = 271 := h.f (by decide)
theorem CI.tx {I I' : mI} {L : mL} {R : mR} {now : Sn} {past : List Sn} {T T' : List Int32} {b n f : Int32} (hs : OKS now past T) (h : CI I L R now past T b n f) (hI : ∀ a, a ≠ 243 → a ≠ 244 → I' a = I a) (hT : TxC I' T') : CI I' L R now past T' b n f := by
  obtain ⟨k1, k2, k3, k4, k5, k6⟩ := h
  exact ⟨k1, k2.cong k1.2.1 hs.1.1.1 (fun a x y => hI a (by omega) (by omega)) rfl, k3.fr k1 hs.2.1 (fun a x y => hI a (by omega) (by omega)), hT, by rw [hI 0 (by decide) (by decide)]; exact k5, k6.cong (by rw [hI 0 (by decide) (by decide)]) (by rw [hI 0 (by decide) (by decide)]) (by rw [hI 0 (by decide) (by decide)]) (fun a ha => hI a (by omega) (by omega)) (FrLc.rfl' L)⟩
theorem MI.tx {I I' : mI} {now : Sn} {past : List Sn} {T T' : List Int32} {b n f : Int32} (h : MI I now past T b n f) (hf : ∀ a, a ≠ 0 → a ≠ 5 → I' a = I a) (h0 : I' 0 3 = I 0 3) (hT : TxM I' T') : MI I' now past T' b n f := by
  unfold MI
  refine ⟨by rw [hf 1 (by decide) (by decide)]; exact h.1, h.2.1.cong h0 (hf 3 (by decide) (by decide)), hT, ?_⟩
  rw [hf 4 (by decide) (by decide)]
  exact h.2.2.2
theorem st_clear : St_clear Inv := by
  rintro IC LC RC IM LM RM ⟨rfl, now, past, T, b, n, f, hs, hC, hM⟩ _
  have hR := hC.1
  refine ⟨nI T.length, u2 IC 243 2 0, u2 IM 0 6 0, ?_, ?_, rfl, now, past, [], b, n, f, ⟨hs.1, hs.2.1, by decide⟩, hC.tx hs (fun a x _ => by rw [u2_n _ _ _ x]) ⟨by rw [u2_e]; rfl, fun k hk => by cases hk⟩, hM.tx (fun a x _ => by rw [u2_n _ _ _ x]) (by rw [u2_o _ _ _ (by decide)]) ⟨by rw [u2_e]; rfl, fun k hk => by cases hk⟩⟩
  · unfold f_X10_clear
    rw [hR.r2, hC.2.2.2.1.1]
    rfl
  · unfold f_X11_clear
    rw [hM.2.2.1.1]
    rfl
theorem st_type : St_type Inv := by
  rintro IC LC RC IM LM RM ⟨rfl, now, past, T, b, n, f, hs, hC, hM⟩ x1
  have hR := hC.1
  have hT := hs.2.2
  unfold f_X10_type f_X11_type
  rw [inM, bd1_s]
  simp only [bnd_e]
  by_cases hx : x1 < 0 ∨ 127 < x1
  · obtain ⟨I1, e1, e2⟩ := refC hs hC
    obtain ⟨I2, f1, f2⟩ := refM2 hM
    rw [if_pos hx, if_pos rfl, f1, bd2_s]
    refine ⟨-2, I1, I2, ?_, rfl, rfl, now, past, T, b + 1, n, f, hs, e2, f2⟩
    rcases hx with hx | hx
    · rw [if_pos hx, e1, bd2_s]
    · rw [if_neg (fun w => by rw [Int32.lt_iff_toInt_lt] at hx w; have : (127 : Int32).toInt = 127 := rfl; have : (0 : Int32).toInt = 0 := rfl; omega), if_neg (fun w => by rw [Int32.lt_iff_toInt_lt] at hx; rw [Int32.le_iff_toInt_le] at w; omega), e1, bd2_s]
  · have h1 : ¬ x1 < 0 := fun w => hx (Or.inl w)
    have h2 : x1 ≤ 127 := by
      have : ¬ 127 < x1 := fun w => hx (Or.inr w)
      rw [Int32.lt_iff_toInt_lt] at this
      rw [Int32.le_iff_toInt_le]
      omega
    rw [if_neg h1, if_pos h2, if_neg hx, if_neg n10, hR.r2, hC.2.2.2.1.1, hM.2.2.1.1]
    by_cases hl : T.length = 120
    · obtain ⟨I2, f1, f2⟩ := refM4 hM
      rw [hl, if_neg (show ¬ nI 120 < 120 by decide), if_pos (show nI 120 = 120 by decide), f1, bd2_s]
      refine ⟨-4, _, I2, rfl, rfl, rfl, now, past, T, b, n, f + 1, hs, hC.c0 hs (fun a ha => by rw [u2_n _ _ _ ha]) ⟨by rw [u2_o _ _ _ (by decide)]; exact hC.2.2.2.2.1.1, by rw [u2_o _ _ _ (by decide)]; exact hC.2.2.2.2.1.2.1, by rw [u2_e, hC.2.2.2.2.1.2.2]⟩ (hC.ct hs (by decide) _), f2⟩
    · have hl' : T.length < 120 := by omega
      have hr0 : RC 243 0 = 244 := hR.rd.1
      rw [if_pos (show nI T.length < 120 from nI_lt (b := 120) hl' (by decide)), if_neg (show ¬ nI T.length = 120 from fun w => hl (nI_inj (b := 120) (by omega) (by decide) w))]
      have hap : f_X2_append 243 x1 IC RC = some (u2 (u2 IC 244 T.length x1) 243 2 (nI (T.length + 1))) := by
        unfold f_X2_append
        rw [hC.2.2.2.1.1, if_neg (show ¬ (120 : Int32) ≤ nI T.length from nI_ge (b := 120) hl' (by decide)), hr0, lc244, if_pos (inb_nI hl' (by omega)), nI_clamp (by omega)]
        simp only [bnd_e]
        rw [u2_n _ _ _ (show (243 : Nat) ≠ 244 by decide), hC.2.2.2.1.1, nI_1 T.length]
      rw [hap, bd1_s, mr5, lm5, if_pos (inb_nI hl' (by omega)), nI_clamp (by omega), u2_n _ _ _ (show (0 : Nat) ≠ 5 by decide), hM.2.2.1.1, nI_1 T.length]
      refine ⟨nI (T.length + 1), _, _, by rw [u2_e], by rw [u2_e], rfl, now, past, T ++ [x1], b, n, f, ⟨hs.1, hs.2.1, by rw [List.length_append, List.length_singleton]; omega⟩, hC.tx hs (fun a x y => by rw [u2_n _ _ _ x, u2_n _ _ _ y]) ⟨by rw [u2_e, List.length_append]; rfl, fun k hk => ?_⟩, hM.tx (fun a x y => by rw [u2_n _ _ _ x, u2_n _ _ _ y]) (by rw [u2_o _ _ _ (by decide), u2_n _ _ _ (by decide)]) ⟨by rw [u2_e, List.length_append]; rfl, fun k hk => ?_⟩⟩
      · rw [List.length_append, List.length_singleton] at hk
        rw [u2_n _ _ _ (show (244 : Nat) ≠ 243 by decide)]
        by_cases w : k = T.length
        · rw [w, u2_e, gD_app_e]
        · rw [u2_o _ _ _ w, gD_app_l _ (by omega)]
          exact hC.2.2.2.1.2 k (by omega)
      · rw [List.length_append, List.length_singleton] at hk
        rw [u2_n _ _ _ (show (5 : Nat) ≠ 0 by decide)]
        by_cases w : k = T.length
        · rw [w, u2_e, gD_app_e]
        · rw [u2_o _ _ _ w, gD_app_l _ (by omega)]
          exact hM.2.2.1.2 k (by omega)
