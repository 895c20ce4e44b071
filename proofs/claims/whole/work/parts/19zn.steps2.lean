/-! ===== the steps: told, letter, back ===== -/
theorem rngI (x : Int32) {m : Nat} (hm : m < 2 ^ 31) : (∃ k, k ≤ m ∧ x = nI k ∧ ¬ (x < 0 ∨ nI m < x) ∧ ¬ x < 0 ∧ x ≤ nI m) ∨ ((x < 0 ∨ nI m < x) ∧ (∀ k, k ≤ m → ¬ x = nI k) ∧ (x < 0 ∨ (¬ x < 0 ∧ ¬ x ≤ nI m))) := by
  by_cases h0 : x < 0
  · refine Or.inr ⟨Or.inl h0, fun k hk e => ?_, Or.inl h0⟩
    rw [e] at h0
    exact nI_pos (by omega) h0
  · obtain ⟨k, hk, rfl⟩ := nI_of (x := x) h0
    by_cases hkm : k ≤ m
    · exact Or.inl ⟨k, hkm, rfl, fun w => w.elim h0 (nI_nlt hkm hm), h0, nI_le hkm hm⟩
    · exact Or.inr ⟨Or.inr (nI_lt (by omega) hk), fun j hj e => hkm (by rw [nI_inj hk (by omega) e]; exact hj), Or.inr ⟨h0, nI_ge (by omega) hk⟩⟩
theorem rngL (x : Int32) {m : Nat} (hm : m < 2 ^ 31) : (∃ k, k < m ∧ x = nI k ∧ ¬ (x < 0 ∨ nI m - 1 < x) ∧ ¬ x < 0 ∧ ¬ nI m ≤ x) ∨ ((x < 0 ∨ nI m - 1 < x) ∧ (x < 0 ∨ (¬ x < 0 ∧ nI m ≤ x))) := by
  cases m with
  | zero =>
    by_cases h0 : x < 0
    · exact Or.inr ⟨Or.inl h0, Or.inl h0⟩
    · refine Or.inr ⟨Or.inr ?_, Or.inr ⟨h0, ?_⟩⟩
      · rw [Int32.lt_iff_toInt_lt] at h0 ⊢
        have e1 : (nI 0 - 1).toInt = -1 := by decide
        have e2 : (0 : Int32).toInt = 0 := rfl
        omega
      · rw [Int32.lt_iff_toInt_lt] at h0
        rw [Int32.le_iff_toInt_le]
        have e1 : (nI 0).toInt = 0 := by decide
        have e2 : (0 : Int32).toInt = 0 := rfl
        omega
  | succ m =>
    have e : nI (m + 1) - 1 = nI m := by rw [nI_m1, pk_m1]
    rw [e]
    rcases rngI x (m := m) (by omega) with ⟨k, k1, k2, k3, k4, _⟩ | ⟨k1, _, k3⟩
    · refine Or.inl ⟨k, by omega, k2, k3, k4, ?_⟩
      rw [k2]
      exact nI_ge (by omega) hm
    · refine Or.inr ⟨k1, k3.imp id (fun w => ⟨w.1, ?_⟩)⟩
      obtain ⟨k, hk, rfl⟩ := nI_of (x := x) w.1
      have : ¬ k ≤ m := fun q => w.2 (nI_le q (by omega))
      exact nI_le (by omega) hk
def toldS (now : Sn) (past : List Sn) (T : List Int32) (b n f : Int32) (k : Nat) : Int32 := if k = 0 then b else if k = 1 then n else if k = 2 then f else if k = 3 then nI T.length else if k = 4 then nI now.1.length else if k = 5 then nI now.2.length else nI past.length
theorem toldC {I : mI} {L : mL} {R : mR} {now : Sn} {past : List Sn} {T : List Int32} {b n f : Int32} (h : CI I L R now past T b n f) {k : Nat} (hk : k ≤ 6) : f_X10_told 0 (nI k) I R = some (toldS now past T b n f k, I) := by
  obtain ⟨k1, k2, k3, k4, k5, k6⟩ := h
  have h11 : R 1 1 = 3 := k1.now.2.1
  unfold f_X10_told toldS
  rw [k1.r0, k1.r1, k1.r2, h11, k5.1, k5.2.1, k5.2.2, k4.1, k2.1.1, k2.2.1, k3.1]
  rcases (show k = 0 ∨ k = 1 ∨ k = 2 ∨ k = 3 ∨ k = 4 ∨ k = 5 ∨ k = 6 by omega) with rfl | rfl | rfl | rfl | rfl | rfl | rfl <;> rfl
theorem toldM {I : mI} {now : Sn} {past : List Sn} {T : List Int32} {b n f : Int32} (h : MI I now past T b n f) {k : Nat} (hk : k ≤ 6) : f_X11_toldOf 0 (nI k) I R1M = some (toldS now past T b n f k) := by
  obtain ⟨k1, k2, k3, k4, k5, k6⟩ := h
  unfold f_X11_toldOf toldS
  rw [mr0, mr4, lm1, lm4, k3.1, k2.1, i0, k1.1.1, show (131 : Int32).toNatClampNeg = 131 from rfl, k1.2.1]
  rcases (show k = 0 ∨ k = 1 ∨ k = 2 ∨ k = 3 ∨ k = 4 ∨ k = 5 ∨ k = 6 by omega) with rfl | rfl | rfl | rfl | rfl | rfl | rfl
  · rw [show (nI 0).toNatClampNeg = 0 from rfl, k4]; rfl
  · rw [show (nI 1).toNatClampNeg = 1 from rfl, k5]; rfl
  · rw [show (nI 2).toNatClampNeg = 2 from rfl, k6]; rfl
  · rfl
  · rfl
  · rfl
  · rfl
theorem st_told : St_told Inv := by
  rintro IC LC RC IM LM RM ⟨rfl, now, past, T, b, n, f, hs, hC, hM⟩ x1
  rcases rngI x1 (m := 6) (by decide) with ⟨k, k1, rfl, k3, _⟩ | ⟨k1, k2, _⟩
  · refine ⟨_, IC, IM, toldC hC k1, ?_, rfl, now, past, T, b, n, f, hs, hC, hM⟩
    unfold f_X11_told
    rw [inM, show (6 : Int32) = nI 6 from rfl, if_neg k3, bd1_s, if_neg n10, toldM hM k1, bd1_s]
  · obtain ⟨I1, e1, e2⟩ := refC hs hC
    obtain ⟨I2, f1, f2⟩ := refM2 hM
    refine ⟨-2, I1, I2, ?_, ?_, rfl, now, past, T, b + 1, n, f, hs, e2, f2⟩
    · unfold f_X10_told
      rw [if_neg (show ¬ x1 = 0 from k2 0 (by decide)), if_neg (show ¬ x1 = 1 from k2 1 (by decide)), if_neg (show ¬ x1 = 2 from k2 2 (by decide)), if_neg (show ¬ x1 = 3 from k2 3 (by decide)), if_neg (show ¬ x1 = 4 from k2 4 (by decide)), if_neg (show ¬ x1 = 5 from k2 5 (by decide)), if_neg (show ¬ x1 = 6 from k2 6 (by decide)), e1, bd2_s]
    · unfold f_X11_told
      rw [inM, show (6 : Int32) = nI 6 from rfl, if_pos k1, bd1_s, if_pos rfl, f1, bd2_s]
theorem st_letter : St_letter Inv := by
  rintro IC LC RC IM LM RM ⟨rfl, now, past, T, b, n, f, hs, hC, hM⟩ x1
  have hR := hC.1
  have h11 : RC 1 1 = 3 := hR.now.2.1
  obtain ⟨t0, t1', t2', t3, t4⟩ := hR.now.2.2.2.1
  have h60 := hs.1.2.2
  unfold f_X10_letter f_X11_letter
  rw [hR.r0, h11, t0, t2', hC.2.1.2.1, mr0, lm1, if_pos (show inb 131 192 = true from rfl), show (131 : Int32).toNatClampNeg = 131 from rfl, hM.1.2.1]
  by_cases hm : (-1 : Int32) ≤ x1
  · rw [if_pos hm, if_pos hm]
    by_cases h1 : x1 = -1
    · rw [if_pos h1, if_pos h1]
      exact ⟨_, IC, IM, rfl, rfl, rfl, now, past, T, b, n, f, hs, hC, hM⟩
    · rw [if_neg h1, if_neg h1]
      have h0 : ¬ x1 < 0 := by
        rw [Int32.le_iff_toInt_le] at hm
        rw [Int32.lt_iff_toInt_lt]
        have e1 : (-1 : Int32).toInt = -1 := rfl
        have e2 : (0 : Int32).toInt = 0 := rfl
        have : x1.toInt ≠ -1 := fun w => h1 (by rw [← Int32.toInt_inj]; exact w)
        omega
      obtain ⟨k, hk, rfl⟩ := nI_of (x := x1) h0
      by_cases hl : now.2.length ≤ k
      · rw [if_pos (nI_le hl hk), if_pos (nI_le hl hk)]
        exact ⟨_, IC, IM, rfl, rfl, rfl, now, past, T, b, n, f, hs, hC, hM⟩
      · rw [if_neg (nI_ge (by omega) (by omega)), if_neg (nI_ge (by omega) (by omega)), show (132 : Int32) = nI 132 from rfl, nI_add, if_pos (inb_nI (by omega) (by omega)), if_pos (inb_nI (by omega) (by omega)), nI_clamp (by omega), nI_clamp (by omega), hM.1.2.2 k (by omega)]
        have e : IC 4 k = now.2.getD k 0 := hC.2.1.2.2.1 k (by omega)
        exact ⟨_, IC, IM, by rw [← e], rfl, rfl, now, past, T, b, n, f, hs, hC, hM⟩
  · rw [if_neg hm, if_neg hm]
    obtain ⟨I1, e1, e2⟩ := refC hs hC
    obtain ⟨I2, f1, f2⟩ := refM2 hM
    rw [e1, f1, bd2_s, bd2_s]
    exact ⟨-2, I1, I2, rfl, rfl, rfl, now, past, T, b + 1, n, f, hs, e2, f2⟩
/-- another row of rules: what was found is forgotten -/
theorem fgC {I : mI} {L : mL} {rs : List Ru} (h9 : I 0 9 = 0) (h10 : I 0 10 = 0) (h11 : I 0 11 = -9) : CaC I L rs := ⟨Or.inl h9, Or.inl h10, Or.inl h11⟩
theorem ffC_ok (I : mI) : ∃ I', f_X10_forgetFindings 0 I = some I' ∧ (∀ L rs, CaC I' L rs) ∧ (∀ a, a ≠ 0 → I' a = I a) ∧ ∀ k, 12 ≤ k → I' 0 k = I 0 k := by
  refine ⟨u2 (u2 (u2 I 0 9 0) 0 10 0) 0 11 (-9), rfl, fun L rs => fgC ?_ ?_ ?_, fun a ha => by rw [u2_n _ _ _ ha, u2_n _ _ _ ha, u2_n _ _ _ ha], fun k hk => by rw [u2_o _ _ _ (by omega), u2_o _ _ _ (by omega), u2_o _ _ _ (by omega)]⟩
  · rw [u2_o _ _ _ (by decide), u2_o _ _ _ (by decide), u2_e]
  · rw [u2_o _ _ _ (by decide), u2_e]
  · rw [u2_e]
theorem gD_take {α : Type} (d : α) {l : List α} {m k : Nat} (h : k < m) : (l.take m).getD k d = l.getD k d := by
  rw [List.getD_eq_getElem?_getD, List.getD_eq_getElem?_getD, List.getElem?_take_of_lt h]
/-- another state, by pieces -/
theorem CI.new {I I2 : mI} {L : mL} {R : mR} {now : Sn} {past : List Sn} {T : List Int32} {b n f : Int32} (hs : OKS now past T) (hR : RO R) (e2 : SnC I R 1 now) (e3 : HsC I R past) (e4 : TxC I T) (e5 : I 0 12 = b ∧ I 0 13 = n ∧ I 0 14 = f) (g2 : CaC I2 L now.1) (g3 : ∀ a, a ≠ 0 → I2 a = I a) (g4 : ∀ k, 12 ≤ k → I2 0 k = I 0 k) : CI I2 L R now past T b n f := by
  refine ⟨hR, e2.cong hR.2.1 hs.1.1.1 (fun a x y => g3 a (by omega)) rfl, e3.fr hR hs.2.1 (fun a x y => g3 a (by omega)), ?_, by rw [g4 12 (by decide), g4 13 (by decide), g4 14 (by decide)]; exact e5, g2⟩
  unfold TxC
  rw [g3 243 (by decide), g3 244 (by decide)]
  exact e4
theorem TxC.cong {I I' : mI} {T : List Int32} (h : TxC I T) (h0 : I' 243 2 = I 243 2) (h1 : I' 244 = I 244) : TxC I' T := by
  unfold TxC
  rw [h0, h1]
  exact h
theorem take_ok {past : List Sn} (h : HOK past) : HOK (past.take (past.length - 1)) := by
  refine ⟨by rw [List.length_take]; have := h.1; omega, fun i hi => ?_⟩
  rw [List.length_take] at hi
  rw [gD_take _ (by omega)]
  exact h.2 i (by omega)
theorem st_back : St_back Inv := by
  rintro IC LC RC IM LM RM ⟨rfl, now, past, T, b, n, f, hs, hC, hM⟩ _
  have hR := hC.1
  obtain ⟨k1, k2, k3, k4, k5, k6⟩ := id hC
  obtain ⟨m1, m2, m3, m4, m5, m6⟩ := id hM
  have h5 := hs.2.1.1
  unfold f_X10_back f_X11_back
  rw [hR.r0, hR.r1, k3.1, m2.1]
  by_cases h0 : past.length = 0
  · obtain ⟨I2, f1, f2⟩ := refM3 hM
    rw [h0, if_pos (show nI 0 = 0 from rfl), if_pos (show nI 0 = 0 from rfl), f1, bd2_s]
    simp only [bnd_e]
    exact ⟨-3, _, I2, rfl, rfl, rfl, now, past, T, b, n + 1, f, hs, hC.c0 hs (fun a ha => by rw [u2_n _ _ _ ha]) ⟨by rw [u2_o _ _ _ (by decide)]; exact k5.1, by rw [u2_e, k5.2.1], by rw [u2_o _ _ _ (by decide)]; exact k5.2.2⟩ (hC.ct hs (by decide) _), f2⟩
  · have hn0 : ¬ nI past.length = 0 := fun w => h0 (nI_inj (b := 0) (by omega) (by decide) w)
    rw [if_neg hn0, if_neg hn0]
    obtain ⟨I1, e1, e2, e3, e4⟩ := giveC_ok hR k3 hs.2.1 (by omega)
    obtain ⟨I2, g1, g2, g3, g4⟩ := ffC_ok I1
    have hso := hs.2.1.2 (past.length - 1) (by omega)
    have hlen : (past.take (past.length - 1)).length = past.length - 1 := by rw [List.length_take]; omega
    have hq : nI past.length - 1 = nI (past.length - 1) := by
      rw [show past.length = past.length - 1 + 1 by omega, nI_m1, pk_m1]
      rfl
    rw [e1, bd1_s, g1, bd1_s, g3 41 (by decide), e3.1, hlen]
    obtain ⟨J1, j1, j2, j3, j4⟩ := copiesM_ok (a := 3) (b := 1) (o1 := 192 * (past.length - 1)) (o2 := 0) (by decide) (by rw [lm3]; omega) (by rw [lm1]; omega) (by rw [lm3]; omega) (by rw [lm1]; omega) (u2 IM 0 3 (nI (past.length - 1)))
    simp only [bnd_e]
    rw [hq, u2_e, show (192 : Int32) = nI 192 from rfl, pk_mul, mr2, mr0, ← nI0, j1, bd1_s, j4 0 (by decide), u2_e]
    have hOK' : OKS (past.getD (past.length - 1) dSn) (past.take (past.length - 1)) T := ⟨hso, take_ok hs.2.1, hs.2.2⟩
    refine ⟨nI (past.length - 1), I2, J1, rfl, rfl, rfl, past.getD (past.length - 1) dSn, past.take (past.length - 1), T, b, n, f, hOK', ?_, ?_⟩
    · refine CI.new hOK' hR e2 e3 (k4.cong (by rw [e4 243 (by omega)]) (e4 244 (by omega))) (by rw [e4 0 (by omega)]; exact k5) (g2 _ _) g3 g4
    · refine ⟨?_, ⟨by rw [j4 0 (by decide), u2_e, hlen], fun i hi => ?_⟩, ?_, ?_⟩
      · refine (m2.2 (past.length - 1) (by omega)).cong hso (fun j hj => ?_)
        have := j2 j hj
        rw [Nat.zero_add, u2_n _ _ _ (show (3 : Nat) ≠ 0 by decide)] at this
        exact this
      · rw [hlen] at hi
        rw [j4 3 (by decide), u2_n _ _ _ (by decide), gD_take _ hi]
        exact m2.2 i (by omega)
      · unfold TxM
        rw [j4 0 (by decide), j4 5 (by decide), u2_o _ _ _ (by decide), u2_n _ _ _ (by decide)]
        exact m3
      · rw [j4 4 (by decide), u2_n _ _ _ (by decide)]
        exact ⟨m4, m5, m6⟩
