/-! ===== the step digest ===== -/
theorem mixM (v : Int64) (L : mL) : f_X11_mix 0 v L = some (u2 L 0 31 (31 * L 0 31 + v)) := rfl
theorem dg1_L {IC IM : mI} {LC : mL} {RC : mR} {now : Sn} {past : List Sn} {T : List Int32} {b n f : Int32} (hC : CI IC LC RC now past T b n f) (hM : MI IM now past T b n f) :
    ∀ (z m m' k : Nat) (y : Int64) (LM : mL), 7 - k = z → z < m → z < m' → k ≤ 7 → LM 0 31 = y → ∃ y' LM', f_X10_digest_L6 m 0 y (nI k) IC LC RC = some (y', IC) ∧ f_X11_digest_L9 m' 0 (nI k) IM LM R1M = some LM' ∧ LM' 0 31 = y' := by
  intro z
  induction z with
  | zero =>
    intro m m' k y LM g1 g2 g3 g4 g5
    obtain ⟨m, rfl⟩ : ∃ x, m = x + 1 := ⟨m - 1, by omega⟩
    obtain ⟨m', rfl⟩ : ∃ x, m' = x + 1 := ⟨m' - 1, by omega⟩
    rw [f_X10_digest_L6, f_X11_digest_L9, show k = 7 by omega, if_pos (show (6 : Int32) < nI 7 by decide), if_pos (show (7 : Int32) ≤ nI 7 by decide)]
    exact ⟨y, LM, rfl, rfl, g5⟩
  | succ z ih =>
    intro m m' k y LM g1 g2 g3 g4 g5
    obtain ⟨m, rfl⟩ : ∃ x, m = x + 1 := ⟨m - 1, by omega⟩
    obtain ⟨m', rfl⟩ : ∃ x, m' = x + 1 := ⟨m' - 1, by omega⟩
    rw [f_X10_digest_L6, f_X11_digest_L9, if_neg (show ¬ (6 : Int32) < nI k from nI_nlt (a := 6) (by omega) (by decide)), if_neg (show ¬ (7 : Int32) ≤ nI k from nI_ge (b := 7) (by omega) (by decide)), toldC hC (by omega), bd2_s, toldM hM (by omega), bd1_s, mixM, bd1_s, nI_1 k]
    exact ih m m' (k + 1) _ _ (by omega) (by omega) (by omega) (by omega) (by rw [u2_e, g5])
theorem dg2i_L {IM : mI} {RC : mR} {now : Sn} {past : List Sn} {T : List Int32} {b n f : Int32} (hs : OKS now past T) (hM : MI IM now past T b n f) {r : Nat} (hr : r < now.1.length) :
    ∀ (z m m' k : Nat) (y : Int64) (IC : mI) (LC LM : mL), 6 - k = z → z < m → z < m' → k ≤ 6 → LM 0 31 = y → CI IC LC RC now past T b n f → ∃ y' IC' LC' LM', f_X10_digest_L47 m 0 y (nI r) (nI k) IC LC RC = some (y', IC', LC') ∧ CI IC' LC' RC now past T b n f ∧ f_X11_digest_L45 m' 0 (nI r) (nI k) IM LM R1M = some LM' ∧ LM' 0 31 = y' := by
  intro z
  induction z with
  | zero =>
    intro m m' k y IC LC LM g1 g2 g3 g4 g5 hC
    obtain ⟨m, rfl⟩ : ∃ x, m = x + 1 := ⟨m - 1, by omega⟩
    obtain ⟨m', rfl⟩ : ∃ x, m' = x + 1 := ⟨m' - 1, by omega⟩
    rw [f_X10_digest_L47, f_X11_digest_L45, show k = 6 by omega, if_pos (show (5 : Int32) < nI 6 by decide), if_pos (show (6 : Int32) ≤ nI 6 by decide)]
    exact ⟨y, IC, LC, LM, rfl, hC, rfl, g5⟩
  | succ z ih =>
    intro m m' k y IC LC LM g1 g2 g3 g4 g5 hC
    obtain ⟨m, rfl⟩ : ∃ x, m = x + 1 := ⟨m - 1, by omega⟩
    obtain ⟨m', rfl⟩ : ∃ x, m' = x + 1 := ⟨m' - 1, by omega⟩
    obtain ⟨I1, L1, e1, e2⟩ := ofC hs hC hr (show k ≤ 5 by omega)
    rw [f_X10_digest_L47, f_X11_digest_L45, if_neg (show ¬ (5 : Int32) < nI k from nI_nlt (a := 5) (by omega) (by decide)), if_neg (show ¬ (6 : Int32) ≤ nI k from nI_ge (b := 6) (by omega) (by decide)), e1, bd3_s, ofM hs hM hr (by omega), bd1_s, mixM, bd1_s, nI_1 k]
    exact ih m m' (k + 1) _ I1 L1 _ (by omega) (by omega) (by omega) (by omega) (by rw [u2_e, g5]) e2
theorem fig1 : figOK 1111111 = true := by decide +kernel
theorem dg2_L {RC : mR} {now : Sn} {past : List Sn} {T : List Int32} {b n f : Int32} (hs : OKS now past T) :
    ∀ (z m m' r : Nat) (y : Int64) (IC IM : mI) (LC LM : mL), now.1.length - r = z → z < m → z < m' → r ≤ now.1.length → LM 0 31 = y → CI IC LC RC now past T b n f → MI IM now past T b n f → ∃ y' IC' LC' IM' LM', f_X10_digest_L33 m 0 y (nI r) IC LC RC = some (y', IC', LC') ∧ CI IC' LC' RC now past T b n f ∧ f_X11_digest_L33 m' 0 (nI r) IM LM R1M = some (IM', LM') ∧ MI IM' now past T b n f ∧ LM' 0 31 = y' := by
  have h5 := hs.1.1.1
  intro z
  induction z with
  | zero =>
    intro m m' r y IC IM LC LM g1 g2 g3 g4 g5 hC hM
    obtain ⟨m, rfl⟩ : ∃ x, m = x + 1 := ⟨m - 1, by omega⟩
    obtain ⟨m', rfl⟩ : ∃ x, m' = x + 1 := ⟨m' - 1, by omega⟩
    rw [f_X10_digest_L33, f_X11_digest_L33, hC.1.r0, hC.2.1.1.1, if_pos (nI_le (by omega) (by omega)), mr0, lm1, if_pos (show inb 0 192 = true from rfl), i0, hM.1.1.1, if_pos (nI_le (by omega) (by omega))]
    exact ⟨y, IC, LC, IM, LM, rfl, hC, rfl, hM, g5⟩
  | succ z ih =>
    intro m m' r y IC IM LC LM g1 g2 g3 g4 g5 hC hM
    obtain ⟨m, rfl⟩ : ∃ x, m = x + 1 := ⟨m - 1, by omega⟩
    obtain ⟨m', rfl⟩ : ∃ x, m' = x + 1 := ⟨m' - 1, by omega⟩
    have hr : r < now.1.length := by omega
    obtain ⟨y1, I1, L1, M1, e1, e2, e3, e4⟩ := dg2i_L hs hM hr 6 FU FU 0 y IC LC LM (by omega) (by rw [FU_eq]; omega) (by rw [FU_eq]; omega) (by omega) g5 hC
    rw [nI0] at e1 e3
    obtain ⟨I2, g6, g7⟩ := wgC hs e2 fig1 hr
    have hC2 := e2.fr hs g7 (FrLc.rfl' _)
    obtain ⟨N1, j1, j2, j3⟩ := lfM_ok 1111111 IM
    have hM1 : MI N1 now past T b n f := hM.fr (FrMi.e j1)
    obtain ⟨K1, q1, q2⟩ := crM_ok (L := M1) hs.1.1 hM1.1.1 hr (fun i hi => Nat.le_trans (figOK_le fig1 i hi) (by decide)) (j3 fig1)
    rw [f_X10_digest_L33, f_X11_digest_L33, hC.1.r0, hC.2.1.1.1, if_neg (nI_ge (by omega) (by omega)), e1, bd3_s, g6, bd2_s, mr0, lm1, if_pos (show inb 0 192 = true from rfl), i0, hM.1.1.1, if_neg (nI_ge (by omega) (by omega)), e3, bd1_s, j2, bd2_s, q1, bd2_s, mixM, bd1_s, nI_1 r]
    exact ih m m' (r + 1) _ I2 N1 L1 _ (by omega) (by omega) (by omega) (by omega) (by rw [u2_e, q2 0 (by decide) (by decide) (by decide), e4]; rfl) hC2 hM1
theorem dg3_L {IC IM : mI} {LC : mL} {RC : mR} {now : Sn} {past : List Sn} {T : List Int32} {b n f : Int32} (hs : OKS now past T) (hC : CI IC LC RC now past T b n f) (hM : MI IM now past T b n f) :
    ∀ (z m m' k : Nat) (y : Int64) (LM : mL), now.2.length - k = z → z < m → z < m' → k ≤ now.2.length → LM 0 31 = y → ∃ y' LM', f_X10_digest_L97 m 0 y (nI k) IC LC RC = some y' ∧ f_X11_digest_L95 m' 0 (nI k) IM LM R1M = some LM' ∧ LM' 0 31 = y' := by
  have h60 := hs.1.2.2
  have hR := hC.1
  have h11 : RC 1 1 = 3 := hR.now.2.1
  obtain ⟨t0, t1', t2', t3, t4⟩ := hR.now.2.2.2.1
  intro z
  induction z with
  | zero =>
    intro m m' k y LM g1 g2 g3 g4 g5
    obtain ⟨m, rfl⟩ : ∃ x, m = x + 1 := ⟨m - 1, by omega⟩
    obtain ⟨m', rfl⟩ : ∃ x, m' = x + 1 := ⟨m' - 1, by omega⟩
    rw [f_X10_digest_L97, f_X11_digest_L95, hR.r0, h11, hC.2.1.2.1, if_pos (nI_le (by omega) (by omega)), mr0, lm1, if_pos (show inb 131 192 = true from rfl), show (131 : Int32).toNatClampNeg = 131 from rfl, hM.1.2.1, if_pos (nI_le (by omega) (by omega))]
    exact ⟨y, LM, rfl, rfl, g5⟩
  | succ z ih =>
    intro m m' k y LM g1 g2 g3 g4 g5
    obtain ⟨m, rfl⟩ : ∃ x, m = x + 1 := ⟨m - 1, by omega⟩
    obtain ⟨m', rfl⟩ : ∃ x, m' = x + 1 := ⟨m' - 1, by omega⟩
    have hk : k < now.2.length := by omega
    have e : IC 4 k = now.2.getD k 0 := hC.2.1.2.2.1 k hk
    rw [f_X10_digest_L97, f_X11_digest_L95, hR.r0, h11, hC.2.1.2.1, if_neg (nI_ge (by omega) (by omega)), t0, t2', if_pos (inb_nI (by omega) (by omega)), nI_clamp (by omega), show IC (3 + 1) k = now.2.getD k 0 from e, mr0, lm1, if_pos (show inb 131 192 = true from rfl), show (131 : Int32).toNatClampNeg = 131 from rfl, hM.1.2.1, if_neg (nI_ge (by omega) (by omega)), show (132 : Int32) = nI 132 from rfl, nI_add, if_pos (inb_nI (by omega) (by omega)), nI_clamp (by omega), hM.1.2.2 k hk, mixM, bd1_s, nI_1 k]
    exact ih m m' (k + 1) _ _ (by omega) (by omega) (by omega) (by omega) (by rw [u2_e, g5])
theorem dg4_L {RC : mR} {now : Sn} {past : List Sn} {T : List Int32} {b n f : Int32} (hs : OKS now past T) :
    ∀ (z m m' k : Nat) (y : Int64) (IC IM : mI) (LC LM : mL), 3 - k = z → z < m → z < m' → k ≤ 3 → LM 0 31 = y → CI IC LC RC now past T b n f → MI IM now past T b n f → BookM IM now.1 → (k = 3 → BookC IC LC now.1) → ∃ y' IC' LC' IM' LM', f_X10_digest_L151 m 0 y (nI k) IC LC RC = some (y', IC', LC') ∧ CI IC' LC' RC now past T b n f ∧ BookC IC' LC' now.1 ∧ f_X11_digest_L143 m' 0 (nI k) IM LM R1M = some (IM', LM') ∧ MI IM' now past T b n f ∧ BookM IM' now.1 ∧ LM' 0 31 = y' := by
  intro z
  induction z with
  | zero =>
    intro m m' k y IC IM LC LM g1 g2 g3 g4 g5 hC hM hB hb
    obtain ⟨m, rfl⟩ : ∃ x, m = x + 1 := ⟨m - 1, by omega⟩
    obtain ⟨m', rfl⟩ : ∃ x, m' = x + 1 := ⟨m' - 1, by omega⟩
    have hk : k = 3 := by omega
    rw [f_X10_digest_L151, f_X11_digest_L143, hk, if_pos (show (2 : Int32) < nI 3 by decide), if_pos (show (3 : Int32) ≤ nI 3 by decide)]
    exact ⟨y, IC, LC, IM, LM, rfl, hC, hb hk, rfl, hM, hB, g5⟩
  | succ z ih =>
    intro m m' k y IC IM LC LM g1 g2 g3 g4 g5 hC hM hB hb
    obtain ⟨m, rfl⟩ : ∃ x, m = x + 1 := ⟨m - 1, by omega⟩
    obtain ⟨m', rfl⟩ : ∃ x, m' = x + 1 := ⟨m' - 1, by omega⟩
    obtain ⟨I1, L1, e1, e2, _, e4⟩ := callsC hs hC (show k ≤ 2 by omega)
    obtain ⟨M1, K1, j1, j2, j3⟩ := callsM (L := LM) hs.1.1 hM.1.1 hB (show k ≤ 2 by omega)
    rw [f_X10_digest_L151, f_X11_digest_L143, if_neg (show ¬ (2 : Int32) < nI k from nI_nlt (a := 2) (by omega) (by decide)), if_neg (show ¬ (3 : Int32) ≤ nI k from nI_ge (b := 3) (by omega) (by decide)), e1, bd3_s, j1, bd3_s, mixM, bd1_s, nI_1 k]
    exact ih m m' (k + 1) _ I1 M1 L1 _ (by omega) (by omega) (by omega) (by omega) (by rw [u2_e, j3 0 (by decide) (by decide) (by decide), g5]) e2 (hM.fr (FrMi.e j2)) (hB.e8 j2) (fun _ => e4)
theorem dg5i_L {IM : mI} {RC : mR} {now : Sn} {past : List Sn} {T : List Int32} {b n f : Int32} (hs : OKS now past T) (hM : MI IM now past T b n f) (hB : BookM IM now.1) {c : Nat} (hc : c < nCl now.1) :
    ∀ (z m m' k : Nat) (y : Int64) (IC : mI) (LC LM : mL), 4 - k = z → z < m → z < m' → k ≤ 4 → LM 0 31 = y → CI IC LC RC now past T b n f → BookC IC LC now.1 → ∃ y' IC' LC' LM', f_X10_digest_L191 m 0 y (nI c) (nI k) IC LC RC = some (y', IC', LC') ∧ CI IC' LC' RC now past T b n f ∧ BookC IC' LC' now.1 ∧ f_X11_digest_L176 m' 0 (nI c) (nI k) IM LM R1M = some LM' ∧ LM' 0 31 = y' := by
  intro z
  induction z with
  | zero =>
    intro m m' k y IC LC LM g1 g2 g3 g4 g5 hC hb
    obtain ⟨m, rfl⟩ : ∃ x, m = x + 1 := ⟨m - 1, by omega⟩
    obtain ⟨m', rfl⟩ : ∃ x, m' = x + 1 := ⟨m' - 1, by omega⟩
    rw [f_X10_digest_L191, f_X11_digest_L176, show k = 4 by omega, if_pos (show (3 : Int32) < nI 4 by decide), if_pos (show (4 : Int32) ≤ nI 4 by decide)]
    exact ⟨y, IC, LC, LM, rfl, hC, hb, rfl, g5⟩
  | succ z ih =>
    intro m m' k y IC LC LM g1 g2 g3 g4 g5 hC hb
    obtain ⟨m, rfl⟩ : ∃ x, m = x + 1 := ⟨m - 1, by omega⟩
    obtain ⟨m', rfl⟩ : ∃ x, m' = x + 1 := ⟨m' - 1, by omega⟩
    obtain ⟨I1, L1, e1, e2, _, e4⟩ := clC hs hC hc (show k ≤ 3 by omega)
    rw [f_X10_digest_L191, f_X11_digest_L176, if_neg (show ¬ (3 : Int32) < nI k from nI_nlt (a := 3) (by omega) (by decide)), if_neg (show ¬ (4 : Int32) ≤ nI k from nI_ge (b := 4) (by omega) (by decide)), e1, bd3_s, clM hs.1.1 hM.1.1 hB hc (by omega), bd1_s, mixM, bd1_s, nI_1 k]
    exact ih m m' (k + 1) _ I1 L1 _ (by omega) (by omega) (by omega) (by omega) (by rw [u2_e, g5]) e2 e4
theorem dg5_L {IM : mI} {RC : mR} {now : Sn} {past : List Sn} {T : List Int32} {b n f : Int32} (hs : OKS now past T) (hM : MI IM now past T b n f) (hB : BookM IM now.1) :
    ∀ (z m m' c : Nat) (y : Int64) (IC : mI) (LC LM : mL), nCl now.1 - c = z → z < m → z < m' → c ≤ nCl now.1 → LM 0 31 = y → CI IC LC RC now past T b n f → BookC IC LC now.1 → ∃ y' IC' LC' LM', f_X10_digest_L177 m 0 y (nI c) IC LC RC = some (y', IC', LC') ∧ CI IC' LC' RC now past T b n f ∧ f_X11_digest_L166 m' 0 (nI c) IM LM R1M = some LM' ∧ LM' 0 31 = y' := by
  have h60 : nCl now.1 ≤ 60 := callsS_len hs.1.1
  have h18 : IM 0 18 = nI (nCl now.1) := hB.1.1
  intro z
  induction z with
  | zero =>
    intro m m' c y IC LC LM g1 g2 g3 g4 g5 hC hb
    obtain ⟨m, rfl⟩ : ∃ x, m = x + 1 := ⟨m - 1, by omega⟩
    obtain ⟨m', rfl⟩ : ∃ x, m' = x + 1 := ⟨m' - 1, by omega⟩
    have h8 : IC 248 8 = nI (nCl now.1) := hb.2.1.1
    rw [f_X10_digest_L177, f_X11_digest_L166, hC.1.r4, h8, h18, if_pos (nI_le (by omega) (by omega)), if_pos (nI_le (by omega) (by omega))]
    exact ⟨y, IC, LC, LM, rfl, hC, rfl, g5⟩
  | succ z ih =>
    intro m m' c y IC LC LM g1 g2 g3 g4 g5 hC hb
    obtain ⟨m, rfl⟩ : ∃ x, m = x + 1 := ⟨m - 1, by omega⟩
    obtain ⟨m', rfl⟩ : ∃ x, m' = x + 1 := ⟨m' - 1, by omega⟩
    have h8 : IC 248 8 = nI (nCl now.1) := hb.2.1.1
    obtain ⟨y1, I1, L1, K1, e1, e2, e3, e4, e5⟩ := dg5i_L (RC := RC) hs hM hB (show c < nCl now.1 by omega) 4 FU FU 0 y IC LC LM (by omega) (by rw [FU_eq]; omega) (by rw [FU_eq]; omega) (by omega) g5 hC hb
    rw [nI0] at e1 e4
    rw [f_X10_digest_L177, f_X11_digest_L166, hC.1.r4, h8, h18, if_neg (nI_ge (by omega) (by omega)), if_neg (nI_ge (by omega) (by omega)), e1, bd3_s, e4, bd1_s, nI_1 c]
    exact ih m m' (c + 1) y1 I1 L1 K1 (by omega) (by omega) (by omega) (by omega) e5 e2 e3
theorem st_digest : St_digest Inv := by
  rintro IC LC RC IM LM RM ⟨rfl, now, past, T, b, n, f, hs, hC, hM⟩ _
  have h5 := hs.1.1.1
  have h60 := hs.1.2.2
  have hc60 : nCl now.1 ≤ 60 := callsS_len hs.1.1
  obtain ⟨y1, K1, a1, a2, a3⟩ := dg1_L hC hM 7 FU FU 0 2609 (u2 LM 0 31 2609) (by omega) (by rw [FU_eq]; omega) (by rw [FU_eq]; omega) (by omega) (by rw [u2_e])
  obtain ⟨y2, I2, L2, M2, K2, b1, b2, b3, b4, b5⟩ := dg2_L (RC := RC) hs now.1.length FU FU 0 y1 IC IM LC K1 (by omega) (by rw [FU_eq]; omega) (by rw [FU_eq]; omega) (by omega) a3 hC hM
  obtain ⟨y3, K3, c1, c2, c3⟩ := dg3_L hs b2 b4 now.2.length FU FU 0 y2 K2 (by omega) (by rw [FU_eq]; omega) (by rw [FU_eq]; omega) (by omega) b5
  obtain ⟨I4, d1, d2⟩ := fallC hs b2
  obtain ⟨M4, K4, d3, d4, d5⟩ := fallM' (L := K3) hs b4
  have hM4 := b4.fr (FrMi.e d4)
  obtain ⟨M5, e1, e2, e3⟩ := layM_ok hs.1.1 hM4.1.1
  have hM5 := hM4.fr (FrMi.b e3)
  obtain ⟨y6, I6, L6, M6, K6, g1, g2, g3, g4, g5, g6, g7⟩ := dg4_L (RC := RC) hs 3 FU FU 0 (31 * y3 + (bv (lstS now.1 (-1))).toInt64) I4 M5 L2 (u2 K4 0 31 (31 * K4 0 31 + (bv (lstS now.1 (-1))).toInt64)) (by omega) (by rw [FU_eq]; omega) (by rw [FU_eq]; omega) (by omega) (by rw [u2_e, d5 0 (by decide) (by decide) (by decide), c3]) d2 hM5 e2 (fun w => by omega)
  obtain ⟨y7, I7, L7, K7, j1, j2, j3, j4⟩ := dg5_L (RC := RC) hs g5 g6 (nCl now.1) FU FU 0 y6 I6 L6 K6 (by omega) (by rw [FU_eq]; omega) (by rw [FU_eq]; omega) (by omega) g7 g2 g3
  obtain ⟨I8, k1, k2⟩ := setC hs j2
  obtain ⟨M8, k3, k4⟩ := setM hs g5
  have hC8 := j2.fr hs k2 (FrLc.rfl' _)
  have hM8 := g5.fr (FrMi.t k4)
  obtain ⟨I9, p1, p2⟩ := nextC hs hC8 (k := 0) (by omega)
  obtain ⟨M9, p3, p4⟩ := nextM hs hM8 (k := 0) (by omega)
  have hC9 := hC8.fr hs p2 (FrLc.rfl' _)
  have hM9 := hM8.fr (FrMi.t p4)
  obtain ⟨I10, q1, q2⟩ := nextC hs hC9 (k := 1) (by omega)
  obtain ⟨M10, q3, q4⟩ := nextM hs hM9 (k := 1) (by omega)
  have hC10 := hC9.fr hs q2 (FrLc.rfl' _)
  have hM10 := hM9.fr (FrMi.t q4)
  rw [nI0] at a1 a2 b1 b3 c1 c2 g1 g4 j1 j3 p1 p3
  have q1' : f_X10_next 0 1 I9 RC = some (nextS now.1 now.2 1, I10) := q1
  have q3' : f_X11_nextOf 0 1 M9 R1M = some (nextS now.1 now.2 1, M10) := q3
  refine ⟨31 * (31 * (31 * y7 + (setS now.1 30 0 now.2).toInt64) + (nextS now.1 now.2 0).toInt64) + (nextS now.1 now.2 1).toInt64, I10, L7, M10, u2 (u2 (u2 K7 0 31 (31 * y7 + (setS now.1 30 0 now.2).toInt64)) 0 31 (31 * (31 * y7 + (setS now.1 30 0 now.2).toInt64) + (nextS now.1 now.2 0).toInt64)) 0 31 (31 * (31 * (31 * y7 + (setS now.1 30 0 now.2).toInt64) + (nextS now.1 now.2 0).toInt64) + (nextS now.1 now.2 1).toInt64), ?_, ?_, rfl, now, past, T, b, n, f, hs, hC10, hM10⟩
  · unfold f_X10_digest
    rw [a1, bd2_s, b1, bd3_s, c1, bd1_s, d1, bd2_s, g1, bd3_s, j1, bd3_s, k1, bd2_s, p1, bd2_s, q1', bd2_s]
  · unfold f_X11_digest
    simp only [bnd_e]
    rw [a2, bd1_s, b3, bd2_s, c2, bd1_s, d3, bd3_s, mixM, bd1_s, e1, bd1_s, g4, bd2_s, j3, bd1_s, k3, bd2_s, mixM, bd1_s, p3, bd2_s, mixM, bd1_s, q3', bd2_s, mixM, bd1_s, j4, u2_e, u2_e, u2_e]
