/-! ===== the steps: calls, call, follows, lighter ===== -/
theorem FrMi.b {I I' : mI} (h : FrBm I' I) : FrMi I' I := ⟨h.1 _ (by decide) (by decide), h.1 _ (by decide) (by decide), h.1 _ (by decide) (by decide), h.1 _ (by decide) (by decide), h.2 _ (by decide) (by decide), h.2 _ (by decide) (by decide)⟩
noncomputable def callsV (rs : List Ru) (k : Nat) : Int32 := if k = 0 then nI (nCl rs) else if k = 1 then nI (rgS rs).2 else sureV rs
theorem callsC {I : mI} {L : mL} {R : mR} {now : Sn} {past : List Sn} {T : List Int32} {b n f : Int32} (hs : OKS now past T) (h : CI I L R now past T b n f) {k : Nat} (hk : k ≤ 2) : ∃ I' L', f_X10_calls 0 (nI k) I L R = some (callsV now.1 k, I', L') ∧ CI I' L' R now past T b n f ∧ I' 0 9 = 1 ∧ BookC I' L' now.1 := by
  have hR := h.1
  obtain ⟨I1, L1, e1, e2, e3, e4⟩ := kbC hs h
  unfold f_X10_calls
  simp only [bnd_e]
  rw [if_neg (nI_pos (by omega)), if_pos (show nI k ≤ 2 from nI_le (b := 2) hk (by decide)), e1, bd2_s, hR.r4]
  rcases (show k = 0 ∨ k = 1 ∨ k = 2 by omega) with rfl | rfl | rfl
  · rw [if_pos (show nI 0 = 0 from rfl), e4.2.1.1]
    exact ⟨I1, L1, rfl, e2, e3, e4⟩
  · rw [if_neg (show ¬ nI 1 = 0 by decide), if_pos (show nI 1 = 1 from rfl), e4.2.2.2.2.2]
    exact ⟨I1, L1, rfl, e2, e3, e4⟩
  · obtain ⟨I2, g1, g2, g3⟩ := wrC hs e2 e3 e4
    have hv := sureV_e g3.2
    rw [if_neg (show ¬ nI 2 = 0 by decide), if_neg (show ¬ nI 2 = 1 by decide), g1, bd1_s]
    have fin : I2 0 9 = 1 ∧ BookC I2 L1 now.1 := by
      have hf : ∀ {J K : mI}, f_X10_weighRings 0 J R = some K → True := fun _ => trivial
      rcases g2.2.2.2.2.2.1 with w | w
      · rcases g2.2.2.2.2.2.2.1 with q | q
        · exfalso
          unfold f_X10_weighRings at g1
          by_cases h10 : I1 0 10 = 0
          · rw [if_pos h10] at g1
            simp only [bnd_e] at g1
            obtain ⟨J, j1, j2⟩ := bd1_o g1
            cases j2
            rw [u2_e] at q
            exact absurd q (by decide)
          · rw [if_neg h10] at g1
            cases g1
            exact h10 q
        · rw [w] at q
          exact absurd q.2.1 (by decide)
      · exact w
    rcases g3.2 with ⟨w1, w2⟩ | ⟨w1, w2⟩
    · rw [w1, if_pos rfl]
      refine ⟨I2, L1, ?_, g2, fin⟩
      unfold callsV
      rw [if_neg (by decide), if_neg (by decide), ← hv, w1]
    · rw [w1, if_neg n10]
      refine ⟨I2, L1, ?_, g2, fin⟩
      unfold callsV
      rw [if_neg (by decide), if_neg (by decide), ← hv, w1]
theorem callsM {I : mI} {L : mL} {rs : List Ru} (hr : RsOK rs) (hM : RsM (I 1) rs) (hB : BookM I rs) {k : Nat} (hk : k ≤ 2) : ∃ I' L', f_X11_callsTold 0 (nI k) I L R1M = some (callsV rs k, I', L') ∧ (∀ a, a ≠ 8 → I' a = I a) ∧ FrLw L' L := by
  have h60 : nCl rs ≤ 60 := callsS_len hr
  have hle := rgS_le rs
  unfold f_X11_callsTold
  rcases (show k = 0 ∨ k = 1 ∨ k = 2 by omega) with rfl | rfl | rfl
  · rw [if_neg (show ¬ (2 : Int32) ≤ nI 0 by decide), if_pos (show nI 0 = 0 from rfl), hB.1.1]
    exact ⟨I, L, rfl, fun _ _ => rfl, FrLw.rfl' L⟩
  · rw [if_neg (show ¬ (2 : Int32) ≤ nI 1 by decide), if_neg (show ¬ nI 1 = 0 by decide), hB.2.2.2]
    exact ⟨I, L, rfl, fun _ _ => rfl, FrLw.rfl' L⟩
  · obtain ⟨I1, L1, v, e1, e2, e3, e4⟩ := ctM_L hr (rgS rs).2 FU 0 I L 1 (by omega) (by rw [FU_eq]; omega) (by omega) hM hB (Or.inr ⟨rfl, fun j hj => by omega⟩)
    rw [nI0] at e1
    have hv := sureV_e e2
    rw [if_pos (show (2 : Int32) ≤ nI 2 by decide), e1, bd3_s]
    rcases e2 with ⟨w1, w2⟩ | ⟨w1, w2⟩
    · rw [w1, if_pos rfl]
      refine ⟨I1, L1, ?_, e3, e4⟩
      unfold callsV
      rw [if_neg (by decide), if_neg (by decide), ← hv, w1]
    · rw [w1, if_neg n10]
      refine ⟨I1, L1, ?_, e3, e4⟩
      unfold callsV
      rw [if_neg (by decide), if_neg (by decide), ← hv, w1]
theorem st_calls : St_calls Inv := by
  rintro IC LC RC IM LM RM ⟨rfl, now, past, T, b, n, f, hs, hC, hM⟩ x1
  rcases rngI x1 (m := 2) (by decide) with ⟨k, k1, rfl, k3, _⟩ | ⟨k1, k2, k3⟩
  · obtain ⟨I1, L1, e1, e2, _, _⟩ := callsC hs hC k1
    obtain ⟨M1, y1, y2, y3⟩ := layM_ok hs.1.1 hM.1.1
    have hM1 := hM.fr (FrMi.b y3)
    obtain ⟨M2, L2, g1, g2, g3⟩ := callsM (L := LM) hs.1.1 hM1.1.1 y2 k1
    refine ⟨_, I1, L1, M2, L2, e1, ?_, rfl, now, past, T, b, n, f, hs, e2, hM1.fr (FrMi.e g2)⟩
    unfold f_X11_calls
    rw [inM, show (2 : Int32) = nI 2 from rfl, if_neg k3, bd1_s, if_neg n10, y1, bd1_s, g1, bd3_s]
  · obtain ⟨I1, e1, e2⟩ := refC hs hC
    obtain ⟨I2, f1, f2⟩ := refM2 hM
    refine ⟨-2, I1, LC, I2, LM, ?_, ?_, rfl, now, past, T, b + 1, n, f, hs, e2, f2⟩
    · unfold f_X10_calls
      simp only [bnd_e]
      rcases k3 with k3 | ⟨k3, k4⟩
      · rw [if_pos k3, e1, bd2_s]
      · rw [if_neg k3, if_neg (show ¬ x1 ≤ 2 from k4), e1, bd2_s]
    · unfold f_X11_calls
      rw [inM, if_pos (show x1 < 0 ∨ 2 < x1 from k1), bd1_s, if_pos rfl, f1, bd2_s]
def clV (rs : List Ru) (c k : Nat) : Int32 := if k = 0 then nI ((callsS rs).getD c dC).1 else if k = 1 then nI (ep (rs.getD ((callsS rs).getD c dC).1 dRu).2 ((callsS rs).getD c dC).2 - ((callsS rs).getD c dC).2) else if k = 2 then (rgS rs).1 c else nI (fb_ct (foS rs c) (nCl rs))
theorem fo64 {rs : List Ru} (hr : RsOK rs) (c : Nat) : fb_ct (foS rs c) 64 = fb_ct (foS rs c) (nCl rs) := by
  have h60 : nCl rs ≤ 60 := callsS_len hr
  have e := fb_ct_split (foS rs c) (nCl rs) (64 - nCl rs)
  rw [show nCl rs + (64 - nCl rs) = 64 by omega] at e
  have z : fb_ct (fun k => foS rs c (nCl rs + k)) (64 - nCl rs) = 0 := fb_ct_zero.mpr (fun k _ => by
    unfold foS
    rw [decide_eq_false (show ¬ nCl rs + k < (callsS rs).length by show ¬ (callsS rs).length + k < (callsS rs).length; omega), Bool.false_and])
  omega
theorem ps8C {I : mI} {R : mR} {t c p : Nat} {l : List Int32} (hT : TO R t c) (hc : l.length ≤ c) (h : TmC I t l) (hp : p < l.length) : f_X8_partSize t (nI p) I R = some (nI (ep l p - p)) := by
  have h60 := hT.2.2.2.2
  have he : p ≤ ep l p := by unfold ep; omega
  unfold f_X8_partSize
  simp only [bnd_e]
  rw [if_neg (nI_pos (by omega)), h.1, if_neg (nI_ge hp (by omega)), hT.2.1, hT.2.2.2.1, if_pos (inb_nI (by omega) (by omega)), nI_clamp (by omega), h.2.2 p hp, nI_sub he]
theorem clC {I : mI} {L : mL} {R : mR} {now : Sn} {past : List Sn} {T : List Int32} {b n f : Int32} (hs : OKS now past T) (h : CI I L R now past T b n f) {c k : Nat} (hc : c < nCl now.1) (hk : k ≤ 3) : ∃ I' L', f_X10_call 0 (nI c) (nI k) I L R = some (clV now.1 c k, I', L') ∧ CI I' L' R now past T b n f ∧ I' 0 9 = 1 ∧ BookC I' L' now.1 := by
  have hR := h.1
  have h60 : nCl now.1 ≤ 60 := callsS_len hs.1.1
  have h5 := hs.1.1.1
  obtain ⟨I1, L1, e1, e2, e3, e4⟩ := kbC hs h
  obtain ⟨b0, b1, b2, b3, b4, b5, b6⟩ := hR.bk
  have hn : I1 248 8 = nI (nCl now.1) := e4.2.1.1
  obtain ⟨v1, v2⟩ := e4.2.1.2 c hc
  have hhas : f_X0_has 248 (nI c) I1 = some 1 := by
    unfold f_X0_has
    simp only [bnd_e]
    rw [if_neg (nI_pos (by omega)), hn, if_neg (nI_ge hc (by omega))]
  unfold f_X10_call
  rw [e1, bd2_s, hR.r4, hhas, bd1_s]
  simp only [bnd_e]
  rw [if_neg n10, if_neg (nI_pos (by omega)), if_pos (show nI k ≤ 3 from nI_le (b := 3) hk (by decide)), b0, b2, b3, lc249, lc251, lc252, if_pos (inb_nI (by omega) (by omega)), if_pos (inb_nI (by omega) (by omega)), if_pos (inb_nI (by omega) (by omega)), nI_clamp (by omega)]
  rcases (show k = 0 ∨ k = 1 ∨ k = 2 ∨ k = 3 by omega) with rfl | rfl | rfl | rfl
  · rw [if_pos (show nI 0 = 0 from rfl), v1]
    exact ⟨I1, L1, rfl, e2, e3, e4⟩
  · obtain ⟨i1, i2⟩ := callsS_in (rs := now.1) (c := c) hc
    have h10 : R 1 0 = 2 := hR.now.1
    have l2 : lnC 2 = 5 := hR.now.2.2.1
    obtain ⟨⟨q1, q2, q3, q4, q5⟩, o2, o3⟩ := hR.now.2.2.2.2.1 ((callsS now.1).getD c dC).1 (by omega)
    have hps : f_X0_partSize 248 1 (nI c) I1 R = some (clV now.1 c 1) := by
      unfold f_X0_partSize
      rw [b0, b1, lc249, lc250, if_pos (inb_nI (by omega) (by omega)), nI_clamp (show c < 2 ^ 31 by omega), v1, h10, l2, if_pos (inb_nI (by omega) (by omega)), if_pos (inb_nI (by omega) (by omega)), nI_clamp (by omega), v2, q2, ps8C q4 (hs.1.1.get i1).2.2.2.1 (e2.2.1.1.2 _ i1).2 i2, bd1_s]
      rfl
    rw [if_neg (show ¬ nI 1 = 0 by decide), if_pos (show nI 1 = 1 from rfl), hR.r0, hps, bd1_s]
    exact ⟨I1, L1, rfl, e2, e3, e4⟩
  · rw [if_neg (show ¬ nI 2 = 0 by decide), if_neg (show ¬ nI 2 = 1 by decide), if_pos (show nI 2 = 2 from rfl), e4.2.2.2.2.1 c hc]
    exact ⟨I1, L1, rfl, e2, e3, e4⟩
  · rw [if_neg (show ¬ nI 3 = 0 by decide), if_neg (show ¬ nI 3 = 1 by decide), if_neg (show ¬ nI 3 = 2 by decide), bcC (e4.2.2.2.1 c hc), bd1_s, fo64 hs.1.1]
    exact ⟨I1, L1, rfl, e2, e3, e4⟩
theorem c61_L {rs : List Ru} (hr : RsOK rs) {I : mI} {c : Nat} (hc : c < nCl rs) (hB : BookM I rs) :
    ∀ (z n d s : Nat), nCl rs - d = z → z < n → d ≤ nCl rs → s = fb_ct (foS rs c) d → f_X11_callTold_L61 n 0 (nI c) (nI s) (nI d) I R1M = some (nI (fb_ct (foS rs c) (nCl rs))) := by
  have h60 : nCl rs ≤ 60 := callsS_len hr
  have h18 : I 0 18 = nI (nCl rs) := hB.1.1
  intro z
  induction z with
  | zero =>
    intro n d s g1 g2 g3 g4
    obtain ⟨n, rfl⟩ : ∃ x, n = x + 1 := ⟨n - 1, by omega⟩
    rw [f_X11_callTold_L61, h18, if_pos (nI_le (by omega) (by omega)), g4, show d = nCl rs by omega]
  | succ z ih =>
    intro n d s g1 g2 g3 g4
    obtain ⟨n, rfl⟩ : ∃ x, n = x + 1 := ⟨n - 1, by omega⟩
    have hd : d < nCl rs := by omega
    rw [f_X11_callTold_L61, h18, if_neg (nI_ge (by omega) (by omega)), m60, mr19, lm14, if_pos (lm60 h60 hc hd), nI_clamp (by omega), hB.2.1 c d hc hd]
    simp only [bnd_e]
    rw [nI_1 d]
    cases hf : foS rs c d with
    | true =>
      rw [bi_t, if_neg n10, nI_1 s]
      exact ih n (d + 1) (s + 1) (by omega) (by omega) (by omega) (by rw [fb_ct_succ, hf, g4]; rfl)
    | false =>
      rw [bi_f, if_pos rfl, ← nI0, nI_add]
      exact ih n (d + 1) (s + 0) (by omega) (by omega) (by omega) (by rw [fb_ct_succ, hf, g4]; rfl)
theorem clM {I : mI} {rs : List Ru} (hr : RsOK rs) (hM : RsM (I 1) rs) (hB : BookM I rs) {c k : Nat} (hc : c < nCl rs) (hk : k ≤ 3) : f_X11_callTold 0 (nI c) (nI k) I R1M = some (clV rs c k) := by
  have h60 : nCl rs ≤ 60 := callsS_len hr
  have h5 := hr.1
  obtain ⟨v1, v2⟩ := hB.1.2 c hc
  unfold f_X11_callTold
  rw [mr16, mr17, mr21, mr0, lm12, lm13, lm16, if_pos (inb_nI (by omega) (by omega)), if_pos (inb_nI (by omega) (by omega)), if_pos (inb_nI (by omega) (by omega)), nI_clamp (by omega), v1, v2, hB.2.2.1 c hc]
  rcases (show k = 0 ∨ k = 1 ∨ k = 2 ∨ k = 3 by omega) with rfl | rfl | rfl | rfl
  · rw [if_pos (show nI 0 = 0 from rfl)]
    rfl
  · obtain ⟨i1, i2⟩ := callsS_in (rs := rs) (c := c) hc
    rw [if_neg (show ¬ nI 1 = 0 by decide), if_pos (show nI 1 = 1 from rfl), longR (hM.2 _ i1) (hr.get i1) (by omega) i2, bd1_s]
    rfl
  · rw [if_neg (show ¬ nI 2 = 0 by decide), if_neg (show ¬ nI 2 = 1 by decide), if_pos (show nI 2 = 2 from rfl)]
    rfl
  · have e := c61_L hr hc hB (nCl rs) FU 0 0 (by omega) (by rw [FU_eq]; omega) (by omega) rfl
    rw [nI0] at e
    rw [if_neg (show ¬ nI 3 = 0 by decide), if_neg (show ¬ nI 3 = 1 by decide), if_neg (show ¬ nI 3 = 2 by decide), e, bd1_s]
    rfl
