/-! ===== what is reached, rings: the model ===== -/
theorem wst_b (by1 c : Nat) (M : Mx) (a b : Nat) : wst by1 c M a b = if a = c ∧ M c by1 = true then M c b || M by1 b else M a b := rfl
theorem ws_L {N : Nat} (hN : N ≤ 60) {by1 c : Nat} (hby : by1 < N) (hc : c < N) (M : Mx) (ht : M c by1 = true) :
    ∀ (q n d : Nat) (I : mI), N - d = q → q < n → d ≤ N → I 0 18 = nI N → (∀ a b, a < N → b < N → I 15 (60 * a + b) = bi (if a = c ∧ b < d then M c b || M by1 b else M a b)) → ∃ I', f_X11_laysCalls_L189 n 0 (nI by1) (nI c) (nI d) I R1M = some I' ∧ MxM I' 15 N (wst by1 c M) ∧ ∀ a, a ≠ 15 → I' a = I a := by
  intro q
  induction q with
  | zero =>
    intro n d I g1 g2 g3 g4 g5
    obtain ⟨n, rfl⟩ : ∃ x, n = x + 1 := ⟨n - 1, by omega⟩
    refine ⟨I, ?_, fun a b ha hb => ?_, fun _ _ => rfl⟩
    · rw [f_X11_laysCalls_L189, g4, if_pos (nI_le (by omega) (by omega))]
    · rw [g5 a b ha hb, wst_b]
      congr 1
      by_cases he : a = c
      · rw [if_pos ⟨he, by omega⟩, if_pos ⟨he, ht⟩]
      · rw [if_neg (fun w => he w.1), if_neg (fun w => he w.1)]
  | succ q ih =>
    intro n d I g1 g2 g3 g4 g5
    obtain ⟨n, rfl⟩ : ∃ x, n = x + 1 := ⟨n - 1, by omega⟩
    have hd : d < N := by omega
    have v1 : I 15 (60 * c + by1) = 1 := by
      rw [g5 c by1 hc hby]
      by_cases hx : by1 < d
      · rw [if_pos ⟨rfl, hx⟩, ht]; rfl
      · rw [if_neg (fun w => hx w.2), ht]; rfl
    have v2 : I 15 (60 * c + d) = bi (M c d) := by rw [g5 c d hc hd, if_neg (fun w => by omega)]
    have v3 : I 15 (60 * by1 + d) = bi (M by1 d) := by rw [g5 by1 d hby hd, if_neg (fun w => by omega)]
    rw [f_X11_laysCalls_L189]
    simp only [bnd]
    rw [g4, if_neg (nI_ge hd (by omega)), m60, m60, m60, mr20, lm15, if_pos (lm60 hN hc hby), if_pos (lm60 hN hc hd), if_pos (lm60 hN hby hd), nI_clamp (show 60 * c + by1 < 2 ^ 31 by omega), nI_clamp (show 60 * c + d < 2 ^ 31 by omega), nI_clamp (show 60 * by1 + d < 2 ^ 31 by omega), v1, v2, v3, if_neg n10, nI_1 d]
    have go : ∀ v, v = bi (M c d || M by1 d) → ∃ I', f_X11_laysCalls_L189 n 0 (nI by1) (nI c) (nI (d + 1)) (u2 I 15 (60 * c + d) v) R1M = some I' ∧ MxM I' 15 N (wst by1 c M) ∧ ∀ a, a ≠ 15 → I' a = I a := by
      intro v hv
      obtain ⟨I', e1, e2, e3⟩ := ih n (d + 1) (u2 I 15 (60 * c + d) v) (by omega) (by omega) (by omega) (by rw [u2_n _ _ _ (by decide)]; exact g4) (fun a b ha hb => by
        by_cases he : a = c ∧ b = d
        · rw [he.1, he.2, u2_e, if_pos ⟨rfl, by omega⟩, hv]
        · have hne : 60 * a + b ≠ 60 * c + d := fun w => he (by omega)
          rw [u2_o _ _ _ hne, g5 a b ha hb]
          congr 1
          by_cases hx : a = c ∧ b < d
          · rw [if_pos hx, if_pos ⟨hx.1, by omega⟩]
          · rw [if_neg hx, if_neg (fun w => by
              by_cases hbd : b < d
              · exact hx ⟨w.1, hbd⟩
              · exact he ⟨w.1, by omega⟩)])
      exact ⟨I', e1, e2, fun a ha => by rw [e3 a ha, u2_n _ _ _ ha]⟩
    cases h1 : M c d with
    | true =>
      rw [if_neg (show ¬ bi true = 0 by decide), show vp_nar .boolean (1 : Int32) = 1 from rfl]
      exact go 1 (by rw [h1]; rfl)
    | false =>
      rw [if_pos (show bi false = 0 from rfl)]
      cases h2 : M by1 d with
      | true =>
        rw [if_neg (show ¬ bi true = 0 by decide), show vp_nar .boolean (1 : Int32) = 1 from rfl]
        exact go 1 (by rw [h1, h2]; rfl)
      | false =>
        rw [if_pos (show bi false = 0 from rfl), show vp_nar .boolean (0 : Int32) = 0 from rfl]
        exact go 0 (by rw [h1, h2]; rfl)
theorem ws_1 {N : Nat} (hN : N ≤ 60) {by1 c : Nat} (hby : by1 < N) (hc : c < N) {M : Mx} {I : mI} (g4 : I 0 18 = nI N) (g5 : MxM I 15 N M) : ∃ I', f_X11_laysCalls_L189 FU 0 (nI by1) (nI c) 0 I R1M = some I' ∧ MxM I' 15 N (wst by1 c M) ∧ ∀ a, a ≠ 15 → I' a = I a := by
  cases ht : M c by1 with
  | true =>
    have := ws_L hN hby hc M ht N FU 0 I (by omega) (by rw [FU_eq]; omega) (by omega) g4 (fun a b ha hb => by rw [if_neg (fun w => by omega)]; exact g5 a b ha hb)
    rw [nI0] at this
    exact this
  | false =>
    refine ⟨I, ?_, fun a b ha hb => ?_, fun _ _ => rfl⟩
    · rw [FU_eq, f_X11_laysCalls_L189, g4, show (0 : Int32) = nI 0 from rfl, if_neg (nI_ge (by omega) (by omega)), m60, mr20, lm15, if_pos (lm60 hN hc hby), nI_clamp (show 60 * c + by1 < 2 ^ 31 by omega), g5 c by1 hc hby, ht, if_pos (show bi false = nI 0 from rfl)]
    · rw [g5 a b ha hb, wst_b, if_neg (fun w => by rw [ht] at w; exact absurd w.2 (by decide))]
theorem wi_L {N : Nat} (hN : N ≤ 60) {by1 : Nat} (hby : by1 < N) (M0 : Mx) :
    ∀ (q n c : Nat) (I : mI), N - c = q → q < n → c ≤ N → I 0 18 = nI N → MxM I 15 N (wIn by1 c M0) → ∃ I', f_X11_laysCalls_L179 n 0 (nI by1) (nI c) I R1M = some I' ∧ MxM I' 15 N (wIn by1 N M0) ∧ ∀ a, a ≠ 15 → I' a = I a := by
  intro q
  induction q with
  | zero =>
    intro n c I g1 g2 g3 g4 g5
    obtain ⟨n, rfl⟩ : ∃ x, n = x + 1 := ⟨n - 1, by omega⟩
    rw [show c = N by omega] at g5
    refine ⟨I, ?_, g5, fun _ _ => rfl⟩
    rw [f_X11_laysCalls_L179, g4, if_pos (nI_le (by omega) (by omega))]
  | succ q ih =>
    intro n c I g1 g2 g3 g4 g5
    obtain ⟨n, rfl⟩ : ∃ x, n = x + 1 := ⟨n - 1, by omega⟩
    obtain ⟨I1, e1, e2, e3⟩ := ws_1 hN hby (show c < N by omega) g4 g5
    rw [f_X11_laysCalls_L179, g4, if_neg (nI_ge (by omega) (by omega)), e1, bd1_s, nI_1 c]
    obtain ⟨I2, f1, f2, f3⟩ := ih n (c + 1) I1 (by omega) (by omega) (by omega) (by rw [e3 0 (by decide)]; exact g4) e2
    exact ⟨I2, f1, f2, fun a ha => by rw [f3 a ha, e3 a ha]⟩
theorem wo_L {N : Nat} (hN : N ≤ 60) (M0 : Mx) :
    ∀ (q n k : Nat) (I : mI), N - k = q → q < n → k ≤ N → I 0 18 = nI N → MxM I 15 N (wOut N k M0) → ∃ I', f_X11_laysCalls_L169 n 0 (nI k) I R1M = some I' ∧ MxM I' 15 N (wOut N N M0) ∧ ∀ a, a ≠ 15 → I' a = I a := by
  intro q
  induction q with
  | zero =>
    intro n k I g1 g2 g3 g4 g5
    obtain ⟨n, rfl⟩ : ∃ x, n = x + 1 := ⟨n - 1, by omega⟩
    rw [show k = N by omega] at g5
    refine ⟨I, ?_, g5, fun _ _ => rfl⟩
    rw [f_X11_laysCalls_L169, g4, if_pos (nI_le (by omega) (by omega))]
  | succ q ih =>
    intro n k I g1 g2 g3 g4 g5
    obtain ⟨n, rfl⟩ : ∃ x, n = x + 1 := ⟨n - 1, by omega⟩
    obtain ⟨I1, e1, e2, e3⟩ := wi_L hN (by1 := k) (by omega) (wOut N k M0) N FU 0 I (by omega) (by rw [FU_eq]; omega) (by omega) g4 g5
    rw [nI0] at e1
    rw [f_X11_laysCalls_L169, g4, if_neg (nI_ge (by omega) (by omega)), e1, bd1_s, nI_1 k]
    obtain ⟨I2, f1, f2, f3⟩ := ih n (k + 1) I1 (by omega) (by omega) (by omega) (by rw [e3 0 (by decide)]; exact g4) e2
    exact ⟨I2, f1, f2, fun a ha => by rw [f3 a ha, e3 a ha]⟩
theorem rm7_L {N : Nat} (hN : N ≤ 60) :
    ∀ (q n c : Nat) (I : mI), N - c = q → q < n → c ≤ N → I 0 18 = nI N → (∀ d, d < c → I 16 d = -1) → ∃ I', f_X11_laysRings_L7 n 0 (nI c) I R1M = some I' ∧ (∀ d, d < N → I' 16 d = -1) ∧ ∀ a, a ≠ 16 → I' a = I a := by
  intro q
  induction q with
  | zero =>
    intro n c I g1 g2 g3 g4 g5
    obtain ⟨n, rfl⟩ : ∃ x, n = x + 1 := ⟨n - 1, by omega⟩
    refine ⟨I, ?_, fun d hd => g5 d (by omega), fun _ _ => rfl⟩
    rw [f_X11_laysRings_L7, g4, if_pos (nI_le (by omega) (by omega))]
  | succ q ih =>
    intro n c I g1 g2 g3 g4 g5
    obtain ⟨n, rfl⟩ : ∃ x, n = x + 1 := ⟨n - 1, by omega⟩
    rw [f_X11_laysRings_L7]
    simp only [bnd]
    rw [g4, if_neg (nI_ge (by omega) (by omega)), mr21, lm16, if_pos (inb_nI (by omega) (by omega)), nI_clamp (by omega), nI_1 c]
    obtain ⟨I', e1, e2, e3⟩ := ih n (c + 1) (u2 I 16 c (-1)) (by omega) (by omega) (by omega) (by rw [u2_n _ _ _ (by decide)]; exact g4) (fun d hd => by
      by_cases he : d = c
      · rw [he, u2_e]
      · rw [u2_o _ _ _ he]; exact g5 d (by omega))
    exact ⟨I', e1, e2, fun a ha => by rw [e3 a ha, u2_n _ _ _ ha]⟩
theorem rm64_L {N : Nat} (hN : N ≤ 60) {M : Mx} {c k : Nat} (hc : c < N) (rg : Nat → Int32) :
    ∀ (q n d : Nat) (I : mI), N - d = q → q < n → c ≤ d → d ≤ N → I 0 18 = nI N → I 0 22 = nI k → MxM I 15 N M → (∀ x, x < N → I 16 x = if x < d then nmR M N c (nI k) rg x else rg x) → ∃ I', f_X11_laysRings_L64 n 0 (nI c) (nI d) I R1M = some I' ∧ (∀ x, x < N → I' 16 x = nmR M N c (nI k) rg x) ∧ ∀ a, a ≠ 16 → I' a = I a := by
  intro q
  induction q with
  | zero =>
    intro n d I g1 g2 g3 g4 g5 g6 gM g7
    obtain ⟨n, rfl⟩ : ∃ x, n = x + 1 := ⟨n - 1, by omega⟩
    refine ⟨I, ?_, fun x hx => by rw [g7 x hx, if_pos (by omega)], fun _ _ => rfl⟩
    rw [f_X11_laysRings_L64, g5, if_pos (nI_le (by omega) (by omega))]
  | succ q ih =>
    intro n d I g1 g2 g3 g4 g5 g6 gM g7
    obtain ⟨n, rfl⟩ : ∃ x, n = x + 1 := ⟨n - 1, by omega⟩
    have hd : d < N := by omega
    have g7d : I 16 d = rg d := by rw [g7 d hd, if_neg (by omega)]
    rw [f_X11_laysRings_L64]
    simp only [bnd]
    rw [g5, if_neg (nI_ge hd (by omega)), m60, m60, mr20, mr21, lm15, lm16, if_pos (lm60 hN hc hd), if_pos (inb_nI (show d < 60 by omega) (by omega)), if_pos (inb_nI (show d < 60 by omega) (by omega)), if_pos (inb_nI (show d < 60 by omega) (by omega)), if_pos (lm60 hN hd hc), nI_clamp (show 60 * c + d < 2 ^ 31 by omega), nI_clamp (show 60 * d + c < 2 ^ 31 by omega), nI_clamp (show d < 2 ^ 31 by omega), gM c d hc hd, gM d c hd hc, g6, g7d, nI_1 d]
    have go : ∀ v, v = nmR M N c (nI k) rg d → ∃ I', f_X11_laysRings_L64 n 0 (nI c) (nI (d + 1)) (u2 I 16 d v) R1M = some I' ∧ (∀ x, x < N → I' 16 x = nmR M N c (nI k) rg x) ∧ ∀ a, a ≠ 16 → I' a = I a := by
      intro v hv
      obtain ⟨I', e1, e2, e3⟩ := ih n (d + 1) (u2 I 16 d v) (by omega) (by omega) (by omega) (by omega) (by rw [u2_n _ _ _ (by decide)]; exact g5) (by rw [u2_n _ _ _ (by decide)]; exact g6) (fun a b ha hb => by rw [u2_n _ _ _ (by decide)]; exact gM a b ha hb) (fun x hx => by
        by_cases he : x = d
        · rw [he, u2_e, if_pos (by omega), hv]
        · rw [u2_o _ _ _ he, g7 x hx]
          by_cases hx1 : x < d
          · rw [if_pos hx1, if_pos (by omega)]
          · rw [if_neg hx1, if_neg (by omega)])
      exact ⟨I', e1, e2, fun a ha => by rw [e3 a ha, u2_n _ _ _ ha]⟩
    have hnm : nmR M N c (nI k) rg d = if M c d = true ∧ M d c = true then nI k else rg d := by
      unfold nmR
      by_cases h : M c d = true ∧ M d c = true
      · rw [if_pos ⟨g3, hd, h.1, h.2⟩, if_pos h]
      · rw [if_neg (fun w => h w.2.2), if_neg h]
    cases h1 : M c d with
    | true =>
      rw [if_neg (show ¬ bi true = 0 by decide)]
      cases h2 : M d c with
      | true =>
        rw [if_neg (show ¬ bi true = 0 by decide)]
        exact go _ (by rw [hnm, if_pos ⟨h1, h2⟩])
      | false =>
        rw [if_pos (show bi false = 0 from rfl)]
        exact go _ (by rw [hnm, if_neg (fun w => by rw [h2] at w; exact absurd w.2 (by decide))])
    | false =>
      rw [if_pos (show bi false = 0 from rfl)]
      exact go _ (by rw [hnm, if_neg (fun w => by rw [h1] at w; exact absurd w.1 (by decide))])
def FrH (I' I : mI) : Prop := (∀ a, a ≠ 0 → a ≠ 16 → I' a = I a) ∧ ∀ k, k ≠ 22 → I' 0 k = I 0 k
theorem FrH.trans {I I' I'' : mI} (h : FrH I'' I') (h' : FrH I' I) : FrH I'' I := ⟨fun a x y => (h.1 a x y).trans (h'.1 a x y), fun k x => (h.2 k x).trans (h'.2 k x)⟩
theorem rm30_L {N : Nat} (hN : N ≤ 60) {M : Mx} :
    ∀ (q n c : Nat) (I : mI), N - c = q → q < n → c ≤ N → I 0 18 = nI N → I 0 22 = nI (rgF M N c).2 → MxM I 15 N M → (∀ x, x < N → I 16 x = (rgF M N c).1 x) → ∃ I', f_X11_laysRings_L30 n 0 (nI c) I R1M = some I' ∧ I' 0 22 = nI (rgF M N N).2 ∧ (∀ x, x < N → I' 16 x = (rgF M N N).1 x) ∧ FrH I' I := by
  intro q
  induction q with
  | zero =>
    intro n c I g1 g2 g3 g4 g5 gM g6
    obtain ⟨n, rfl⟩ : ∃ x, n = x + 1 := ⟨n - 1, by omega⟩
    rw [show c = N by omega] at g5 g6
    refine ⟨I, ?_, g5, g6, fun _ _ _ => rfl, fun _ _ => rfl⟩
    rw [f_X11_laysRings_L30, g4, if_pos (nI_le (by omega) (by omega))]
  | succ q ih =>
    intro n c I g1 g2 g3 g4 g5 gM g6
    obtain ⟨n, rfl⟩ : ∃ x, n = x + 1 := ⟨n - 1, by omega⟩
    have hc : c < N := by omega
    rw [f_X11_laysRings_L30]
    simp only [bnd]
    rw [g4, if_neg (nI_ge (by omega) (by omega)), m60, mr20, mr21, lm15, lm16, if_pos (inb_nI (show c < 60 by omega) (by omega)), if_pos (lm60 hN hc hc), nI_clamp (show c < 2 ^ 31 by omega), nI_clamp (show 60 * c + c < 2 ^ 31 by omega), g6 c hc, gM c c hc hc, nI_1 c]
    have hnext : rgF M N (c + 1) = if (rgF M N c).1 c = -1 ∧ M c c = true then (nmR M N c (nI (rgF M N c).2) (rgF M N c).1, (rgF M N c).2 + 1) else rgF M N c := rfl
    have no : ¬ ((rgF M N c).1 c = -1 ∧ M c c = true) → ∃ I', f_X11_laysRings_L30 n 0 (nI (c + 1)) I R1M = some I' ∧ I' 0 22 = nI (rgF M N N).2 ∧ (∀ x, x < N → I' 16 x = (rgF M N N).1 x) ∧ FrH I' I := by
      intro hno
      rw [if_neg hno] at hnext
      exact ih n (c + 1) I (by omega) (by omega) (by omega) g4 (by rw [hnext]; exact g5) gM (by rw [hnext]; exact g6)
    by_cases h1 : (rgF M N c).1 c = -1
    · rw [if_pos h1]
      cases h2 : M c c with
      | true =>
        rw [if_neg (show ¬ bi true = 0 by decide)]
        rw [if_pos ⟨h1, h2⟩] at hnext
        obtain ⟨I1, e1, e2, e3⟩ := rm64_L hN hc (k := (rgF M N c).2) (rgF M N c).1 (N - c) FU c I rfl (by rw [FU_eq]; omega) (Nat.le_refl _) (by omega) g4 g5 gM (fun x hx => by
          rw [g6 x hx]
          by_cases hx1 : x < c
          · rw [if_pos hx1]
            unfold nmR
            rw [if_neg (fun w => by omega)]
          · rw [if_neg hx1])
        rw [e1, bd1_s, e3 0 (by decide), g5, nI_1]
        have F1 : FrH (u2 I1 0 22 (nI ((rgF M N c).2 + 1))) I := ⟨fun a x y => by rw [u2_n _ _ _ x, e3 a y], fun k x => by rw [u2_o _ _ _ x, e3 0 (by decide)]⟩
        obtain ⟨I2, f1, f2, f3, f4⟩ := ih n (c + 1) (u2 I1 0 22 (nI ((rgF M N c).2 + 1))) (by omega) (by omega) (by omega) (by rw [F1.2 18 (by decide)]; exact g4) (by rw [u2_e, hnext]) (fun a b ha hb => by rw [F1.1 15 (by decide) (by decide)]; exact gM a b ha hb) (fun x hx => by rw [u2_n _ _ _ (by decide), hnext]; exact e2 x hx)
        exact ⟨I2, f1, f2, f3, f4.trans F1⟩
      | false =>
        rw [if_pos (show bi false = 0 from rfl)]
        exact no (fun w => by rw [h2] at w; exact absurd w.2 (by decide))
    · rw [if_neg h1]
      exact no (fun w => h1 w.1)
/-- the model's book -/
def BookM (I : mI) (rs : List Ru) : Prop := CkM I (callsS rs) ∧ MxM I 14 (nCl rs) (foS rs) ∧ (∀ c, c < nCl rs → I 16 c = (rgS rs).1 c) ∧ I 0 22 = nI (rgS rs).2
def FrBm (I' I : mI) : Prop := (∀ a, a ≠ 0 → (a < 12 ∨ 16 < a) → I' a = I a) ∧ ∀ k, k ≠ 18 → k ≠ 22 → I' 0 k = I 0 k
theorem layM_ok {rs : List Ru} (hr : RsOK rs) {I : mI} (hM : RsM (I 1) rs) : ∃ I', f_X11_laysCalls 0 I R1M = some I' ∧ BookM I' rs ∧ FrBm I' I := by
  have h60 : nCl rs ≤ 60 := callsS_len hr
  have hr5 := hr.1
  have F0 : FrCk (u2 I 0 18 0) I := ⟨fun a x _ _ => by rw [u2_n _ _ _ x], fun k x => by rw [u2_o _ _ _ x]⟩
  obtain ⟨I1, e1, e2, e3⟩ := lcM_L hr hM rs.length FU 0 (u2 I 0 18 0) [] (by omega) (by rw [FU_eq]; omega) (by omega) (by rw [u2_n _ _ _ (by decide)]) ⟨by rw [u2_e]; rfl, fun i hi => by cases hi⟩ (Nat.zero_le _)
  rw [List.drop_zero, List.nil_append] at e2
  have F1 : FrCk I1 I := e3.trans F0
  have e2' : CkM I1 (callsS rs) := e2
  obtain ⟨I2, f1, f2, f3, f4⟩ := pn_L hr (nCl rs) FU 0 I1 (by omega) (by rw [FU_eq]; omega) (by omega) (by rw [F1.1 1 (by decide) (by decide) (by decide)]; exact hM) e2' (fun y x hy hx => by omega)
  have c2 : I2 0 18 = nI (nCl rs) := by rw [f4 0 (by decide) (by decide)]; exact e2'.1
  obtain ⟨I3, g1, g2, g3⟩ := wo_L h60 (foS rs) (nCl rs) FU 0 I2 (by omega) (by rw [FU_eq]; omega) (by omega) c2 f3
  have c3 : u2 I3 0 22 0 0 18 = nI (nCl rs) := by rw [u2_o _ _ _ (by decide), g3 0 (by decide)]; exact c2
  obtain ⟨I4, k1, k2, k3⟩ := rm7_L h60 (nCl rs) FU 0 (u2 I3 0 22 0) (by omega) (by rw [FU_eq]; omega) (by omega) c3 (fun d hd => by omega)
  obtain ⟨I5, m1, m2, m3, m4⟩ := rm30_L h60 (M := reS rs) (nCl rs) FU 0 I4 (by omega) (by rw [FU_eq]; omega) (by omega) (by rw [k3 0 (by decide)]; exact c3) (by rw [k3 0 (by decide), u2_e]; rfl) (fun a b ha hb => by rw [k3 15 (by decide), u2_n _ _ _ (by decide)]; exact g2 a b ha hb) (fun x hx => k2 x hx)
  have z0 : ∀ k, k ≠ 22 → I5 0 k = I2 0 k := fun k hk => by rw [m4.2 k hk, k3 0 (by decide), u2_o _ _ _ hk, g3 0 (by decide)]
  have zz : ∀ a, a ≠ 0 → a ≠ 15 → a ≠ 16 → I5 a = I2 a := fun a x y z => by rw [m4.1 a x z, k3 a z, u2_n _ _ _ x, g3 a y]
  refine ⟨I5, ?_, ⟨⟨by rw [z0 18 (by decide)]; exact c2, fun i hi => by rw [zz 12 (by decide) (by decide) (by decide), zz 13 (by decide) (by decide) (by decide), f4 12 (by decide) (by decide), f4 13 (by decide) (by decide)]; exact e2'.2 i hi⟩, fun a b ha hb => by rw [zz 14 (by decide) (by decide) (by decide)]; exact f2 a b ha hb, m3, m2⟩, fun a x y => by rw [zz a x (by omega) (by omega), f4 a (by omega) (by omega), F1.1 a x (by omega) (by omega)], fun k x y => by rw [z0 k y, f4 0 (by decide) (by decide), F1.2 k x]⟩
  unfold f_X11_laysCalls f_X11_laysRings
  simp only [bnd]
  rw [nI0] at e1 f1 g1 k1 m1
  rw [e1, bd1_s, f1, bd1_s, g1, bd1_s, k1, bd1_s, m1]
  rfl
