/-! ===== what is reached, rings: what is meant, and the class ===== -/
abbrev Mx : Type := Nat → Nat → Bool
def wst (by1 c : Nat) (M : Mx) : Mx := fun a b => if a = c ∧ M c by1 = true then M c b || M by1 b else M a b
def wIn (by1 : Nat) : Nat → Mx → Mx
  | 0, M => M
  | k + 1, M => wst by1 k (wIn by1 k M)
def wOut (n : Nat) : Nat → Mx → Mx
  | 0, M => M
  | k + 1, M => wIn k n (wOut n k M)
def nmR (M : Mx) (n c : Nat) (v : Int32) (rg : Nat → Int32) : Nat → Int32 := fun d => if c ≤ d ∧ d < n ∧ M c d = true ∧ M d c = true then v else rg d
def rgF (M : Mx) (n : Nat) : Nat → (Nat → Int32) × Nat
  | 0 => (fun _ => -1, 0)
  | c + 1 => if (rgF M n c).1 c = -1 ∧ M c c = true then (nmR M n c (nI (rgF M n c).2) (rgF M n c).1, (rgF M n c).2 + 1) else rgF M n c
theorem rgF_le (M : Mx) (n : Nat) : ∀ c, (rgF M n c).2 ≤ c
  | 0 => Nat.le_refl _
  | c + 1 => by
    have := rgF_le M n c
    unfold rgF
    split
    · show (rgF M n c).2 + 1 ≤ _; omega
    · omega
def nCl (rs : List Ru) : Nat := (callsS rs).length
def reS (rs : List Ru) : Mx := wOut (nCl rs) (nCl rs) (foS rs)
def rgS (rs : List Ru) : (Nat → Int32) × Nat := rgF (reS rs) (nCl rs) (nCl rs)
theorem rgS_le (rs : List Ru) : (rgS rs).2 ≤ nCl rs := rgF_le _ _ _
/-- rows of bits -/
def MxC (L : mL) (a n : Nat) (M : Mx) : Prop := ∀ c, c < n → BS (L a c) (M c)
theorem ffC_L {R : mR} {rs : List Ru} (hR : RO R) (hr : RsOK rs) {I : mI} (h4 : NoC I R rs) (h5 : I 248 7 = hv rs) (h6 : CkC I (callsS rs)) :
    ∀ (q n c : Nat) (L : mL), nCl rs - c = q → q < n → c ≤ nCl rs → (∀ r', r' < rs.length → BS (L 254 r') (ofP (callsS rs) r')) → MxC L 252 c (foS rs) → MxC L 253 c (foS rs) →
      ∃ L', f_X0_fillFrom_L12 n 248 1 (nI c) I L R = some L' ∧ MxC L' 252 (nCl rs) (foS rs) ∧ MxC L' 253 (nCl rs) (foS rs) ∧ ∀ a, a ≠ 252 → a ≠ 253 → L' a = L a := by
  have h60 : nCl rs ≤ 60 := callsS_len hr
  obtain ⟨b0, b1, b2, b3, b4, b5, b6⟩ := hR.bk
  have h8 : I 248 8 = nI (nCl rs) := h6.1
  intro q
  induction q with
  | zero =>
    intro n c L g1 g2 g3 g4 g5 g6
    obtain ⟨n, rfl⟩ : ∃ x, n = x + 1 := ⟨n - 1, by omega⟩
    refine ⟨L, ?_, fun x hx => g5 x (by omega), fun x hx => g6 x (by omega), fun _ _ _ => rfl⟩
    rw [f_X0_fillFrom_L12, h8, if_pos (nI_le (by omega) (by omega))]
  | succ q ih =>
    intro n c L g1 g2 g3 g4 g5 g6
    obtain ⟨n, rfl⟩ : ∃ x, n = x + 1 := ⟨n - 1, by omega⟩
    obtain ⟨y, e1, e2⟩ := flC_ok hR hr (c := c) (show c < nCl rs by omega) h4 h5 h6 g4
    rw [f_X0_fillFrom_L12]
    simp only [bnd]
    rw [h8, if_neg (nI_ge (by omega) (by omega)), e1, bd1_s, b3, b4, lc252, lc253, if_pos (inb_nI (by omega) (by omega)), if_pos (inb_nI (by omega) (by omega)), nI_clamp (by omega), u2_e, nI_1 c]
    obtain ⟨L', f1, f2, f3, f4⟩ := ih n (c + 1) (u2 (u2 L 252 c y) 253 c y) (by omega) (by omega) (by omega) (fun r' hr' => by rw [u2_n _ _ _ (by decide), u2_n _ _ _ (by decide)]; exact g4 r' hr') (fun x hx => by
      rw [u2_n _ _ _ (by decide)]
      by_cases he : x = c
      · rw [he, u2_e]; exact e2
      · rw [u2_o _ _ _ he]; exact g5 x (by omega)) (fun x hx => by
      by_cases he : x = c
      · rw [he, u2_e]; exact e2
      · rw [u2_o _ _ _ he, u2_n _ _ _ (by decide)]; exact g6 x (by omega))
    exact ⟨L', f1, f2, f3, fun a x1 x2 => by rw [f4 a x1 x2, u2_n _ _ _ x2, u2_n _ _ _ x1]⟩
theorem roC_in {R : mR} {N : Nat} (hR : RO R) (hN : N ≤ 60) {I : mI} (h8 : I 248 8 = nI N) {by1 : Nat} (hby : by1 < N) (M0 : Mx) :
    ∀ (q n c : Nat) (L : mL), N - c = q → q < n → c ≤ N → MxC L 253 N (wIn by1 c M0) → ∃ L', f_X0_reachOn_L12 n 248 (nI by1) (nI c) I L R = some L' ∧ MxC L' 253 N (wIn by1 N M0) ∧ ∀ a, a ≠ 253 → L' a = L a := by
  obtain ⟨b0, b1, b2, b3, b4, b5, b6⟩ := hR.bk
  intro q
  induction q with
  | zero =>
    intro n c L g1 g2 g3 g4
    obtain ⟨n, rfl⟩ : ∃ x, n = x + 1 := ⟨n - 1, by omega⟩
    refine ⟨L, ?_, by rw [show c = N by omega] at g4; exact g4, fun _ _ => rfl⟩
    rw [f_X0_reachOn_L12, h8, if_pos (nI_le (by omega) (by omega))]
  | succ q ih =>
    intro n c L g1 g2 g3 g4
    obtain ⟨n, rfl⟩ : ∃ x, n = x + 1 := ⟨n - 1, by omega⟩
    rw [f_X0_reachOn_L12]
    simp only [bnd]
    rw [h8, if_neg (nI_ge (by omega) (by omega)), b4, lc253, if_pos (inb_nI (by omega) (by omega)), nI_clamp (show c < 2 ^ 31 by omega), hbC (g4 c (by omega)) (show by1 < 64 by omega), bd1_s, if_pos (inb_nI (by omega) (by omega)), nI_clamp (show by1 < 2 ^ 31 by omega), nI_1 c]
    have key : wIn by1 (c + 1) M0 = wst by1 c (wIn by1 c M0) := rfl
    cases hb2 : wIn by1 c M0 c by1 with
    | true =>
      rw [if_pos rfl, if_neg n10]
      obtain ⟨L', e1, e2, e3⟩ := ih n (c + 1) (u2 L 253 c (L 253 c ||| L 253 by1)) (by omega) (by omega) (by omega) (fun x hx => by
        rw [key]
        by_cases he : x = c
        · rw [he, u2_e]
          refine (BS_or (g4 c (by omega)) (g4 by1 hby)).cong (fun i _ => ?_)
          unfold wst
          rw [if_pos ⟨rfl, hb2⟩]
        · rw [u2_o _ _ _ he]
          refine (g4 x hx).cong (fun i _ => ?_)
          unfold wst
          rw [if_neg (fun w => he w.1)])
      exact ⟨L', e1, e2, fun a ha => by rw [e3 a ha, u2_n _ _ _ ha]⟩
    | false =>
      rw [if_neg (show ¬ false = true by decide), if_pos rfl]
      exact ih n (c + 1) L (by omega) (by omega) (by omega) (fun x hx => by
        rw [key]
        refine (g4 x hx).cong (fun i _ => ?_)
        unfold wst
        rw [if_neg (fun w => by rw [hb2] at w; exact absurd w.2 (by decide))])
theorem roC_L {R : mR} {N : Nat} (hR : RO R) (hN : N ≤ 60) {I : mI} (h8 : I 248 8 = nI N) (M0 : Mx) :
    ∀ (q n k : Nat) (L : mL), N - k = q → q < n → k ≤ N → MxC L 253 N (wOut N k M0) → ∃ L', f_X0_reachOn_L2 n 248 (nI k) I L R = some L' ∧ MxC L' 253 N (wOut N N M0) ∧ ∀ a, a ≠ 253 → L' a = L a := by
  intro q
  induction q with
  | zero =>
    intro n k L g1 g2 g3 g4
    obtain ⟨n, rfl⟩ : ∃ x, n = x + 1 := ⟨n - 1, by omega⟩
    refine ⟨L, ?_, by rw [show k = N by omega] at g4; exact g4, fun _ _ => rfl⟩
    rw [f_X0_reachOn_L2, h8, if_pos (nI_le (by omega) (by omega))]
  | succ q ih =>
    intro n k L g1 g2 g3 g4
    obtain ⟨n, rfl⟩ : ∃ x, n = x + 1 := ⟨n - 1, by omega⟩
    obtain ⟨L1, e1, e2, e3⟩ := roC_in hR hN h8 (by1 := k) (by omega) (wOut N k M0) N FU 0 L (by omega) (by rw [FU_eq]; omega) (by omega) g4
    rw [nI0] at e1
    rw [f_X0_reachOn_L2, h8, if_neg (nI_ge (by omega) (by omega)), e1, bd1_s, nI_1 k]
    obtain ⟨L2, f1, f2, f3⟩ := ih n (k + 1) L1 (by omega) (by omega) (by omega) e2
    exact ⟨L2, f1, f2, fun a ha => by rw [f3 a ha, e3 a ha]⟩
theorem fr7_L {R : mR} {N : Nat} (hR : RO R) (hN : N ≤ 60) {L : mL} :
    ∀ (q n c : Nat) (I : mI), N - c = q → q < n → c ≤ N → I 248 8 = nI N → (∀ d, d < c → I 251 d = -1) → ∃ I', f_X0_findRings_L7 n 248 (nI c) I L R = some I' ∧ (∀ d, d < N → I' 251 d = -1) ∧ ∀ a, a ≠ 251 → I' a = I a := by
  obtain ⟨b0, b1, b2, b3, b4, b5, b6⟩ := hR.bk
  intro q
  induction q with
  | zero =>
    intro n c I g1 g2 g3 g4 g5
    obtain ⟨n, rfl⟩ : ∃ x, n = x + 1 := ⟨n - 1, by omega⟩
    refine ⟨I, ?_, fun d hd => g5 d (by omega), fun _ _ => rfl⟩
    rw [f_X0_findRings_L7, g4, if_pos (nI_le (by omega) (by omega))]
  | succ q ih =>
    intro n c I g1 g2 g3 g4 g5
    obtain ⟨n, rfl⟩ : ∃ x, n = x + 1 := ⟨n - 1, by omega⟩
    rw [f_X0_findRings_L7]
    simp only [bnd]
    rw [g4, if_neg (nI_ge (by omega) (by omega)), b2, lc251, if_pos (inb_nI (by omega) (by omega)), nI_clamp (by omega), nI_1 c]
    obtain ⟨I', e1, e2, e3⟩ := ih n (c + 1) (u2 I 251 c (-1)) (by omega) (by omega) (by omega) (by rw [u2_n _ _ _ (by decide)]; exact g4) (fun d hd => by
      by_cases he : d = c
      · rw [he, u2_e]
      · rw [u2_o _ _ _ he]; exact g5 d (by omega))
    exact ⟨I', e1, e2, fun a ha => by rw [e3 a ha, u2_n _ _ _ ha]⟩
theorem nrC_L {R : mR} {N : Nat} (hR : RO R) (hN : N ≤ 60) {L : mL} {M : Mx} (hM : MxC L 253 N M) {c k : Nat} (hc : c < N) (rg : Nat → Int32) :
    ∀ (q n d : Nat) (I : mI), N - d = q → q < n → c ≤ d → d ≤ N → I 248 8 = nI N → I 248 9 = nI k → (∀ x, x < N → I 251 x = if x < d then nmR M N c (nI k) rg x else rg x) → ∃ I', f_X0_nameRing_L2 n 248 (nI c) (nI d) I L R = some I' ∧ (∀ x, x < N → I' 251 x = nmR M N c (nI k) rg x) ∧ ∀ a, a ≠ 251 → I' a = I a := by
  obtain ⟨b0, b1, b2, b3, b4, b5, b6⟩ := hR.bk
  intro q
  induction q with
  | zero =>
    intro n d I g1 g2 g3 g4 g5 g6 g7
    obtain ⟨n, rfl⟩ : ∃ x, n = x + 1 := ⟨n - 1, by omega⟩
    refine ⟨I, ?_, fun x hx => by rw [g7 x hx, if_pos (by omega)], fun _ _ => rfl⟩
    rw [f_X0_nameRing_L2, g5, if_pos (nI_le (by omega) (by omega))]
  | succ q ih =>
    intro n d I g1 g2 g3 g4 g5 g6 g7
    obtain ⟨n, rfl⟩ : ∃ x, n = x + 1 := ⟨n - 1, by omega⟩
    have hd : d < N := by omega
    rw [f_X0_nameRing_L2]
    simp only [bnd]
    rw [g5, if_neg (nI_ge (by omega) (by omega)), b4, b2, lc253, lc251, if_pos (inb_nI (by omega) (by omega)), nI_clamp (show c < 2 ^ 31 by omega), hbC (hM c hc) (show d < 64 by omega), bd1_s, if_pos (inb_nI (by omega) (by omega)), nI_clamp (show d < 2 ^ 31 by omega), hbC (hM d hd) (show c < 64 by omega), bd1_s, if_pos (inb_nI (by omega) (by omega)), g6, nI_1 d]
    have no : ¬ (M c d = true ∧ M d c = true) → ∃ I', f_X0_nameRing_L2 n 248 (nI c) (nI (d + 1)) I L R = some I' ∧ (∀ x, x < N → I' 251 x = nmR M N c (nI k) rg x) ∧ ∀ a, a ≠ 251 → I' a = I a := by
      intro hno
      refine ih n (d + 1) I (by omega) (by omega) (by omega) (by omega) g5 g6 (fun x hx => ?_)
      rw [g7 x hx]
      by_cases hx1 : x < d
      · rw [if_pos hx1, if_pos (by omega)]
      · rw [if_neg hx1]
        by_cases hx2 : x = d
        · subst hx2
          rw [if_pos (by omega)]
          unfold nmR
          rw [if_neg (fun w => hno w.2.2)]
        · rw [if_neg (by omega)]
    cases h1 : M c d with
    | true =>
      rw [if_pos rfl, if_neg n10]
      cases h2 : M d c with
      | true =>
        rw [if_pos rfl, if_neg n10]
        obtain ⟨I', e1, e2, e3⟩ := ih n (d + 1) (u2 I 251 d (nI k)) (by omega) (by omega) (by omega) (by omega) (by rw [u2_n _ _ _ (by decide)]; exact g5) (by rw [u2_n _ _ _ (by decide)]; exact g6) (fun x hx => by
          by_cases hx2 : x = d
          · subst hx2
            rw [u2_e, if_pos (by omega)]
            unfold nmR
            rw [if_pos ⟨g3, hd, h1, h2⟩]
          · rw [u2_o _ _ _ hx2, g7 x hx]
            by_cases hx1 : x < d
            · rw [if_pos hx1, if_pos (by omega)]
            · rw [if_neg hx1, if_neg (by omega)])
        exact ⟨I', e1, e2, fun a ha => by rw [e3 a ha, u2_n _ _ _ ha]⟩
      | false =>
        rw [if_neg (show ¬ false = true by decide), if_pos rfl]
        exact no (fun w => by rw [h2] at w; exact absurd w.2 (by decide))
    | false =>
      rw [if_neg (show ¬ false = true by decide), if_pos rfl]
      exact no (fun w => by rw [h1] at w; exact absurd w.1 (by decide))
def FrG (I' I : mI) : Prop := (∀ a, a ≠ 248 → a ≠ 251 → I' a = I a) ∧ ∀ k, k ≠ 9 → I' 248 k = I 248 k
theorem FrG.trans {I I' I'' : mI} (h : FrG I'' I') (h' : FrG I' I) : FrG I'' I := ⟨fun a x y => (h.1 a x y).trans (h'.1 a x y), fun k x => (h.2 k x).trans (h'.2 k x)⟩
theorem frC30_L {R : mR} {N : Nat} (hR : RO R) (hN : N ≤ 60) {L : mL} {M : Mx} (hM : MxC L 253 N M) :
    ∀ (q n c : Nat) (I : mI), N - c = q → q < n → c ≤ N → I 248 8 = nI N → I 248 9 = nI (rgF M N c).2 → (∀ x, x < N → I 251 x = (rgF M N c).1 x) → ∃ I', f_X0_findRings_L30 n 248 (nI c) I L R = some I' ∧ I' 248 9 = nI (rgF M N N).2 ∧ (∀ x, x < N → I' 251 x = (rgF M N N).1 x) ∧ FrG I' I := by
  obtain ⟨b0, b1, b2, b3, b4, b5, b6⟩ := hR.bk
  intro q
  induction q with
  | zero =>
    intro n c I g1 g2 g3 g4 g5 g6
    obtain ⟨n, rfl⟩ : ∃ x, n = x + 1 := ⟨n - 1, by omega⟩
    rw [show c = N by omega] at g5 g6
    refine ⟨I, ?_, g5, g6, fun _ _ _ => rfl, fun _ _ => rfl⟩
    rw [f_X0_findRings_L30, g4, if_pos (nI_le (by omega) (by omega))]
  | succ q ih =>
    intro n c I g1 g2 g3 g4 g5 g6
    obtain ⟨n, rfl⟩ : ∃ x, n = x + 1 := ⟨n - 1, by omega⟩
    have hc : c < N := by omega
    rw [f_X0_findRings_L30]
    simp only [bnd]
    rw [g4, if_neg (nI_ge (by omega) (by omega)), b2, b4, lc251, lc253, if_pos (inb_nI (by omega) (by omega)), nI_clamp (show c < 2 ^ 31 by omega), g6 c hc, if_pos (inb_nI (by omega) (by omega)), hbC (hM c hc) (show c < 64 by omega), bd1_s, nI_1 c]
    have hnext : rgF M N (c + 1) = if (rgF M N c).1 c = -1 ∧ M c c = true then (nmR M N c (nI (rgF M N c).2) (rgF M N c).1, (rgF M N c).2 + 1) else rgF M N c := rfl
    have no : ¬ ((rgF M N c).1 c = -1 ∧ M c c = true) → ∃ I', f_X0_findRings_L30 n 248 (nI (c + 1)) I L R = some I' ∧ I' 248 9 = nI (rgF M N N).2 ∧ (∀ x, x < N → I' 251 x = (rgF M N N).1 x) ∧ FrG I' I := by
      intro hno
      rw [if_neg hno] at hnext
      exact ih n (c + 1) I (by omega) (by omega) (by omega) g4 (by rw [hnext]; exact g5) (by rw [hnext]; exact g6)
    by_cases h1 : (rgF M N c).1 c = -1
    · rw [if_pos h1]
      cases h2 : M c c with
      | true =>
        rw [if_pos rfl, if_neg n10]
        rw [if_pos ⟨h1, h2⟩] at hnext
        obtain ⟨I1, e1, e2, e3⟩ := nrC_L hR hN hM hc (k := (rgF M N c).2) (rgF M N c).1 (N - c) FU c I rfl (by rw [FU_eq]; omega) (Nat.le_refl _) (by omega) g4 g5 (fun x hx => by
          rw [g6 x hx]
          by_cases hx1 : x < c
          · rw [if_pos hx1]
            unfold nmR
            rw [if_neg (fun w => by omega)]
          · rw [if_neg hx1])
        have hnr : f_X0_nameRing 248 (nI c) I L R = some (u2 I1 248 9 (nI ((rgF M N c).2 + 1))) := by
          unfold f_X0_nameRing
          simp only [bnd]
          rw [e1, bd1_s, e3 248 (by decide), g5, nI_1]
        rw [hnr, bd1_s]
        have F1 : FrG (u2 I1 248 9 (nI ((rgF M N c).2 + 1))) I := ⟨fun a x y => by rw [u2_n _ _ _ x, e3 a y], fun k x => by rw [u2_o _ _ _ x, e3 248 (by decide)]⟩
        obtain ⟨I2, f1, f2, f3, f4⟩ := ih n (c + 1) (u2 I1 248 9 (nI ((rgF M N c).2 + 1))) (by omega) (by omega) (by omega) (by rw [F1.2 8 (by decide)]; exact g4) (by rw [u2_e, hnext]) (fun x hx => by rw [u2_n _ _ _ (by decide), hnext]; exact e2 x hx)
        exact ⟨I2, f1, f2, f3, f4.trans F1⟩
      | false =>
        rw [if_neg (show ¬ false = true by decide), if_pos rfl]
        exact no (fun w => by rw [h2] at w; exact absurd w.2 (by decide))
    · rw [if_neg h1]
      exact no (fun w => h1 w.1)
/-- the book, as it should be -/
def BookC (I : mI) (L : mL) (rs : List Ru) : Prop := I 248 7 = hv rs ∧ CkC I (callsS rs) ∧ (∀ r, r < rs.length → BS (L 254 r) (ofP (callsS rs) r)) ∧ MxC L 252 (nCl rs) (foS rs) ∧ (∀ c, c < nCl rs → I 251 c = (rgS rs).1 c) ∧ I 248 9 = nI (rgS rs).2
def FrBk (I' I : mI) : Prop := (∀ a, a ≠ 248 → a ≠ 249 → a ≠ 250 → a ≠ 251 → I' a = I a) ∧ ∀ k, k ≠ 7 → k ≠ 8 → k ≠ 9 → I' 248 k = I 248 k
theorem fillC_ok {R : mR} {rs : List Ru} (hR : RO R) (hr : RsOK rs) {I : mI} {L : mL} (h4 : NoC I R rs) : ∃ I' L', f_X0_fillFrom 248 1 I L R = some (I', L') ∧ BookC I' L' rs ∧ FrBk I' I ∧ ∀ a, a ≠ 252 → a ≠ 253 → a ≠ 254 → L' a = L a := by
  have h60 : nCl rs ≤ 60 := callsS_len hr
  have hr5 := hr.1
  obtain ⟨I1, e1, e2, e3, e4⟩ := fhC_ok hR hr h4
  have h41 : NoC I1 R rs := h4.cong hR hr5 (fun a ha => e3 a (by omega))
  obtain ⟨I2, L2, f1, f2, f3, f4, f5⟩ := coC_ok (L := L) hR hr h41 e2
  have h42 : NoC I2 R rs := h41.frK hR hr5 f4
  have h7 : I2 248 7 = hv rs := by rw [f4.2 7 (by decide)]; exact e2
  obtain ⟨L3, g1, g2, g3, g4⟩ := ffC_L hR hr h42 h7 f2 (nCl rs) FU 0 L2 (by omega) (by rw [FU_eq]; omega) (by omega) f3 (fun x hx => by omega) (fun x hx => by omega)
  obtain ⟨L4, k1, k2, k3⟩ := roC_L hR h60 f2.1 (foS rs) (nCl rs) FU 0 L3 (by omega) (by rw [FU_eq]; omega) (by omega) g3
  have F3 : FrG (u2 I2 248 9 0) I2 := ⟨fun a x _ => by rw [u2_n _ _ _ x], fun k x => by rw [u2_o _ _ _ x]⟩
  obtain ⟨I3, m1, m2, m3⟩ := fr7_L hR h60 (L := L4) (nCl rs) FU 0 (u2 I2 248 9 0) (by omega) (by rw [FU_eq]; omega) (by omega) (by rw [F3.2 8 (by decide)]; exact f2.1) (fun d hd => by omega)
  have F4 : FrG I3 I2 := FrG.trans ⟨fun a _ y => m3 a y, fun k _ => by rw [m3 248 (by decide)]⟩ F3
  obtain ⟨I4, o1, o2, o3, o4⟩ := frC30_L hR h60 (M := reS rs) k2 (nCl rs) FU 0 I3 (by omega) (by rw [FU_eq]; omega) (by omega) (by rw [F4.2 8 (by decide)]; exact f2.1) (by rw [m3 248 (by decide), u2_e]; rfl) (fun x hx => m2 x hx)
  have F5 : FrG I4 I2 := o4.trans F4
  refine ⟨I4, L4, ?_, ⟨by rw [F5.2 7 (by decide)]; exact h7, ⟨by rw [F5.2 8 (by decide)]; exact f2.1, fun i hi => by rw [F5.1 249 (by decide) (by decide), F5.1 250 (by decide) (by decide)]; exact f2.2 i hi⟩, fun r hr2 => by rw [k3 254 (by decide), g4 254 (by decide) (by decide)]; exact f3 r hr2, fun c hc => by rw [k3 252 (by decide)]; exact g2 c hc, o3, o2⟩, ⟨fun a x y z w => by rw [F5.1 a x w, f4.1 a x y z, e3 a x], fun k x y z => by rw [F5.2 k z, f4.2 k y, e4 k x]⟩, fun a x y z => by rw [k3 a y, g4 a x y, f5 a z]⟩
  unfold f_X0_fillFrom f_X0_reachOn f_X0_findRings
  simp only [bnd]
  rw [nI0] at g1 k1 m1 o1
  rw [e1, bd1_s, f1, bd2_s, g1, bd1_s, k1, bd1_s, bd1_s, m1, bd1_s, o1]
  rfl
