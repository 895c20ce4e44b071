/-! ===== the model's turns ===== -/
theorem u2_e {α : Type} (I : Nat → Nat → α) (a k : Nat) (v : α) : u2 I a k v a k = v := by rw [u2_s, va_up_s]
theorem u2_o {α : Type} (I : Nat → Nat → α) (a : Nat) {k j : Nat} (v : α) (h : j ≠ k) : u2 I a k v a j = I a j := by rw [u2_s, va_up_n _ _ h]
theorem i0 : (0 : Int32).toNatClampNeg = 0 := rfl
theorem nI0 : nI 0 = 0 := rfl
theorem bv_lt {r : Nat} (h : r < 2 ^ 31) : ¬ nI r = -1 := bv_ne h
/-- what the model's seeking leaves alone -/
def FrM (I' I : mI) : Prop := (∀ a, a ≠ 0 → a ≠ 19 → a ≠ 20 → I' a = I a) ∧ ∀ k, k ≠ 28 → k ≠ 29 → I' 0 k = I 0 k
theorem FrM.rfl' (I : mI) : FrM I I := ⟨fun _ _ _ _ => rfl, fun _ _ _ => rfl⟩
theorem FrM.trans {I I' I'' : mI} (h : FrM I'' I') (h' : FrM I' I) : FrM I'' I := ⟨fun a x y z => (h.1 a x y z).trans (h'.1 a x y z), fun k x y => (h.2 k x y).trans (h'.2 k x y)⟩
theorem FrM.set {I I' : mI} (h : FrM I' I) {k : Nat} (hk : k = 28 ∨ k = 29) (v : Int32) : FrM (u2 I' 0 k v) I := ⟨fun a x y z => by rw [u2_n _ _ _ x]; exact h.1 a x y z, fun j x y => by rw [u2_o _ _ _ (by omega)]; exact h.2 j x y⟩
theorem FrM.of {I I' : mI} (h : ∀ a, a ≠ 19 → a ≠ 20 → I' a = I a) : FrM I' I := ⟨fun a _ y z => h a y z, fun k _ _ => by rw [h 0 (by decide) (by decide)]⟩
theorem TuM.fr {I I' : mI} {l : List Int32} (h : TuM I l) (hf : FrM I' I) : TuM I' l := h.cong (hf.2 24 (by decide) (by decide)) (hf.1 17 (by decide) (by decide) (by decide))
theorem ruleAtM_L {l : List Int32} {rs : List Ru} (hl : Tm l) (h60 : l.length ≤ 60) (hr : RsOK rs) {i : Nat} (hi : i < l.length) :
    ∀ (q n r : Nat) (I : mI), rs.length - r = q → q < n → r ≤ rs.length → RsM (I 1) rs → TuM I l →
      ∃ I', f_X11_ruleAt_L2 n 0 (nI i) (nI r) I R1M = some (match ruleAtF l i (rs.drop r) r with | none => Sum.inr I' | some x => Sum.inl (nI x, I')) ∧ ∀ a, a ≠ 19 → a ≠ 20 → I' a = I a := by
  have hr5 := hr.1
  intro q
  induction q with
  | zero =>
    intro n r I h1 h2 h3 h4 h5
    obtain ⟨n, rfl⟩ : ∃ q, n = q + 1 := ⟨n - 1, by omega⟩
    refine ⟨I, ?_, fun _ _ _ => rfl⟩
    rw [f_X11_ruleAt_L2, mr0, lm1, if_pos (show inb 0 192 = true from rfl), i0, h4.1, if_pos (nI_le (by omega) (by omega)), List.drop_of_length_le (by omega)]
    rfl
  | succ q ih =>
    intro n r I h1 h2 h3 h4 h5
    obtain ⟨n, rfl⟩ : ∃ q, n = q + 1 := ⟨n - 1, by omega⟩
    have hk : r < rs.length := by omega
    have hu := hr.get hk
    rw [f_X11_ruleAt_L2, mr0, lm1, if_pos (show inb 0 192 = true from rfl), i0, h4.1, if_neg (nI_ge (by omega) (by omega))]
    obtain ⟨I1, e1, e2⟩ := fitsM_ok hl h60 (by omega) (h4.2 r hk) hu.2.2.1 hu.1 h5 hi
    have hd : rs.drop r = rs.getD r dRu :: rs.drop (r + 1) := by
      rw [List.drop_eq_getElem_cons hk, List.getD_eq_getElem?_getD, List.getElem?_eq_getElem hk]
      rfl
    rw [hd]
    rcases e1 with ⟨g1, g2⟩ | ⟨bx, bz, g1, g2, g3, g4⟩
    · obtain ⟨I2, f1, f2⟩ := ih n (r + 1) I1 (by omega) (by omega) (by omega) (by rw [e2 1 (by decide) (by decide)]; exact h4) (h5.fr (FrM.of e2))
      refine ⟨I2, ?_, fun a x y => by rw [f2 a x y, e2 a x y]⟩
      rw [g2, bd2_s, if_pos rfl, nI_1 r, f1]
      conv => rhs; unfold ruleAtF
      rw [g1, if_neg (show ¬ (none : Option (Option Nat × Option Nat)).isSome = true by simp)]
    · refine ⟨I1, ?_, e2⟩
      rw [g2, bd2_s, if_neg n10]
      unfold ruleAtF
      rw [g1, if_pos (show (some (bx, bz) : Option (Option Nat × Option Nat)).isSome = true by rfl)]
theorem ruleAtM_ok {l : List Int32} {rs : List Ru} (hl : Tm l) (h60 : l.length ≤ 60) (hr : RsOK rs) {i : Nat} (hi : i < l.length) {I : mI} (h4 : RsM (I 1) rs) (h5 : TuM I l) :
    ∃ I', f_X11_ruleAt 0 (nI i) I R1M = some (bv (ruleAtS rs l i), I') ∧ ∀ a, a ≠ 19 → a ≠ 20 → I' a = I a := by
  have hr5 := hr.1
  obtain ⟨I', e1, e2⟩ := ruleAtM_L hl h60 hr hi rs.length FU 0 I (by omega) (by rw [FU_eq]; omega) (by omega) h4 h5
  refine ⟨I', ?_, e2⟩
  unfold f_X11_ruleAt ruleAtS
  rw [List.drop_zero, nI0] at e1
  rw [e1]
  cases ruleAtF l i rs 0 with
  | none => rfl
  | some x => rfl
def quS (rs : List Ru) (l : List Int32) (k m : Nat) : Bool := (List.range m).all (fun d => (ruleAtS rs l (k + d)).isNone)
theorem quS_iff {rs : List Ru} {l : List Int32} {k m : Nat} : quS rs l k m = true ↔ ∀ j, k ≤ j → j < k + m → ruleAtS rs l j = none := by
  unfold quS
  rw [List.all_eq_true]
  constructor
  · intro h j h1 h2
    have := h (j - k) (List.mem_range.mpr (by omega))
    rw [show k + (j - k) = j by omega] at this
    simpa using this
  · intro h d hd
    rw [List.mem_range] at hd
    rw [h (k + d) (by omega) (by omega)]
    rfl
theorem ft45_L {l : List Int32} {rs : List Ru} (hl : Tm l) (h60 : l.length ≤ 60) (hr : RsOK rs) (x1 : Int32) {e : Nat} (he : e ≤ l.length) :
    ∀ (q n k : Nat) (z : Int32) (I : mI), e - k = q → q < n → k ≤ e → (z = 0 ∨ z = 1) → RsM (I 1) rs → TuM I l →
      ∃ I', f_X11_findsTurn_L45 n 0 x1 z (nI e) (nI k) I R1M = some (if z = 0 ∧ quS rs l k (e - k) = true then 0 else 1, I') ∧ ∀ a, a ≠ 19 → a ≠ 20 → I' a = I a := by
  intro q
  induction q with
  | zero =>
    intro n k z I h1 h2 h3 hz h4 h5
    obtain ⟨n, rfl⟩ : ∃ q, n = q + 1 := ⟨n - 1, by omega⟩
    refine ⟨I, ?_, fun _ _ _ => rfl⟩
    rw [f_X11_findsTurn_L45, if_pos (nI_le (by omega) (by omega))]
    rcases hz with rfl | rfl
    · rw [if_pos ⟨rfl, quS_iff.mpr (fun j h6 h7 => by omega)⟩]
    · rw [if_neg (fun q => n10 q.1)]
  | succ q ih =>
    intro n k z I h1 h2 h3 hz h4 h5
    obtain ⟨n, rfl⟩ : ∃ q, n = q + 1 := ⟨n - 1, by omega⟩
    rw [f_X11_findsTurn_L45]
    simp only [bnd]
    rw [if_neg (nI_ge (by omega) (by omega)), nI_1 k]
    rcases hz with rfl | rfl
    · rw [if_pos rfl]
      obtain ⟨I1, e1, e2⟩ := ruleAtM_ok hl h60 hr (i := k) (by omega) h4 h5
      rw [e1, bd2_s]
      cases hra : ruleAtS rs l k with
      | none =>
        rw [if_pos (show bv none = -1 from rfl)]
        obtain ⟨I2, f1, f2⟩ := ih n (k + 1) 0 I1 (by omega) (by omega) (by omega) (Or.inl rfl) (by rw [e2 1 (by decide) (by decide)]; exact h4) (h5.fr (FrM.of e2))
        refine ⟨I2, ?_, fun a x y => by rw [f2 a x y, e2 a x y]⟩
        rw [f1]
        by_cases hh : quS rs l (k + 1) (e - (k + 1)) = true
        · rw [if_pos ⟨rfl, hh⟩, if_pos ⟨rfl, quS_iff.mpr (fun j h6 h7 => by
            by_cases hj : j = k
            · rw [hj]; exact hra
            · exact quS_iff.mp hh j (by omega) (by omega))⟩]
        · rw [if_neg (fun q => hh q.2), if_neg (fun q => hh (quS_iff.mpr (fun j h6 h7 => quS_iff.mp q.2 j (by omega) (by omega))))]
      | some x =>
        have hx := (ruleAtS_lt hra).1
        have := hr.1
        rw [if_neg (show ¬ bv (some x) = -1 from bv_ne (by omega))]
        obtain ⟨I2, f1, f2⟩ := ih n (k + 1) 1 I1 (by omega) (by omega) (by omega) (Or.inr rfl) (by rw [e2 1 (by decide) (by decide)]; exact h4) (h5.fr (FrM.of e2))
        refine ⟨I2, ?_, fun a x y => by rw [f2 a x y, e2 a x y]⟩
        rw [f1, if_neg (fun q => n10 q.1), if_neg (fun q => by
          have := quS_iff.mp q.2 k (by omega) (by omega)
          rw [hra] at this
          cases this)]
    · rw [if_neg n10]
      obtain ⟨I2, f1, f2⟩ := ih n (k + 1) 1 I (by omega) (by omega) (by omega) (Or.inr rfl) h4 h5
      refine ⟨I2, ?_, f2⟩
      rw [f1, if_neg (fun q => n10 q.1), if_neg (fun q => n10 q.1)]
theorem ft2_L {l : List Int32} {rs : List Ru} (hl : Tm l) (h60 : l.length ≤ 60) (hr : RsOK rs) :
    ∀ (q n k : Nat) (I : mI), l.length - k = q → q < n → k ≤ l.length → RsM (I 1) rs → TuM I l →
      ∃ I', FrM I' I ∧ ((turnF rs l q k = none ∧ f_X11_findsTurn_L2 n 0 (nI k) I R1M = some (Sum.inr I')) ∨ ∃ r a, turnF rs l q k = some (r, a) ∧ f_X11_findsTurn_L2 n 0 (nI k) I R1M = some (Sum.inl (1, I')) ∧ I' 0 28 = nI r ∧ I' 0 29 = nI a) := by
  have hr5 := hr.1
  intro q
  induction q with
  | zero =>
    intro n k I h1 h2 h3 h4 h5
    obtain ⟨n, rfl⟩ : ∃ q, n = q + 1 := ⟨n - 1, by omega⟩
    refine ⟨I, FrM.rfl' I, Or.inl ⟨rfl, ?_⟩⟩
    rw [f_X11_findsTurn_L2, h5.1, if_pos (nI_le (by omega) (by omega))]
  | succ q ih =>
    intro n k I h1 h2 h3 h4 h5
    obtain ⟨n, rfl⟩ : ∃ q, n = q + 1 := ⟨n - 1, by omega⟩
    have hk : k < l.length := by omega
    rw [f_X11_findsTurn_L2]
    simp only [bnd]
    obtain ⟨I1, e1, e2⟩ := ruleAtM_ok hl h60 hr hk h4 h5
    rw [h5.1, if_neg (nI_ge (by omega) (by omega)), e1, bd2_s, u2_e, nI_1 k, mr23]
    have F1 : FrM (u2 I1 0 28 (bv (ruleAtS rs l k))) I := (FrM.of e2).set (Or.inl rfl) _
    have h4' : RsM (u2 I1 0 28 (bv (ruleAtS rs l k)) 1) rs := by rw [F1.1 1 (by decide) (by decide) (by decide)]; exact h4
    have h5' : TuM (u2 I1 0 28 (bv (ruleAtS rs l k))) l := h5.fr F1
    unfold turnF
    cases hra : ruleAtS rs l k with
    | none =>
      rw [hra] at F1 h4' h5'
      rw [if_pos (show bv none = -1 from rfl)]
      obtain ⟨I2, f1, f2⟩ := ih n (k + 1) _ (by omega) (by omega) (by omega) h4' h5'
      exact ⟨I2, f1.trans F1, f2⟩
    | some x =>
      rw [hra] at F1 h4' h5'
      have hx := (ruleAtS_lt hra).1
      rw [if_neg (show ¬ bv (some x) = -1 from bv_ne (by omega)), longT h5' hl h60 hk, bd1_s, nI_add]
      have g1 := ep_gt hk
      have g2 := ep_le (l := l) (k := k) (by omega)
      rw [show k + (ep l k - k) = ep l k by omega]
      obtain ⟨I2, f1, f2⟩ := ft45_L hl h60 hr (nI k) (e := ep l k) g2 (ep l k - (k + 1)) FU (k + 1) 0 _ rfl (by rw [FU_eq]; omega) (by omega) (Or.inl rfl) h4' h5'
      rw [f1, bd2_s]
      have F2 : FrM I2 I := (FrM.of f2).trans F1
      by_cases hin : innerS rs l k = true
      · rw [if_pos (show (0 : Int32) = 0 ∧ quS rs l (k + 1) (ep l k - (k + 1)) = true from ⟨rfl, hin⟩), if_pos rfl]
        refine ⟨_, F2.set (Or.inr rfl) (nI k), Or.inr ⟨x, k, by simp only [hin, if_pos], rfl, ?_, by rw [u2_e]⟩⟩
        rw [u2_o _ _ _ (by decide), f2 0 (by decide) (by decide), u2_e]
        rfl
      · rw [if_neg (show ¬ ((0 : Int32) = 0 ∧ quS rs l (k + 1) (ep l k - (k + 1)) = true) from fun w => hin w.2), if_neg n10]
        obtain ⟨I3, k1, k2⟩ := ih n (k + 1) I2 (by omega) (by omega) (by omega) (by rw [F2.1 1 (by decide) (by decide) (by decide)]; exact h4) (h5.fr F2)
        refine ⟨I3, k1.trans F2, ?_⟩
        simp only [hin]
        exact k2
theorem findsTurn_ok {l : List Int32} {rs : List Ru} (hl : Tm l) (h60 : l.length ≤ 60) (hr : RsOK rs) {I : mI} (h4 : RsM (I 1) rs) (h5 : TuM I l) :
    ∃ I', FrM I' I ∧ ((turnS rs l = none ∧ f_X11_findsTurn 0 I R1M = some (0, I')) ∨ ∃ r a, turnS rs l = some (r, a) ∧ f_X11_findsTurn 0 I R1M = some (1, I') ∧ I' 0 28 = nI r ∧ I' 0 29 = nI a) := by
  obtain ⟨I', e1, e2⟩ := ft2_L hl h60 hr l.length FU 0 I (by omega) (by rw [FU_eq]; omega) (by omega) h4 h5
  unfold f_X11_findsTurn turnS
  rcases e2 with ⟨g1, g2⟩ | ⟨r, a, g1, g2, g3⟩
  · refine ⟨u2 I' 0 28 (-1), e1.set (Or.inl rfl) _, Or.inl ⟨g1, ?_⟩⟩
    rw [nI0] at g2
    rw [g2]
    rfl
  · refine ⟨I', e1, Or.inr ⟨r, a, g1, ?_, g3⟩⟩
    rw [nI0] at g2
    rw [g2]
    rfl
/-- what is made so far -/
def MdM (I : mI) (w : List Int32) : Prop := I 0 30 = nI w.length ∧ ∀ k, k < w.length → k < 200 → I 18 k = w.getD k 0
def FrN (I' I : mI) : Prop := (∀ a, a ≠ 0 → a ≠ 18 → I' a = I a) ∧ ∀ k, k ≠ 30 → I' 0 k = I 0 k
theorem FrN.rfl' (I : mI) : FrN I I := ⟨fun _ _ _ => rfl, fun _ _ => rfl⟩
theorem FrN.trans {I I' I'' : mI} (h : FrN I'' I') (h' : FrN I' I) : FrN I'' I := ⟨fun a x y => (h.1 a x y).trans (h'.1 a x y), fun k x => (h.2 k x).trans (h'.2 k x)⟩
theorem TuM.frN {I I' : mI} {l : List Int32} (h : TuM I l) (hf : FrN I' I) : TuM I' l := h.cong (hf.2 24 (by decide)) (hf.1 17 (by decide) (by decide))
/-- one letter more -/
def mk1 (I : mI) (n : Nat) (c : Int32) : mI := u2 (if n < 200 then u2 I 18 n c else I) 0 30 (nI (n + 1))
theorem mk1_ok {I : mI} {w : List Int32} (h : MdM I w) (c : Int32) : MdM (mk1 I w.length c) (w ++ [c]) ∧ FrN (mk1 I w.length c) I := by
  unfold mk1
  refine ⟨⟨?_, fun k h1 h2 => ?_⟩, fun a x y => ?_, fun k x => ?_⟩
  · rw [u2_e, List.length_append]
    rfl
  · rw [u2_n _ _ _ (by decide)]
    rw [List.length_append, List.length_singleton] at h1
    by_cases hk : k = w.length
    · subst hk
      rw [if_pos h2, u2_e, show w.length = w.length + 0 by rfl, getD_app_r]
      rfl
    · rw [getD_app_l (by omega), ← h.2 k (by omega) h2]
      by_cases hw : w.length < 200
      · rw [if_pos hw, u2_o _ _ _ hk]
      · rw [if_neg hw]
  · rw [u2_n _ _ _ x]
    by_cases hw : w.length < 200
    · rw [if_pos hw, u2_n _ _ _ y]
    · rw [if_neg hw]
  · rw [u2_o _ _ _ x]
    by_cases hw : w.length < 200
    · rw [if_pos hw, u2_n _ _ _ (by decide)]
    · rw [if_neg hw]
theorem makesM_L {l : List Int32} (h60 : l.length ≤ 60) {s m : Nat} (hs : s + m ≤ l.length) :
    ∀ (q n k : Nat) (I : mI) (w : List Int32), m - k = q → q < n → k ≤ m → TuM I l → MdM I w → w.length + (m - k) ≤ 5000 →
      ∃ I', f_X11_makes_L2 n 0 (nI s) (nI m) (nI k) I R1M = some I' ∧ MdM I' (w ++ (l.drop (s + k)).take (m - k)) ∧ FrN I' I := by
  intro q
  induction q with
  | zero =>
    intro n k I w h1 h2 h3 h4 h5 h6
    obtain ⟨n, rfl⟩ : ∃ q, n = q + 1 := ⟨n - 1, by omega⟩
    refine ⟨I, ?_, ?_, FrN.rfl' I⟩
    · rw [f_X11_makes_L2, if_pos (nI_le (by omega) (by omega))]
    · rw [h1, List.take_zero, List.append_nil]
      exact h5
  | succ q ih =>
    intro n k I w h1 h2 h3 h4 h5 h6
    obtain ⟨n, rfl⟩ : ∃ q, n = q + 1 := ⟨n - 1, by omega⟩
    obtain ⟨m1, m2⟩ := mk1_ok h5 (l.getD (s + k) 0)
    have step : f_X11_makes_L2 (n + 1) 0 (nI s) (nI m) (nI k) I R1M = f_X11_makes_L2 n 0 (nI s) (nI m) (nI (k + 1)) (mk1 I w.length (l.getD (s + k) 0)) R1M := by
      rw [f_X11_makes_L2]
      simp only [bnd]
      rw [if_neg (nI_ge (by omega) (by omega)), nI_1 k, mr23, mr25, lm17, lm18, h5.1, nI_add]
      unfold mk1
      by_cases hw : w.length < 200
      · rw [show (200 : Int32) = nI 200 from rfl, if_neg (nI_ge hw (by omega)), if_pos (inb_nI (by omega) (by omega)), if_pos (inb_nI hw (by omega)), nI_clamp (show w.length < 2 ^ 31 by omega), nI_clamp (show s + k < 2 ^ 31 by omega), u2_n _ _ _ (by decide), h5.1, nI_1 w.length, h4.2 _ (by omega), if_pos hw]
      · rw [show (200 : Int32) = nI 200 from rfl, if_pos (nI_le (by omega) (by omega)), nI_1 w.length, if_neg hw]
    obtain ⟨I2, f1, f2, f3⟩ := ih n (k + 1) _ _ (by omega) (by omega) (by omega) (h4.frN m2) m1 (by rw [List.length_append, List.length_singleton]; omega)
    refine ⟨I2, step.trans f1, ?_, f3.trans m2⟩
    rw [List.append_assoc, show s + (k + 1) = s + k + 1 by omega] at f2
    rw [drop_c (l := l) (k := s + k) (by omega), show m - k = (m - (k + 1)) + 1 by omega, List.take_succ_cons]
    exact f2
theorem makesM_ok {l : List Int32} (h60 : l.length ≤ 60) {s m : Nat} (hs : s + m ≤ l.length) {I : mI} {w : List Int32} (h4 : TuM I l) (h5 : MdM I w) (h6 : w.length + m ≤ 5000) :
    ∃ I', f_X11_makes 0 (nI s) (nI m) I R1M = some I' ∧ MdM I' (w ++ (l.drop s).take m) ∧ FrN I' I := by
  obtain ⟨I', e1, e2, e3⟩ := makesM_L h60 hs m FU 0 I w (by omega) (by rw [FU_eq]; omega) (by omega) h4 h5 (by omega)
  refine ⟨I', ?_, e2, e3⟩
  unfold f_X11_makes
  rw [nI0] at e1
  rw [e1]
  rfl
theorem makesM_0 {x1 : Int32} {I : mI} : f_X11_makes 0 x1 0 I R1M = some I := by
  unfold f_X11_makes
  rw [FU_eq, f_X11_makes_L2, if_pos (by decide)]
  rfl
theorem BM.frN {I I' : mI} {l : List Int32} {u : Nat} {o : Option Nat} (h : BM I l u o) (hf : FrN I' I) : BM I' l u o := h.cong (by rw [hf.1 19 (by decide) (by decide)]) (by rw [hf.1 20 (by decide) (by decide)])
theorem makesO {l : List Int32} (hl : Tm l) (h60 : l.length ≤ 60) {I : mI} {w : List Int32} {u : Nat} {o : Option Nat} (h4 : TuM I l) (h5 : MdM I w) (h6 : w.length + (optP l o).length ≤ 5000) (h7 : BM I l u o) :
    ∃ I', f_X11_makes 0 (I 19 u) (I 20 u) I R1M = some I' ∧ MdM I' (w ++ optP l o) ∧ FrN I' I := by
  cases o with
  | none =>
    have h8 : I 20 u = 0 := h7
    refine ⟨I, ?_, ?_, FrN.rfl' I⟩
    · rw [h8, makesM_0]
    · rw [show optP l none = [] from rfl, List.append_nil]
      exact h5
  | some b =>
    obtain ⟨b1, b2, b3⟩ := h7
    have g1 := ep_gt b1
    have g2 := ep_le (l := l) (k := b) (by omega)
    rw [b2, b3]
    have h6' : w.length + (pt l b).length ≤ 5000 := h6
    rw [pt_len b1] at h6'
    exact makesM_ok h60 (by omega) h4 h5 h6'
theorem dt29_L {l : List Int32} {r : Nat} {u : Ru} {ρ : Nat → Int32} (hl : Tm l) (h60 : l.length ≤ 60) (hr : r < 5) (hu : RuM ρ r u) (hp12 : u.2.length ≤ 12) {bx bz : Option Nat} :
    ∀ (q n k : Nat) (I : mI) (w : List Int32), u.2.length - k = q → q < n → k ≤ u.2.length → I 1 = ρ → I 0 28 = nI r → TuM I l → BM I l 0 bx → BM I l 1 bz → MdM I w → w.length + (expS l bx bz (u.2.drop k)).length ≤ 5000 →
      ∃ I', f_X11_doesTurn_L29 n 0 (nI k) I R1M = some I' ∧ MdM I' (w ++ expS l bx bz (u.2.drop k)) ∧ FrN I' I := by
  intro q
  induction q with
  | zero =>
    intro n k I w h1 h2 h3 h4 h5 h6 h7 h8 h9 ha
    obtain ⟨n, rfl⟩ : ∃ q, n = q + 1 := ⟨n - 1, by omega⟩
    refine ⟨I, ?_, ?_, FrN.rfl' I⟩
    · rw [f_X11_doesTurn_L29, mr0, h5, rightLong_ok lm1 hr, bd1_s, h4, hu.2.1, if_pos (nI_le (by omega) (by omega))]
    · rw [List.drop_of_length_le (by omega), show expS l bx bz [] = [] from rfl, List.append_nil]
      exact h9
  | succ q ih =>
    intro n k I w h1 h2 h3 h4 h5 h6 h7 h8 h9 ha
    obtain ⟨n, rfl⟩ : ∃ q, n = q + 1 := ⟨n - 1, by omega⟩
    have hk : k < u.2.length := by omega
    rw [f_X11_doesTurn_L29]
    simp only [bnd]
    rw [mr0, h5, rightLong_ok lm1 hr, bd1_s, h4, hu.2.1, if_neg (nI_ge (by omega) (by omega)), rightOf_ok, bd1_s, nI_add, lm1, if_pos (inb_nI (by omega) (by omega)), nI_clamp (show 15 + 26 * r + k < 2 ^ 31 by omega), hu.2.2.2 k hk, iUM, bd1_s, nI_1 k, mr25, mr26, mr27, lm18, lm19, lm20]
    rw [expS_c _ _ _ _ _ hk] at ha ⊢
    rw [List.length_append] at ha
    have next : ∀ (p : List Int32) (I1 : mI), MdM I1 (w ++ p) → FrN I1 I → w.length + (p.length + (expS l bx bz (u.2.drop (k + 1))).length) ≤ 5000 → ∃ I', f_X11_doesTurn_L29 n 0 (nI (k + 1)) I1 R1M = some I' ∧ MdM I' (w ++ (p ++ expS l bx bz (u.2.drop (k + 1)))) ∧ FrN I' I := by
      intro p I1 e2 e3 e4
      obtain ⟨I2, f1, f2, f3⟩ := ih n (k + 1) I1 (w ++ p) (by omega) (by omega) (by omega) (by rw [e3.1 1 (by decide) (by decide)]; exact h4) (by rw [e3.2 28 (by decide)]; exact h5) (h6.frN e3) (h7.frN e3) (h8.frN e3) e2 (by rw [List.length_append]; omega)
      rw [List.append_assoc] at f2
      exact ⟨I2, f1, f2, f3.trans e3⟩
    by_cases e1 : u.2.getD k 0 = 120
    · rw [if_pos e1] at ha ⊢
      rw [if_pos (Or.inl e1), if_neg n10, e1, show (120 : Int32) - 120 = 0 from rfl, if_pos (show inb 0 2 = true from rfl), if_pos (show inb 0 2 = true from rfl), i0]
      obtain ⟨I1, f1, f2, f3⟩ := makesO hl h60 h6 h9 (o := bx) (by omega) h7
      rw [f1, bd1_s]
      exact next _ I1 f2 f3 (by omega)
    · rw [if_neg e1] at ha ⊢
      by_cases e2 : u.2.getD k 0 = 121
      · rw [if_pos e2] at ha ⊢
        rw [if_pos (Or.inr e2), if_neg n10, e2, show (121 : Int32) - 120 = 1 from rfl, if_pos (show inb 1 2 = true from rfl), if_pos (show inb 1 2 = true from rfl), t1]
        obtain ⟨I1, f1, f2, f3⟩ := makesO hl h60 h6 h9 (o := bz) (by omega) h8
        rw [f1, bd1_s]
        exact next _ I1 f2 f3 (by omega)
      · rw [if_neg e2] at ha ⊢
        rw [if_neg (show ¬ (u.2.getD k 0 = 120 ∨ u.2.getD k 0 = 121) from fun q => q.elim e1 e2), if_pos rfl]
        rw [List.length_singleton] at ha
        obtain ⟨m1, m2⟩ := mk1_ok h9 (u.2.getD k 0)
        have nx := next [u.2.getD k 0] _ m1 m2 (by rw [List.length_singleton]; omega)
        unfold mk1 at nx
        rw [h9.1]
        by_cases hw : w.length < 200
        · rw [if_pos hw] at nx
          rw [show (200 : Int32) = nI 200 from rfl, if_neg (nI_ge hw (by omega)), if_pos (inb_nI hw (by omega)), nI_clamp (show w.length < 2 ^ 31 by omega), u2_n _ _ _ (by decide), h9.1, nI_1 w.length]
          exact nx
        · rw [if_neg hw] at nx
          rw [show (200 : Int32) = nI 200 from rfl, if_pos (nI_le (by omega) (by omega)), nI_1 w.length]
          exact nx
