/-! ===== reading: the model ===== -/
def TxM (I : mI) (T : List Int32) : Prop := I 0 6 = nI T.length ∧ ∀ k, k < T.length → I 5 k = T.getD k 0
/-- only the place has changed -/
def FrX (I' I : mI) : Prop := (∀ a, a ≠ 0 → I' a = I a) ∧ ∀ k, k ≠ 7 → I' 0 k = I 0 k
theorem FrX.rfl' (I : mI) : FrX I I := ⟨fun _ _ => rfl, fun _ _ => rfl⟩
theorem FrX.trans {I I' I'' : mI} (h : FrX I'' I') (h' : FrX I' I) : FrX I'' I := ⟨fun a x => (h.1 a x).trans (h'.1 a x), fun k x => (h.2 k x).trans (h'.2 k x)⟩
theorem FrX.set {I I' : mI} (h : FrX I' I) (v : Int32) : FrX (u2 I' 0 7 v) I := ⟨fun a x => by rw [u2_n _ _ _ x]; exact h.1 a x, fun k x => by rw [u2_o _ _ _ x]; exact h.2 k x⟩
/-- what reading changes -/
def FrY (I' I : mI) : Prop := (∀ a, a ≠ 0 → a ≠ 2 → a ≠ 6 → I' a = I a) ∧ ∀ k, k ≠ 7 → k ≠ 9 → I' 0 k = I 0 k
theorem FrY.rfl' (I : mI) : FrY I I := ⟨fun _ _ _ _ => rfl, fun _ _ _ => rfl⟩
theorem FrY.trans {I I' I'' : mI} (h : FrY I'' I') (h' : FrY I' I) : FrY I'' I := ⟨fun a x y z => (h.1 a x y z).trans (h'.1 a x y z), fun k x y => (h.2 k x y).trans (h'.2 k x y)⟩
theorem FrX.y {I I' : mI} (h : FrX I' I) : FrY I' I := ⟨fun a x _ _ => h.1 a x, fun k x _ => h.2 k x⟩
theorem TxM.fr {I I' : mI} {T : List Int32} (h : TxM I T) (hf : FrY I' I) : TxM I' T := by
  unfold TxM
  rw [hf.2 6 (by decide) (by decide), hf.1 5 (by decide) (by decide) (by decide)]
  exact h
theorem blM_L {T : List Int32} (hT : T.length ≤ 120) :
    ∀ (q n p : Nat) (I : mI), T.length - p = q → q < n → p ≤ T.length → TxM I T → I 0 7 = nI p → ∃ I', f_X11_blanks_L0 n 0 I R1M = some I' ∧ I' 0 7 = nI (sk T p) ∧ FrX I' I := by
  intro q
  induction q with
  | zero =>
    intro n p I h1 h2 h3 h4 h5
    obtain ⟨n, rfl⟩ : ∃ q, n = q + 1 := ⟨n - 1, by omega⟩
    refine ⟨I, ?_, by rw [sk_end (by omega)]; exact h5, FrX.rfl' I⟩
    rw [f_X11_blanks_L0, h4.1, h5, if_pos (nI_le (by omega) (by omega))]
  | succ q ih =>
    intro n p I h1 h2 h3 h4 h5
    obtain ⟨n, rfl⟩ : ∃ q, n = q + 1 := ⟨n - 1, by omega⟩
    rw [f_X11_blanks_L0]
    simp only [bnd]
    rw [h4.1, h5, if_neg (nI_ge (by omega) (by omega)), mr5, lm5, if_pos (inb_nI (by omega) (by omega)), nI_clamp (by omega), h4.2 p (by omega), nI_1 p]
    by_cases hb : T.getD p 0 = 32
    · rw [if_pos hb, sk_b (by omega) hb]
      have F := (FrX.rfl' I).set (nI (p + 1))
      obtain ⟨I', e1, e2, e3⟩ := ih n (p + 1) (u2 I 0 7 (nI (p + 1))) (by omega) (by omega) (by omega) (h4.fr F.y) (by rw [u2_e])
      exact ⟨I', e1, e2, e3.trans F⟩
    · rw [if_neg hb, sk_n (by omega) hb]
      exact ⟨I, rfl, h5, FrX.rfl' I⟩
theorem blM_ok {T : List Int32} (hT : T.length ≤ 120) {p : Nat} {I : mI} (h3 : p ≤ T.length) (h4 : TxM I T) (h5 : I 0 7 = nI p) : ∃ I', f_X11_blanks 0 I R1M = some I' ∧ I' 0 7 = nI (sk T p) ∧ FrX I' I := by
  obtain ⟨I', e1, e2⟩ := blM_L hT (T.length - p) FU p I rfl (by rw [FU_eq]; omega) h3 h4 h5
  refine ⟨I', ?_, e2⟩
  unfold f_X11_blanks
  rw [e1]
  rfl
/-- what is due, the next first -/
def DuM (I : mI) (ds : List Int32) : Prop := I 0 9 = nI ds.length ∧ ∀ k, k < ds.length → I 6 (ds.length - 1 - k) = ds.getD k 0
theorem DuM.push {I : mI} {ds : List Int32} (h : DuM I ds) (hl : ds.length < 300) (d : Int32) : ∃ I', f_X11_wantsMore 0 d I R1M = some I' ∧ DuM I' (d :: ds) ∧ (∀ a, a ≠ 0 → a ≠ 6 → I' a = I a) ∧ ∀ k, k ≠ 9 → I' 0 k = I 0 k := by
  refine ⟨u2 (u2 I 6 ds.length d) 0 9 (nI (ds.length + 1)), ?_, ⟨by rw [u2_e]; rfl, fun k hk => ?_⟩, fun a x y => by rw [u2_n _ _ _ x, u2_n _ _ _ y], fun k x => by rw [u2_o _ _ _ x, u2_n _ _ _ (by decide)]⟩
  · unfold f_X11_wantsMore
    simp only [bnd]
    rw [h.1, mr8, lm6, if_pos (inb_nI hl (by omega)), nI_clamp (by omega), u2_n _ _ _ (show (0 : Nat) ≠ 6 by decide), h.1, nI_1]
  · rw [u2_n _ _ _ (by decide)]
    rw [List.length_cons] at hk ⊢
    cases k with
    | zero =>
      rw [show ds.length + 1 - 1 - 0 = ds.length by omega, u2_e]
      rfl
    | succ k =>
      rw [u2_o _ _ _ (by omega), List.getD_cons_succ, show ds.length + 1 - 1 - (k + 1) = ds.length - 1 - k by omega]
      exact h.2 k (by omega)
def FrZ (I' I : mI) : Prop := (∀ a, a ≠ 0 → a ≠ 6 → I' a = I a) ∧ ∀ k, k ≠ 9 → I' 0 k = I 0 k
theorem FrZ.rfl' (I : mI) : FrZ I I := ⟨fun _ _ _ => rfl, fun _ _ => rfl⟩
theorem FrZ.trans {I I' I'' : mI} (h : FrZ I'' I') (h' : FrZ I' I) : FrZ I'' I := ⟨fun a x y => (h.1 a x y).trans (h'.1 a x y), fun k x => (h.2 k x).trans (h'.2 k x)⟩
theorem FrZ.y {I I' : mI} (h : FrZ I' I) : FrY I' I := ⟨fun a x _ y => h.1 a x y, fun k _ x => h.2 k x⟩
theorem opensM_ok {I : mI} {ds : List Int32} (h : DuM I ds) (hl : ds.length + 5 ≤ 300) (c : Int32) : ∃ I', f_X11_opens 0 c I R1M = some I' ∧ DuM I' (opS c ++ ds) ∧ FrZ I' I := by
  unfold f_X11_opens
  rw [wM, bd1_s]
  simp only [bnd]
  by_cases h1 : wn c = 0
  · rw [h1, if_pos (show nI 0 ≤ 0 by decide), wn_vl h1]
    exact ⟨I, rfl, h, FrZ.rfl' I⟩
  · have hw2 := wn_le c
    rw [if_neg (nI_nle (by omega) (by omega))]
    obtain ⟨I1, e1, e2, e3⟩ := h.push (by omega) 41
    obtain ⟨I2, f1, f2, f3⟩ := e2.push (by rw [List.length_cons]; omega) 84
    have F2 : FrZ I2 I := FrZ.trans f3 e3
    rw [e1, bd1_s, f1, bd1_s, bd1_s]
    unfold wn at h1 hw2 ⊢
    unfold opS
    by_cases h3 : c = 103
    · rw [if_pos h3, if_pos h3, if_neg (show ¬ nI 2 ≤ 1 by decide)]
      obtain ⟨I3, g1, g2, g3⟩ := f2.push (by rw [List.length_cons, List.length_cons]; omega) 44
      obtain ⟨I4, k1, k2, k3⟩ := g2.push (by rw [List.length_cons, List.length_cons, List.length_cons]; omega) 84
      obtain ⟨I5, m1, m2, m3⟩ := k2.push (by rw [List.length_cons, List.length_cons, List.length_cons, List.length_cons]; omega) 40
      rw [g1, bd1_s, k1, bd1_s, m1]
      exact ⟨I5, rfl, m2, FrZ.trans m3 (FrZ.trans k3 (FrZ.trans g3 F2))⟩
    · rw [if_neg h3] at h1
      rw [if_neg h3, if_neg h3]
      by_cases h4 : c = 102
      · rw [if_pos h4, if_pos h4, if_pos (show nI 1 ≤ 1 by decide)]
        obtain ⟨I5, m1, m2, m3⟩ := f2.push (by rw [List.length_cons, List.length_cons]; omega) 40
        rw [m1]
        exact ⟨I5, rfl, m2, FrZ.trans m3 F2⟩
      · rw [if_neg h4] at h1
        exact absurd rfl h1
theorem in2 {c : Int32} {k : Nat} (hk : k < 1000) : (f_X11_in c (nI k) (nI (k + 1)) = some 1 ∧ (c = nI k ∨ c = nI (k + 1))) ∨ (f_X11_in c (nI k) (nI (k + 1)) = some 0 ∧ ¬ (c = nI k ∨ c = nI (k + 1))) := by
  rw [inM]
  by_cases h1 : c < nI k ∨ nI (k + 1) < c
  · right
    rw [if_pos h1]
    refine ⟨rfl, fun q => ?_⟩
    rcases q with rfl | rfl
    · rcases h1 with h | h
      · exact absurd h (by rw [Int32.lt_iff_toInt_lt]; omega)
      · exact nI_nlt (a := k + 1) (b := k) (by omega) (by omega) h
    · rcases h1 with h | h
      · exact nI_nlt (a := k + 1) (b := k) (by omega) (by omega) h
      · exact absurd h (by rw [Int32.lt_iff_toInt_lt]; omega)
  · left
    rw [if_neg h1]
    refine ⟨rfl, ?_⟩
    have h2 : ¬ c.toInt < (nI k).toInt := fun q => h1 (Or.inl (Int32.lt_iff_toInt_lt.mpr q))
    have h3 : ¬ (nI (k + 1)).toInt < c.toInt := fun q => h1 (Or.inr (Int32.lt_iff_toInt_lt.mpr q))
    rw [nI_toInt (by omega)] at h2 h3
    have h4 : c.toInt = (nI k).toInt ∨ c.toInt = (nI (k + 1)).toInt := by
      rw [nI_toInt (by omega), nI_toInt (by omega)]
      omega
    rcases h4 with h4 | h4
    · exact Or.inl (Int32.toInt_inj.mp h4)
    · exact Or.inr (Int32.toInt_inj.mp h4)
theorem isLM (c : Int32) : f_X11_isLetter c = some (if vlb c = true then 1 else 0) := by
  unfold f_X11_isLetter
  simp only [bnd]
  rcases in2 (c := c) (k := 97) (by omega) with ⟨h1, h2⟩ | ⟨h1, h2⟩
  · rw [show f_X11_in c 97 98 = some 1 from h1, bd1_s, if_neg n10, if_pos ((vlb_iff c).mpr (h2.elim (fun q => Or.inl q) (fun q => Or.inr (Or.inl q))))]
  · rw [show f_X11_in c 97 98 = some 0 from h1, bd1_s, if_pos rfl]
    rcases in2 (c := c) (k := 102) (by omega) with ⟨h3, h4⟩ | ⟨h3, h4⟩
    · rw [show f_X11_in c 102 103 = some 1 from h3, bd1_s, if_neg n10, if_pos ((vlb_iff c).mpr (h4.elim (fun q => Or.inr (Or.inr (Or.inl q))) (fun q => Or.inr (Or.inr (Or.inr (Or.inl q))))))]
    · rw [show f_X11_in c 102 103 = some 0 from h3, bd1_s, if_pos rfl, iUM, bd1_s]
      by_cases h5 : c = 120 ∨ c = 121
      · rw [if_pos h5, if_neg n10, if_pos ((vlb_iff c).mpr (Or.inr (Or.inr (Or.inr (Or.inr h5)))))]
      · rw [if_neg h5, if_pos rfl, if_neg (fun q => by
          rcases (vlb_iff c).mp q with g | g | g | g | g
          · exact h2 (Or.inl g)
          · exact h2 (Or.inr g)
          · exact h4 (Or.inl g)
          · exact h4 (Or.inr g)
          · exact h5 g)]
/-- the model's look at unknowns -/
theorem alM {m c : Int32} (hm : S4 m) : ∀ (X Y : Option ((Int32 × mI) ⊕ (Int32 × mI))), (if (if c = 120 ∨ c = 121 then (1 : Int32) else 0) = 0 then X else if ((m >>> ((c - 120) &&& 31)) &&& (1 : Int32)) = (1 : Int32) then X else Y) = if alw m c = true then X else Y := by
  intro X Y
  unfold alw
  rcases ub_3 c with ⟨h1, h2⟩ | ⟨h1, h2⟩ | ⟨h1, h3, h2⟩
  · rw [if_pos (Or.inl h1), if_neg n10, h2, h1]
    rcases hm with rfl | rfl | rfl | rfl <;> rfl
  · rw [if_pos (Or.inr h1), if_neg n10, h2, h1]
    rcases hm with rfl | rfl | rfl | rfl <;> rfl
  · rw [if_neg (show ¬ (c = 120 ∨ c = 121) from fun q => q.elim h1 h3), if_pos rfl, h2, if_pos (by rcases hm with rfl | rfl | rfl | rfl <;> decide)]
/-- letters that were read -/
def LeM (I : mI) (o : Nat) (w : List Int32) : Prop := ∀ k, k < w.length → I 2 (o + k) = w.getD k 0
def FrL (o most : Nat) (I' I : mI) : Prop := FrY I' I ∧ ∀ j, (j < o ∨ o + most ≤ j) → I' 2 j = I 2 j
theorem FrL.trans {o most : Nat} {I I' I'' : mI} (h : FrL o most I'' I') (h' : FrL o most I' I) : FrL o most I'' I := ⟨h.1.trans h'.1, fun j hj => (h.2 j hj).trans (h'.2 j hj)⟩
theorem FrZ.l {I I' : mI} (o most : Nat) (h : FrZ I' I) : FrL o most I' I := ⟨h.y, fun j _ => by rw [h.1 2 (by decide) (by decide)]⟩
theorem FrX.l {I I' : mI} (o most : Nat) (h : FrX I' I) : FrL o most I' I := ⟨h.y, fun j _ => by rw [h.1 2 (by decide)]⟩
theorem tkM_L {T : List Int32} (hT : T.length ≤ 120) {o most : Nat} (ho : o + most ≤ 192) (hmost : most ≤ 60) {m : Int32} (hm : S4 m) :
    ∀ (n f p : Nat) (I : mI) (ds w : List Int32), n ≤ f → T.length - p < n → p ≤ T.length → w.length ≤ most → ds.length ≤ 1 + 4 * w.length → TxM I T → I 0 7 = nI p → DuM I ds → LeM I o w →
      ∃ I', FrL o most I' I ∧ ((∃ q, runT T most m m n p ds w = Sum.inl q ∧ f_X11_takesTerm_L14 f 0 (nI o) (nI most) m (nI w.length) I R1M = some (Sum.inl (-1, I')) ∧ I' 0 7 = nI q) ∨ (∃ q l, runT T most m m n p ds w = Sum.inr (q, l) ∧ f_X11_takesTerm_L14 f 0 (nI o) (nI most) m (nI w.length) I R1M = some (Sum.inr (nI l.length, I')) ∧ I' 0 7 = nI q ∧ LeM I' o l)) := by
  intro n
  induction n with
  | zero => intro f p I ds w h1 h2; omega
  | succ n ih =>
    intro f p I ds w h1 h2 h3 h4 h5 h6 h7 h8 h9
    obtain ⟨f, rfl⟩ : ∃ q, f = q + 1 := ⟨f - 1, by omega⟩
    cases ds with
    | nil =>
      refine ⟨I, ⟨FrY.rfl' I, fun _ _ => rfl⟩, Or.inr ⟨p, w, rfl, ?_, h7, h9⟩⟩
      rw [f_X11_takesTerm_L14, h8.1, if_pos (by decide)]
    | cons d ds =>
      rw [List.length_cons] at h5
      obtain ⟨I1, e1, e2, e3⟩ := blM_ok hT h3 h6 h7
      have hs := sk_le h3
      have hsg := sk_ge T p
      rw [f_X11_takesTerm_L14]
      simp only [bnd]
      rw [h8.1, List.length_cons, if_neg (nI_nle (by omega) (by omega)), e1, bd1_s, e2, (h6.fr e3.y).1]
      by_cases hl : sk T p < T.length
      · have hD1 : DuM I1 (d :: ds) := by
          unfold DuM
          rw [e3.2 9 (by decide), e3.1 6 (by decide)]
          exact h8
        have htop : I1 6 ds.length = d := by
          have := hD1.2 0 (by rw [List.length_cons]; omega)
          rw [List.length_cons, show ds.length + 1 - 1 - 0 = ds.length by omega] at this
          exact this
        have F2 : FrL o most (u2 I1 0 9 (nI ds.length)) I := ⟨⟨fun a x _ _ => by rw [u2_n _ _ _ x, e3.1 a x], fun k x y => by rw [u2_o _ _ _ y, e3.2 k x]⟩, fun j _ => by rw [u2_n _ _ _ (by decide), e3.1 2 (by decide)]⟩
        have hD2 : DuM (u2 I1 0 9 (nI ds.length)) ds := by
          refine ⟨by rw [u2_e], fun k hk => ?_⟩
          rw [u2_n _ _ _ (by decide)]
          have := hD1.2 (k + 1) (by rw [List.length_cons]; omega)
          rw [List.length_cons, List.getD_cons_succ, show ds.length + 1 - 1 - (k + 1) = ds.length - 1 - k by omega] at this
          exact this
        have hL2 : LeM (u2 I1 0 9 (nI ds.length)) o w := fun k hk => by rw [u2_n _ _ _ (by decide), e3.1 2 (by decide)]; exact h9 k hk
        have p2 : u2 I1 0 9 (nI ds.length) 0 7 = nI (sk T p) := by rw [u2_o _ _ _ (by decide)]; exact e2
        have hget : I1 5 (sk T p) = T.getD (sk T p) 0 := (h6.fr e3.y).2 _ hl
        rw [if_neg (fun q => by have := nI_inj (by omega) (by omega) q; omega), mr5, lm5, if_pos (inb_nI (by omega) (by omega)), nI_clamp (show sk T p < 2 ^ 31 by omega), hget, hD1.1, List.length_cons, show (1 : Int32) = nI 1 from rfl, nI_sub (by omega), show ds.length + 1 - 1 = ds.length by omega, u2_e, mr8, lm6, if_pos (inb_nI (by omega) (by omega)), nI_clamp (show ds.length < 2 ^ 31 by omega), u2_n _ _ _ (show (6 : Nat) ≠ 0 by decide), htop, show nI 1 = 1 from rfl]
        by_cases hd : d = 84
        · subst hd
          rw [if_pos rfl, iUM, bd1_s, alM hm, isLM, bd1_s, bd1_s]
          by_cases hc : w.length < most ∧ vlb (T.getD (sk T p) 0) = true ∧ alw m (T.getD (sk T p) 0) = true
          · have hc' : w.length < most ∧ vlb (T.getD (sk T p) 0) = true ∧ alw (if w.length = 0 then m else m) (T.getD (sk T p) 0) = true := by
              rw [show (if w.length = 0 then m else m) = m by split <;> rfl]
              exact hc
            rw [runT_T hl hc', if_pos hc.2.2, if_pos hc.2.1, if_neg n10, if_neg (fun q => by have := nI_inj (by omega) (by omega) q; omega), if_neg n10, nI_add, mr1, lm2, if_pos (inb_nI (by omega) (by omega)), nI_clamp (show o + w.length < 2 ^ 31 by omega)]
            obtain ⟨I3, g1, g2, g3⟩ := opensM_ok (I := u2 (u2 I1 0 9 (nI ds.length)) 2 (o + w.length) (T.getD (sk T p) 0)) (ds := ds) (by
              unfold DuM
              rw [u2_n _ _ _ (show (0 : Nat) ≠ 2 by decide), u2_n _ _ _ (show (6 : Nat) ≠ 2 by decide)]
              exact hD2) (by omega) (T.getD (sk T p) 0)
            rw [g1, bd1_s, nI_1]
            have q3 : I3 0 7 = nI (sk T p) := by rw [g3.2 7 (by decide), u2_n _ _ _ (by decide)]; exact p2
            rw [q3, nI_1]
            have F3 : FrL o most I3 I := by
              refine (g3.l o most).trans (FrL.trans ⟨⟨fun a x y z => by rw [u2_n _ _ _ y], fun k x y => by rw [u2_n _ _ _ (by decide)]⟩, fun j hj => by rw [u2_o _ _ _ (by omega)]⟩ F2)
            have F4 : FrL o most (u2 I3 0 7 (nI (sk T p + 1))) I := ((FrX.rfl' I3).set _).l o most |>.trans F3
            have hwl : (w ++ [T.getD (sk T p) 0]).length = w.length + 1 := by rw [List.length_append, List.length_singleton]
            have hop : (opS (T.getD (sk T p) 0)).length ≤ 5 := by
              unfold opS
              split
              · decide
              · split <;> decide
            obtain ⟨I4, k1, k2⟩ := ih f (sk T p + 1) (u2 I3 0 7 (nI (sk T p + 1))) (opS (T.getD (sk T p) 0) ++ ds) (w ++ [T.getD (sk T p) 0]) (by omega) (by omega) (by omega) (by omega) (by rw [hwl, List.length_append]; omega) (h6.fr F4.1) (by rw [u2_e]) (by
              unfold DuM
              rw [u2_o _ _ _ (by decide), u2_n _ _ _ (by decide)]
              exact g2) (fun k hk => by
              rw [hwl] at hk
              rw [u2_n _ _ _ (by decide), g3.1 2 (by decide) (by decide)]
              by_cases hkw : k = w.length
              · rw [hkw, u2_e, show w.length = w.length + 0 by rfl, getD_app_r]
                rfl
              · rw [u2_o _ _ _ (by omega), getD_app_l (by omega)]
                exact hL2 k (by omega))
            rw [hwl] at k2
            exact ⟨I4, k1.trans F4, k2⟩
          · have hc' : ¬ (w.length < most ∧ vlb (T.getD (sk T p) 0) = true ∧ alw (if w.length = 0 then m else m) (T.getD (sk T p) 0) = true) := by
              rw [show (if w.length = 0 then m else m) = m by split <;> rfl]
              exact hc
            rw [runT_Tn hl hc']
            refine ⟨_, F2, Or.inl ⟨sk T p, rfl, ?_, p2⟩⟩
            by_cases ha : alw m (T.getD (sk T p) 0) = true
            · rw [if_pos ha]
              by_cases c1 : vlb (T.getD (sk T p) 0) = true
              · rw [if_pos c1, if_neg n10, if_pos (show nI w.length = nI most from congrArg nI (by
                  by_cases hw : w.length < most
                  · exact absurd ⟨hw, c1, ha⟩ hc
                  · omega))]
              · rw [if_neg c1, if_pos rfl]
            · rw [if_neg ha]
              by_cases c1 : vlb (T.getD (sk T p) 0) = true
              · rw [if_pos c1, if_neg n10]
                split
                · rfl
                · first | rw [if_pos trivial] | rw [if_pos rfl]
              · rw [if_neg c1, if_pos rfl]
        · rw [if_neg hd]
          by_cases hc : T.getD (sk T p) 0 = d
          · rw [runT_s hl hd hc, if_pos hc, p2, nI_1]
            have F4 : FrL o most (u2 (u2 I1 0 9 (nI ds.length)) 0 7 (nI (sk T p + 1))) I := ((FrX.rfl' _).set _).l o most |>.trans F2
            obtain ⟨I4, k1, k2⟩ := ih f (sk T p + 1) (u2 (u2 I1 0 9 (nI ds.length)) 0 7 (nI (sk T p + 1))) ds w (by omega) (by omega) (by omega) h4 (by omega) (h6.fr F4.1) (by rw [u2_e]) (by
              unfold DuM
              rw [u2_o _ _ _ (by decide), u2_n _ _ _ (show (6 : Nat) ≠ 0 by decide)]
              exact hD2) (fun k hk => by rw [u2_n _ _ _ (by decide)]; exact hL2 k hk)
            exact ⟨I4, k1.trans F4, k2⟩
          · rw [runT_sn hl hd hc, if_neg hc]
            exact ⟨_, F2, Or.inl ⟨sk T p, rfl, rfl, p2⟩⟩
      · rw [runT_end hl, if_pos (show nI (sk T p) = nI T.length by rw [show sk T p = T.length by omega])]
        exact ⟨I1, e3.l o most, Or.inl ⟨sk T p, rfl, rfl, e2⟩⟩
