/-! ===== the model's turns: done ===== -/
theorem nI_sub {a b : Nat} (h : b ≤ a) : nI a - nI b = nI (a - b) := by
  have h1 : nI (a - b) + nI b = nI a := by rw [nI_add, show a - b + b = a by omega]
  grind
theorem inM (x lo hi : Int32) : f_X11_in x lo hi = some (if x < lo ∨ hi < x then 0 else 1) := by
  simp only [f_X11_in, bnd]
  by_cases h1 : x < lo
  · rw [if_pos h1, if_pos (Or.inl h1)]
  · rw [if_neg h1]
    by_cases h2 : hi < x
    · rw [if_pos h2, if_pos (Or.inr h2)]
    · rw [if_neg h2, if_neg (fun q => q.elim h1 h2)]
def FrT (I' I : mI) : Prop := (∀ a, a ≠ 0 → a ≠ 17 → a ≠ 18 → a ≠ 19 → a ≠ 20 → I' a = I a) ∧ ∀ k, k ≠ 24 → k ≠ 28 → k ≠ 29 → k ≠ 30 → I' 0 k = I 0 k
theorem FrT.rfl' (I : mI) : FrT I I := ⟨fun _ _ _ _ _ _ => rfl, fun _ _ _ _ _ => rfl⟩
theorem FrT.trans {I I' I'' : mI} (h : FrT I'' I') (h' : FrT I' I) : FrT I'' I := ⟨fun a x y z u v => (h.1 a x y z u v).trans (h'.1 a x y z u v), fun k x y z u => (h.2 k x y z u).trans (h'.2 k x y z u)⟩
theorem FrT.ofM {I I' : mI} (h : FrM I' I) : FrT I' I := ⟨fun a x _ _ u v => h.1 a x u v, fun k _ y z _ => h.2 k y z⟩
theorem FrT.ofN {I I' : mI} (h : FrN I' I) : FrT I' I := ⟨fun a x _ z _ _ => h.1 a x z, fun k _ _ _ u => h.2 k u⟩
theorem dt176_L {w : List Int32} (h60 : w.length ≤ 60) :
    ∀ (q n k : Nat) (I : mI), w.length - k = q → q < n → k ≤ w.length → I 0 30 = nI w.length → (∀ j, j < w.length → I 18 j = w.getD j 0) → (∀ j, j < k → I 17 j = w.getD j 0) →
      ∃ I', f_X11_doesTurn_L176 n 0 (nI k) I R1M = some I' ∧ (∀ j, j < w.length → I' 17 j = w.getD j 0) ∧ ∀ a, a ≠ 17 → I' a = I a := by
  intro q
  induction q with
  | zero =>
    intro n k I h1 h2 h3 h4 h5 h6
    obtain ⟨n, rfl⟩ : ∃ q, n = q + 1 := ⟨n - 1, by omega⟩
    refine ⟨I, ?_, fun j hj => h6 j (by omega), fun _ _ => rfl⟩
    rw [f_X11_doesTurn_L176, h4, if_pos (nI_le (by omega) (by omega))]
  | succ q ih =>
    intro n k I h1 h2 h3 h4 h5 h6
    obtain ⟨n, rfl⟩ : ∃ q, n = q + 1 := ⟨n - 1, by omega⟩
    rw [f_X11_doesTurn_L176]
    simp only [bnd]
    rw [h4, if_neg (nI_ge (by omega) (by omega)), mr23, mr25, lm17, lm18, if_pos (inb_nI (by omega) (by omega)), if_pos (inb_nI (by omega) (by omega)), nI_clamp (show k < 2 ^ 31 by omega), h5 k (by omega), nI_1 k]
    obtain ⟨I2, f1, f2, f3⟩ := ih n (k + 1) (u2 I 17 k (w.getD k 0)) (by omega) (by omega) (by omega) (by rw [u2_n _ _ _ (by decide)]; exact h4) (fun j hj => by rw [u2_n _ _ _ (by decide)]; exact h5 j hj) (fun j hj => by
      by_cases hk : j = k
      · rw [hk, u2_e]
      · rw [u2_o _ _ _ hk]
        exact h6 j (by omega))
    exact ⟨I2, f1, f2, fun a ha => by rw [f3 a ha, u2_n _ _ _ ha]⟩
theorem expS_len {l : List Int32} {bx bz : Option Nat} (h60 : l.length ≤ 60) : ∀ r : List Int32, (expS l bx bz r).length ≤ 60 * r.length
  | [] => by simp [expS]
  | c :: cs => by
    have ih := expS_len h60 (bx := bx) (bz := bz) cs
    unfold expS
    rw [List.length_append, List.length_cons]
    have ox := optP_le (l := l) (o := bx)
    have oz := optP_le (l := l) (o := bz)
    by_cases e1 : c = 120
    · rw [if_pos e1]; omega
    · rw [if_neg e1]
      by_cases e2 : c = 121
      · rw [if_pos e2]; omega
      · rw [if_neg e2, List.length_singleton]; omega
theorem BM.frM {I I' : mI} {l : List Int32} {u : Nat} {o : Option Nat} (h : BM I l u o) (h1 : I' 19 = I 19) (h2 : I' 20 = I 20) : BM I' l u o := h.cong (by rw [h1]) (by rw [h2])
theorem doesTurn_ok {l : List Int32} {rs : List Ru} (hl : Tm l) (h60 : l.length ≤ 60) (hr : RsOK rs) {I : mI} (h4 : RsM (I 1) rs) (h5 : TuM I l) {r a : Nat} (ht : turnS rs l = some (r, a)) (h28 : I 0 28 = nI r) (h29 : I 0 29 = nI a) :
    ∃ I', FrT I' I ∧ (((turned rs l r a).length ≤ 60 ∧ f_X11_doesTurn 0 I R1M = some (1, I') ∧ TuM I' (turned rs l r a)) ∨ (¬ (turned rs l r a).length ≤ 60 ∧ f_X11_doesTurn 0 I R1M = some (0, I') ∧ TuM I' l)) := by
  obtain ⟨hal, hrl, hfs⟩ := turnS_lt ht
  have hr5 := hr.1
  have hu := hr.get hrl
  have heg := ep_gt hal
  have hel := ep_le (l := l) (k := a) (by omega)
  obtain ⟨I1, e1, e2⟩ := fitsM_ok hl h60 (by omega) (h4.2 r hrl) hu.2.2.1 hu.1 h5 hal
  rcases e1 with ⟨g1, -⟩ | ⟨bx, bz, g1, g2, g3, g4⟩
  · rw [g1] at hfs
    cases hfs
  · have hD : fitD l (rs.getD r dRu).1 a = (bx, bz) := by unfold fitD; rw [g1]; rfl
    have hT : turned rs l r a = l.take a ++ expS l bx bz (rs.getD r dRu).2 ++ l.drop (ep l a) := by
      unfold turned newT
      rw [hD]
    have hexp := expS_len (bx := bx) (bz := bz) h60 (rs.getD r dRu).2
    have hu12 := hu.2.2.2.1
    have hla : (l.take a).length = a := by rw [List.length_take]; omega
    rw [hT]
    have F1 : FrM I1 I := FrM.of e2
    have F2 : FrN (u2 I1 0 30 0) I1 := ⟨fun b x _ => by rw [u2_n _ _ _ x], fun k x => by rw [u2_o _ _ _ x]⟩
    have T2 : TuM (u2 I1 0 30 0) l := (h5.fr F1).frN F2
    have M2 : MdM (u2 I1 0 30 0) [] := ⟨by rw [u2_e]; rfl, fun k hk => by simp at hk⟩
    obtain ⟨I3, p1, p2, p3⟩ := makesM_ok h60 (s := 0) (m := a) (by omega) T2 M2 (by rw [List.length_nil]; omega)
    rw [List.nil_append, List.drop_zero] at p2
    have F3 : FrN I3 I1 := p3.trans F2
    have s28 : I3 0 28 = nI r := by rw [F3.2 28 (by decide), e2 0 (by decide) (by decide)]; exact h28
    have s29 : I3 0 29 = nI a := by rw [F3.2 29 (by decide), e2 0 (by decide) (by decide)]; exact h29
    obtain ⟨I4, q1, q2, q3⟩ := dt29_L hl h60 (by omega) (h4.2 r hrl) hu12 (rs.getD r dRu).2.length FU 0 I3 (l.take a) (by omega) (by rw [FU_eq]; omega) (by omega) (by rw [F3.1 1 (by decide) (by decide), e2 1 (by decide) (by decide)]) s28 ((h5.fr F1).frN F3) (g3.frN F3) (g4.frN F3) p2 (by rw [List.drop_zero]; omega)
    rw [List.drop_zero] at q2
    have F4 : FrN I4 I1 := q3.trans F3
    have T4 : TuM I4 l := (h5.fr F1).frN F4
    have t29 : I4 0 29 = nI a := by rw [F4.2 29 (by decide), e2 0 (by decide) (by decide)]; exact h29
    obtain ⟨I5, k1, k2, k3⟩ := makesM_ok h60 (s := ep l a) (m := l.length - ep l a) (by omega) T4 q2 (by rw [List.length_append]; omega)
    rw [show (l.drop (ep l a)).take (l.length - ep l a) = l.drop (ep l a) from List.take_of_length_le (by rw [List.length_drop]; omega)] at k2
    have F5 : FrN I5 I1 := k3.trans F4
    have F5' : FrT I5 I := (FrT.ofN F5).trans (FrT.ofM F1)
    have e0 : u2 I1 0 30 0 0 29 = nI a := by rw [u2_o _ _ _ (by decide), e2 0 (by decide) (by decide)]; exact h29
    have hrun : f_X11_doesTurn 0 I R1M = (if (I5 0 30) ≤ (60 : Int32) then (bnd (u2 I5 0 24 (I5 0 30)) (fun I28 => (bd1 (f_X11_doesTurn_L176 FU 0 (0 : Int32) I28 R1M) (fun I_35 => (some ((1 : Int32), I_35)))))) else (some ((0 : Int32), I5))) := by
      unfold f_X11_doesTurn
      rw [h28, h29, g2, bd2_s]
      simp only [bnd]
      rw [nI0] at p1 q1
      rw [e0, p1, bd1_s, q1, bd1_s, mr23, t29, longT T4 hl h60 hal, bd1_s, nI_add, T4.1, show a + (ep l a - a) = ep l a by omega, nI_sub hel, k1, bd1_s]
    have hlen : (l.take a ++ expS l bx bz (rs.getD r dRu).2 ++ l.drop (ep l a)).length ≤ 5000 := by
      rw [List.length_append, List.length_append, List.length_drop]
      omega
    generalize hW : l.take a ++ expS l bx bz (rs.getD r dRu).2 ++ l.drop (ep l a) = W at *
    rw [k2.1] at hrun
    by_cases hw : W.length ≤ 60
    · rw [show (60 : Int32) = nI 60 from rfl, if_pos (nI_le hw (by omega))] at hrun
      obtain ⟨I6, j1, j2, j3⟩ := dt176_L hw W.length FU 0 (u2 I5 0 24 (nI W.length)) (by omega) (by rw [FU_eq]; omega) (by omega) (by rw [u2_o _ _ _ (by decide)]; exact k2.1) (fun j hj => by rw [u2_n _ _ _ (by decide)]; exact k2.2 j hj (by omega)) (fun j hj => by omega)
      rw [nI0] at j1
      refine ⟨I6, ⟨fun b x1 x2 x3 x4 x5 => ?_, fun k x1 x2 x3 x4 => ?_⟩, Or.inl ⟨hw, ?_, ?_, j2⟩⟩
      · rw [j3 b x2, u2_n _ _ _ x1, F5'.1 b x1 x2 x3 x4 x5]
      · rw [j3 0 (by decide), u2_o _ _ _ x1, F5'.2 k x1 x2 x3 x4]
      · rw [hrun]
        simp only [bnd]
        rw [j1]
        rfl
      · rw [j3 0 (by decide), u2_e]
    · rw [show (60 : Int32) = nI 60 from rfl, if_neg (nI_ge (by omega) (by omega))] at hrun
      exact ⟨I5, F5', Or.inr ⟨hw, hrun, (h5.fr F1).frN F5⟩⟩
theorem stepS_some {rs : List Ru} {l : List Int32} {r a : Nat} (h : turnS rs l = some (r, a)) (h60 : (turned rs l r a).length ≤ 60) : stepS rs l = some (turned rs l r a) := by
  unfold stepS
  rw [h]
  exact if_pos h60
theorem stepS_none {rs : List Ru} {l : List Int32} {r a : Nat} (h : turnS rs l = some (r, a)) (h60 : ¬ (turned rs l r a).length ≤ 60) : stepS rs l = none := by
  unfold stepS
  rw [h]
  exact if_neg h60
theorem stepS_0 {rs : List Ru} {l : List Int32} (h : turnS rs l = none) : stepS rs l = none := by
  unfold stepS
  rw [h]
theorem iterS_none {rs : List Ru} {l : List Int32} (h : stepS rs l = none) (q : Nat) : iterS rs (q + 1) l = (0, l) := by
  unfold iterS
  rw [h]
theorem iterS_some {rs : List Ru} {l l' : List Int32} (h : stepS rs l = some l') (q : Nat) : iterS rs (q + 1) l = ((iterS rs q l').1 + 1, (iterS rs q l').2) := by
  conv => lhs; unfold iterS
  rw [h]
theorem turnsM_L {rs : List Ru} (hr : RsOK rs) {m : Nat} (hm : m ≤ 30) :
    ∀ (q n k : Nat) (I : mI) (l : List Int32), m - k = q → q < n → k ≤ m → RsM (I 1) rs → TuM I l → Tm l → l.length ≤ 60 →
      ∃ I', f_X11_turns_L27 n 0 (nI m) (nI k) I R1M = some (nI (k + (iterS rs q l).1), I') ∧ TuM I' (iterS rs q l).2 ∧ FrT I' I := by
  intro q
  induction q with
  | zero =>
    intro n k I l h1 h2 h3 h4 h5 h6 h7
    obtain ⟨n, rfl⟩ : ∃ q, n = q + 1 := ⟨n - 1, by omega⟩
    refine ⟨I, ?_, h5, FrT.rfl' I⟩
    rw [f_X11_turns_L27, if_pos (nI_le (by omega) (by omega))]
    rfl
  | succ q ih =>
    intro n k I l h1 h2 h3 h4 h5 h6 h7
    obtain ⟨n, rfl⟩ : ∃ q, n = q + 1 := ⟨n - 1, by omega⟩
    rw [f_X11_turns_L27, if_neg (nI_ge (by omega) (by omega))]
    obtain ⟨I1, F1, e1⟩ := findsTurn_ok h6 h7 hr h4 h5
    have h4' : RsM (I1 1) rs := by rw [F1.1 1 (by decide) (by decide) (by decide)]; exact h4
    rcases e1 with ⟨g1, g2⟩ | ⟨r, a, g1, g2, g3, g4⟩
    · rw [iterS_none (stepS_0 g1), g2, bd2_s, if_pos rfl]
      exact ⟨I1, rfl, h5.fr F1, FrT.ofM F1⟩
    · obtain ⟨I2, F2, e2⟩ := doesTurn_ok h6 h7 hr h4' (h5.fr F1) g1 g3 g4
      have F : FrT I2 I := F2.trans (FrT.ofM F1)
      rcases e2 with ⟨k1, k2, k3⟩ | ⟨k1, k2, k3⟩
      · have hs := stepS_some g1 k1
        obtain ⟨o1, o2⟩ := stepS_ok hr h6 hs
        obtain ⟨I3, j1, j2, j3⟩ := ih n (k + 1) I2 _ (by omega) (by omega) (by omega) (by rw [F.1 1 (by decide) (by decide) (by decide) (by decide) (by decide)]; exact h4) k3 o1 o2
        rw [iterS_some hs, g2, bd2_s, if_neg n10, k2, bd2_s, if_neg n10, nI_1 k]
        refine ⟨I3, ?_, j2, j3.trans F⟩
        rw [j1, show k + 1 + (iterS rs q (turned rs l r a)).1 = k + ((iterS rs q (turned rs l r a)).1 + 1) by omega]
      · rw [iterS_none (stepS_none g1 k1), g2, bd2_s, if_neg n10, k2, bd2_s, if_pos rfl]
        exact ⟨I2, rfl, k3, F⟩
/-- whether a term is settled after that many turns, and after how many -/
def setS (rs : List Ru) (q k : Nat) (l : List Int32) : Int32 := if (turnS rs (iterS rs q l).2).isNone = true then nI (k + (iterS rs q l).1) else -1
theorem setM_L {rs : List Ru} (hr : RsOK rs) :
    ∀ (q n k : Nat) (I : mI) (l : List Int32), 30 - k = q → q < n → k ≤ 30 → RsM (I 1) rs → TuM I l → Tm l → l.length ≤ 60 →
      ∃ I', f_X11_settled_L6 n 0 (nI k) I R1M = some (Sum.inl (setS rs q k l, I')) ∧ FrT I' I := by
  intro q
  induction q with
  | zero =>
    intro n k I l h1 h2 h3 h4 h5 h6 h7
    obtain ⟨n, rfl⟩ : ∃ q, n = q + 1 := ⟨n - 1, by omega⟩
    have hk : k = 30 := by omega
    subst hk
    obtain ⟨I1, F1, e1⟩ := findsTurn_ok h6 h7 hr h4 h5
    rw [f_X11_settled_L6, if_neg (show ¬ (30 : Int32) < nI 30 by decide)]
    unfold setS
    rw [show iterS rs 0 l = (0, l) from rfl]
    rcases e1 with ⟨g1, g2⟩ | ⟨r, a, g1, g2, g3, g4⟩
    · rw [g2, bd2_s, if_pos rfl, g1]
      exact ⟨I1, rfl, FrT.ofM F1⟩
    · rw [g2, bd2_s, if_neg n10, if_pos (show nI 30 = 30 from rfl), g1]
      exact ⟨I1, rfl, FrT.ofM F1⟩
  | succ q ih =>
    intro n k I l h1 h2 h3 h4 h5 h6 h7
    obtain ⟨n, rfl⟩ : ∃ q, n = q + 1 := ⟨n - 1, by omega⟩
    obtain ⟨I1, F1, e1⟩ := findsTurn_ok h6 h7 hr h4 h5
    have h4' : RsM (I1 1) rs := by rw [F1.1 1 (by decide) (by decide) (by decide)]; exact h4
    rw [f_X11_settled_L6, show (30 : Int32) = nI 30 from rfl, if_neg (nI_nlt (by omega) (by omega))]
    unfold setS
    rcases e1 with ⟨g1, g2⟩ | ⟨r, a, g1, g2, g3, g4⟩
    · rw [iterS_none (stepS_0 g1), g2, bd2_s, if_pos rfl]
      simp only [g1]
      exact ⟨I1, rfl, FrT.ofM F1⟩
    · obtain ⟨I2, F2, e2⟩ := doesTurn_ok h6 h7 hr h4' (h5.fr F1) g1 g3 g4
      have F : FrT I2 I := F2.trans (FrT.ofM F1)
      have hne : ¬ nI k = nI 30 := fun w => by have := nI_inj (by omega) (by omega) w; omega
      rcases e2 with ⟨k1, k2, k3⟩ | ⟨k1, k2, k3⟩
      · have hs := stepS_some g1 k1
        obtain ⟨o1, o2⟩ := stepS_ok hr h6 hs
        obtain ⟨I3, j1, j2⟩ := ih n (k + 1) I2 _ (by omega) (by omega) (by omega) (by rw [F.1 1 (by decide) (by decide) (by decide) (by decide) (by decide)]; exact h4) k3 o1 o2
        rw [iterS_some hs, g2, bd2_s, if_neg n10, if_neg hne, k2, bd2_s, if_neg n10, nI_1 k]
        refine ⟨I3, ?_, j2.trans F⟩
        rw [j1]
        unfold setS
        rw [show k + 1 + (iterS rs q (turned rs l r a)).1 = k + ((iterS rs q (turned rs l r a)).1 + 1) by omega]
      · rw [iterS_none (stepS_none g1 k1), g2, bd2_s, if_neg n10, if_neg hne, k2, bd2_s, if_pos rfl]
        simp only [g1]
        exact ⟨I2, rfl, F⟩
/-- the model's term -/
def WhM (ρ : Nat → Int32) (l : List Int32) : Prop := ρ 131 = nI l.length ∧ ∀ k, k < l.length → ρ (132 + k) = l.getD k 0
theorem laysT_L {l : List Int32} (h60 : l.length ≤ 60) :
    ∀ (q n k : Nat) (I : mI), l.length - k = q → q < n → k ≤ l.length → I 0 24 = nI l.length → WhM (I 1) l → (∀ j, j < k → I 17 j = l.getD j 0) →
      ∃ I', f_X11_laysTerm_L14 n 0 (nI k) I R1M = some I' ∧ (∀ j, j < l.length → I' 17 j = l.getD j 0) ∧ ∀ a, a ≠ 17 → I' a = I a := by
  intro q
  induction q with
  | zero =>
    intro n k I h1 h2 h3 h4 h5 h6
    obtain ⟨n, rfl⟩ : ∃ q, n = q + 1 := ⟨n - 1, by omega⟩
    refine ⟨I, ?_, fun j hj => h6 j (by omega), fun _ _ => rfl⟩
    rw [f_X11_laysTerm_L14, h4, if_pos (nI_le (by omega) (by omega))]
  | succ q ih =>
    intro n k I h1 h2 h3 h4 h5 h6
    obtain ⟨n, rfl⟩ : ∃ q, n = q + 1 := ⟨n - 1, by omega⟩
    rw [f_X11_laysTerm_L14]
    simp only [bnd]
    rw [h4, if_neg (nI_ge (by omega) (by omega)), mr0, mr23, lm1, lm17, show (132 : Int32) = nI 132 from rfl, nI_add, if_pos (inb_nI (by omega) (by omega)), if_pos (inb_nI (by omega) (by omega)), nI_clamp (show k < 2 ^ 31 by omega), nI_clamp (show 132 + k < 2 ^ 31 by omega), h5.2 k (by omega), nI_1 k]
    obtain ⟨I2, f1, f2, f3⟩ := ih n (k + 1) (u2 I 17 k (l.getD k 0)) (by omega) (by omega) (by omega) (by rw [u2_n _ _ _ (by decide)]; exact h4) (by rw [u2_n _ _ _ (by decide)]; exact h5) (fun j hj => by
      by_cases hk : j = k
      · rw [hk, u2_e]
      · rw [u2_o _ _ _ hk]
        exact h6 j (by omega))
    exact ⟨I2, f1, f2, fun a ha => by rw [f3 a ha, u2_n _ _ _ ha]⟩
theorem laysT_ok {l : List Int32} (h60 : l.length ≤ 60) {I : mI} (h : WhM (I 1) l) : ∃ I', f_X11_laysTerm 0 I R1M = some I' ∧ TuM I' l ∧ FrT I' I := by
  obtain ⟨I', e1, e2, e3⟩ := laysT_L h60 l.length FU 0 (u2 I 0 24 (nI l.length)) (by omega) (by rw [FU_eq]; omega) (by omega) (by rw [u2_e]) (by rw [u2_n _ _ _ (by decide)]; exact h) (fun j hj => by omega)
  rw [nI0] at e1
  refine ⟨I', ?_, ⟨by rw [e3 0 (by decide), u2_e], e2⟩, fun a x1 x2 _ _ _ => by rw [e3 a x2, u2_n _ _ _ x1], fun k x1 _ _ _ => by rw [e3 0 (by decide), u2_o _ _ _ x1]⟩
  unfold f_X11_laysTerm
  simp only [bnd]
  rw [mr0, lm1, if_pos (show inb 131 192 = true from rfl), show (131 : Int32).toNatClampNeg = 131 from rfl, h.1, e1]
  rfl
theorem turns66_L {l : List Int32} (h60 : l.length ≤ 60) (x2 : Int32) :
    ∀ (q n k : Nat) (I : mI), 60 - k = q → q < n → k ≤ 60 → TuM I l → (∀ j, j < k → j < l.length → I 1 (132 + j) = l.getD j 0) →
      ∃ I', f_X11_turns_L66 n 0 x2 (nI k) I R1M = some I' ∧ (∀ j, j < l.length → I' 1 (132 + j) = l.getD j 0) ∧ (∀ j, j < 132 → I' 1 j = I 1 j) ∧ ∀ a, a ≠ 1 → I' a = I a := by
  intro q
  induction q with
  | zero =>
    intro n k I h1 h2 h3 h4 h5
    obtain ⟨n, rfl⟩ : ∃ q, n = q + 1 := ⟨n - 1, by omega⟩
    refine ⟨I, ?_, fun j hj => h5 j (by omega) hj, fun _ _ => rfl, fun _ _ => rfl⟩
    rw [f_X11_turns_L66, show (60 : Int32) = nI 60 from rfl, if_pos (nI_le (by omega) (by omega))]
  | succ q ih =>
    intro n k I h1 h2 h3 h4 h5
    obtain ⟨n, rfl⟩ : ∃ q, n = q + 1 := ⟨n - 1, by omega⟩
    rw [f_X11_turns_L66]
    simp only [bnd]
    rw [show (60 : Int32) = nI 60 from rfl, if_neg (nI_ge (by omega) (by omega)), mr0, mr23, lm1, lm17, show (132 : Int32) = nI 132 from rfl, nI_add, nI_clamp (show 132 + k < 2 ^ 31 by omega), h4.1, nI_1 k, if_pos (show inb (nI (132 + k)) 192 = true from inb_nI (by omega) (by omega)), if_pos (show inb (nI (132 + k)) 192 = true from inb_nI (by omega) (by omega))]
    have go : ∀ v : Int32, (k < l.length → v = l.getD k 0) → ∃ I', f_X11_turns_L66 n 0 x2 (nI (k + 1)) (u2 I 1 (132 + k) v) R1M = some I' ∧ (∀ j, j < l.length → I' 1 (132 + j) = l.getD j 0) ∧ (∀ j, j < 132 → I' 1 j = I 1 j) ∧ ∀ a, a ≠ 1 → I' a = I a := by
      intro v hv
      obtain ⟨I2, f1, f2, f3, f4⟩ := ih n (k + 1) (u2 I 1 (132 + k) v) (by omega) (by omega) (by omega) (h4.cong (by rw [u2_n _ _ _ (by decide)]) (by rw [u2_n _ _ _ (by decide)])) (fun j hj hj2 => by
        by_cases hk : j = k
        · rw [hk, u2_e, hv (by omega)]
        · rw [u2_o _ _ _ (by omega)]
          exact h5 j (by omega) hj2)
      exact ⟨I2, f1, f2, fun j hj => by rw [f3 j hj, u2_o _ _ _ (by omega)], fun a ha => by rw [f4 a ha, u2_n _ _ _ ha]⟩
    by_cases hk : k < l.length
    · rw [if_neg (nI_ge hk (by omega)), if_pos (inb_nI (by omega) (by omega)), nI_clamp (show k < 2 ^ 31 by omega), h4.2 k hk]
      exact go _ (fun _ => rfl)
    · rw [if_pos (nI_le (by omega) (by omega))]
      exact go _ (fun h => absurd h hk)
/-- the model's turns, once the state is remembered -/
theorem turnsM_ok {rs : List Ru} (hr : RsOK rs) {m : Nat} (hm : m ≤ 30) {I I0' : mI} {l : List Int32} (hrem : f_X11_remembers 0 I R1M = some I0') (h4 : RsM (I0' 1) rs) (h5 : WhM (I0' 1) l) (h6 : Tm l) (h7 : l.length ≤ 60) :
    ∃ I', f_X11_turns 0 (nI m) I R1M = some (nI (iterS rs m l).1, I') ∧ WhM (I' 1) (iterS rs m l).2 ∧ (∀ j, j < 131 → I' 1 j = I0' 1 j) ∧ (∀ a, a ≠ 0 → a ≠ 1 → a ≠ 17 → a ≠ 18 → a ≠ 19 → a ≠ 20 → I' a = I0' a) ∧ ∀ k, k ≠ 24 → k ≠ 28 → k ≠ 29 → k ≠ 30 → I' 0 k = I0' 0 k := by
  obtain ⟨I1, e1, e2, e3⟩ := laysT_ok h7 h5
  have n1 : ∀ {J K : mI}, FrT J K → J 1 = K 1 := fun h => h.1 1 (by decide) (by decide) (by decide) (by decide) (by decide)
  obtain ⟨I2, f1, f2, f3⟩ := turnsM_L hr hm m FU 0 I1 l (by omega) (by rw [FU_eq]; omega) (by omega) (by rw [n1 e3]; exact h4) e2 h6 h7
  rw [nI0, Nat.zero_add] at f1
  obtain ⟨o1, o2⟩ := iterS_ok hr m l h6 h7
  have F := f3.trans e3
  obtain ⟨I3, g1, g2, g3, g4⟩ := turns66_L o2 (nI (iterS rs m l).1) 60 FU 0 (u2 I2 1 131 (nI (iterS rs m l).2.length)) (by omega) (by rw [FU_eq]; omega) (by omega) (f2.cong (by rw [u2_n _ _ _ (by decide)]) (by rw [u2_n _ _ _ (by decide)])) (fun j hj => by omega)
  rw [nI0] at g1
  refine ⟨I3, ?_, ⟨by rw [g3 131 (by decide), u2_e], g2⟩, fun j hj => by rw [g3 j (by omega), u2_o _ _ _ (by omega), n1 F], fun a x0 x1 x2 x3 x4 x5 => by rw [g4 a x1, u2_n _ _ _ x1, F.1 a x0 x2 x3 x4 x5], fun k x1 x2 x3 x4 => by rw [g4 0 (by decide), u2_n _ _ _ (by decide), F.2 k x1 x2 x3 x4]⟩
  unfold f_X11_turns
  have hin : f_X11_in (nI m) 0 30 = some 1 := by
    rw [inM, if_neg (fun q => q.elim (nI_pos (by omega)) (fun q => nI_nlt (a := 30) (by omega) (by omega) q))]
  rw [hin, bd1_s, if_neg n10, hrem, bd1_s, e1, bd1_s, f1, bd2_s, mr0, lm1, if_pos (show inb 131 192 = true from rfl)]
  simp only [bnd]
  rw [show (131 : Int32).toNatClampNeg = 131 from rfl, f2.1, g1]
  rfl
