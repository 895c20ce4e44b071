/-! ===== reading: the class, all rules; a term ===== -/
def FrS (I' I : mI) : Prop := (∀ x, (x < 6 ∨ 40 < x) → x ≠ 243 → x ≠ 245 → I' x = I x) ∧ ∀ k, k ≠ 3 → k ≠ 4 → I' 243 k = I 243 k
theorem FrS.rfl' (I : mI) : FrS I I := ⟨fun _ _ _ _ => rfl, fun _ _ _ => rfl⟩
theorem FrS.trans {I I' I'' : mI} (h : FrS I'' I') (h' : FrS I' I) : FrS I'' I := ⟨fun a x y z => (h.1 a x y z).trans (h'.1 a x y z), fun k x y => (h.2 k x y).trans (h'.2 k x y)⟩
theorem FrR.s {q0 : Nat} {I I' : mI} (h : FrR q0 I' I) (h1 : 6 ≤ q0) (h2 : q0 + 6 ≤ 40) : FrS I' I := ⟨fun x x1 x2 x3 => h.1 x (by omega) x2 x3, h.2⟩
theorem FrA.s {I I' : mI} (h : FrA I' I) : FrS I' I := ⟨fun x _ x2 _ => h.1 x x2, fun k x _ => h.2 k x⟩
theorem TxC.frS {I I' : mI} {T : List Int32} (h : TxC I T) (hf : FrS I' I) : TxC I' T := by
  unfold TxC
  rw [hf.2 2 (by decide) (by decide), hf.1 244 (by omega) (by decide) (by decide)]
  exact h
theorem RO.rd {R : mR} (h : RO R) : RdO R := ⟨h.f (by decide), h.f (by decide)⟩
theorem RO.now {R : mR} (h : RO R) : R 1 0 = 2 ∧ R 1 1 = 3 ∧ lnC 2 = 5 ∧ TO R 3 60 ∧ (∀ r, r < 5 → QO R (R 2 r) ∧ 6 ≤ R 2 r ∧ R 2 r + 6 ≤ 40) ∧ ∀ r r', r < 5 → r' < 5 → r ≠ r' → R 2 r + 7 ≤ R 2 r' ∨ R 2 r' + 7 ≤ R 2 r := ⟨h.2.1.1, h.2.1.2.1, h.2.1.2.2.1, h.2.1.2.2.2.1, h.2.1.2.2.2.2.2.1, h.2.1.2.2.2.2.2.2⟩
theorem rdRs_s (T : List Int32) (k p : Nat) (rs : List Ru) : rdRs T (k + 1) p rs = match rdR T p with
    | Sum.inl q => Sum.inl q
    | Sum.inr (p', u) => if p' = T.length then Sum.inr (rs ++ [u]) else rdRs T k p' (rs ++ [u]) := rfl
theorem readRsC_L {T : List Int32} {R : mR} (hRO : RO R) (hT : T.length ≤ 120) :
    ∀ (k f p : Nat) (I : mI) (rs : List Ru), k < f → rs.length + k = 5 → p ≤ T.length → TxC I T → I 243 3 = nI p → (∀ j, j < rs.length → RuC I (R 2 j) (rs.getD j dRu)) →
      ∃ I', FrS I' I ∧ (∀ j, j < rs.length → RuC I' (R 2 j) (rs.getD j dRu)) ∧ ((∃ q, rdRs T k p rs = Sum.inl q ∧ f_X2_readRules_L10 f 243 1 (nI rs.length) I R = some (Sum.inl (-1, I')) ∧ I' 243 3 = nI q) ∨ (∃ rs', rdRs T k p rs = Sum.inr rs' ∧ f_X2_readRules_L10 f 243 1 (nI rs.length) I R = some (Sum.inl (nI rs'.length, I')) ∧ ∀ j, j < rs'.length → RuC I' (R 2 j) (rs'.getD j dRu)) ∨ (∃ q, q ≤ T.length ∧ rdRs T k p rs = Sum.inl (sk T q) ∧ f_X2_readRules_L10 f 243 1 (nI rs.length) I R = some (Sum.inr I') ∧ I' 243 3 = nI q)) := by
  obtain ⟨s0, s1, s2, s3, s5, s6⟩ := hRO.now
  have hR := hRO.rd
  intro k
  induction k with
  | zero =>
    intro f p I rs h1 h2 h3 h4 h5 h6
    obtain ⟨f, rfl⟩ : ∃ q, f = q + 1 := ⟨f - 1, by omega⟩
    refine ⟨I, FrS.rfl' I, h6, Or.inr (Or.inr ⟨p, h3, rfl, ?_, h5⟩)⟩
    rw [f_X2_readRules_L10, show (5 : Int32) = nI 5 from rfl, if_pos (nI_le (by omega) (by omega))]
  | succ k ih =>
    intro f p I rs h1 h2 h3 h4 h5 h6
    obtain ⟨f, rfl⟩ : ∃ q, f = q + 1 := ⟨f - 1, by omega⟩
    obtain ⟨y1, y2, y3⟩ := s5 rs.length (by omega)
    obtain ⟨I1, G1, e1⟩ := readRC_ok hR hT y1 h3 h4 h5
    have F1 : FrS I1 I := G1.s (by omega) (by omega)
    rw [f_X2_readRules_L10, show (5 : Int32) = nI 5 from rfl, if_neg (nI_ge (by omega) (by omega)), s0, s2, if_pos (inb_nI (by omega) (by omega)), nI_clamp (by omega), rdRs_s]
    have keep1 : ∀ j, j < rs.length → RuC I1 (R 2 j) (rs.getD j dRu) := by
      intro j hj
      obtain ⟨z1, z2, z3⟩ := s5 j (by omega)
      have := s6 j rs.length (by omega) (by omega) (by omega)
      exact (h6 j hj).cong (fun a x y => G1.1 a (by omega) (by omega) (by omega))
    rcases e1 with ⟨q, g1, g2, g3⟩ | ⟨q', q, u, g1, -, g2, g3, g4, g5⟩
    · rw [g2, bd2_s, if_pos rfl, g1]
      exact ⟨I1, F1, keep1, Or.inl ⟨q, rfl, rfl, g3⟩⟩
    · obtain ⟨I2, f1, f2, f3⟩ := skipC_ok hR hT g2 (h4.frS F1) g4
      have F2 : FrS I2 I := f3.s.trans F1
      rw [g3, bd2_s, if_neg n10, f1, bd1_s, f2, (h4.frS F2).1, g1]
      have hsl := sk_le g2
      have keep2 : ∀ j, j < (rs ++ [u]).length → RuC I2 (R 2 j) ((rs ++ [u]).getD j dRu) := by
        intro j hj
        rw [List.length_append, List.length_singleton] at hj
        obtain ⟨z1, z2, z3⟩ := s5 j (by omega)
        by_cases he : j = rs.length
        · rw [he, gD_app_e]
          exact g5.cong (fun a x y => f3.1 a (by omega))
        · rw [gD_app_l _ (by omega)]
          exact (keep1 j (by omega)).cong (fun a x y => f3.1 a (by omega))
      have pre : ∀ (J : mI), (∀ j, j < (rs ++ [u]).length → RuC J (R 2 j) ((rs ++ [u]).getD j dRu)) → ∀ j, j < rs.length → RuC J (R 2 j) (rs.getD j dRu) := by
        intro J hJ j hj
        have := hJ j (by rw [List.length_append]; omega)
        rw [gD_app_l _ hj] at this
        exact this
      by_cases he : sk T q' = T.length
      · simp only [if_pos he]
        rw [if_pos (by rw [he])]
        refine ⟨I2, F2, pre I2 keep2, Or.inr (Or.inl ⟨rs ++ [u], rfl, ?_, keep2⟩)⟩
        rw [nI_1, List.length_append]
        rfl
      · simp only [if_neg he]
        rw [if_neg (fun q => he (nI_inj (by omega) (by omega) q)), nI_1]
        obtain ⟨I3, G3, k3, e3⟩ := ih f (sk T q') I2 (rs ++ [u]) (by omega) (by rw [List.length_append, List.length_singleton]; omega) hsl (h4.frS F2) f2 keep2
        rw [List.length_append, List.length_singleton] at e3
        exact ⟨I3, G3.trans F2, pre I3 k3, e3⟩
theorem readRsC_ok {T : List Int32} {R : mR} {I : mI} {sn : Sn} (hRO : RO R) (hT : T.length ≤ 120) (h4 : TxC I T) (hs : SnC I R 1 sn) (hOK : SnOK sn) :
    ∃ I', FrS I' I ∧ SnC I' R 1 sn ∧ ((∃ q, rdRs T (5 - sn.1.length) 0 sn.1 = Sum.inl q ∧ f_X2_readRules 243 1 I R = some (-1, I') ∧ I' 243 3 = nI q) ∨ (∃ rs', rdRs T (5 - sn.1.length) 0 sn.1 = Sum.inr rs' ∧ f_X2_readRules 243 1 I R = some (nI rs'.length, I') ∧ ∀ j, j < rs'.length → RuC I' (R 2 j) (rs'.getD j dRu))) := by
  have h5 := hOK.1.1
  have F0 : FrS (u2 I 243 3 0) I := ⟨fun x _ x2 _ => by rw [u2_n _ _ _ x2], fun k x _ => by rw [u2_o _ _ _ x]⟩
  obtain ⟨s0, s1, s2, s3, s5, s6⟩ := hRO.now
  obtain ⟨I1, G1, k1, e1⟩ := readRsC_L hRO hT (5 - sn.1.length) FU 0 (u2 I 243 3 0) sn.1 (by rw [FU_eq]; omega) (by omega) (Nat.zero_le _) (h4.frS F0) (by rw [u2_e]; rfl) (fun j hj => by
    obtain ⟨z1, z2, z3⟩ := s5 j (by omega)
    exact RuC.cong (q := R 2 j) (hs.1.2 j hj) (fun a x y => by rw [u2_n _ _ _ (by omega)]))
  have F1 : FrS I1 I := G1.trans F0
  have hsn : ∀ J : mI, FrS J I → (∀ j, j < sn.1.length → RuC J (R 2 j) (sn.1.getD j dRu)) → SnC J R 1 sn := fun J hJ hr => ⟨⟨by rw [hJ.1 1 (by omega) (by decide) (by decide)]; exact hs.1.1, hr⟩, hs.2.cong (hJ.1 _ (by omega) (by decide) (by decide)) (hJ.1 _ (by omega) (by decide) (by decide)) (hJ.1 _ (by omega) (by decide) (by decide))⟩
  unfold f_X2_readRules
  simp only [bnd]
  rw [u2_n _ _ _ (show (1 : Nat) ≠ 243 by decide), hs.1.1]
  rcases e1 with ⟨q, g1, g2, g3⟩ | ⟨rs', g1, g2, g3⟩ | ⟨q, g0, g1, g2, g3⟩
  · exact ⟨I1, F1, hsn I1 F1 k1, Or.inl ⟨q, g1, by rw [g2]; rfl, g3⟩⟩
  · exact ⟨I1, F1, hsn I1 F1 k1, Or.inr ⟨rs', g1, by rw [g2]; rfl, g3⟩⟩
  · obtain ⟨I2, f1, f2, f3⟩ := skipC_ok hRO.rd hT g0 (h4.frS F1) g3
    refine ⟨I2, f3.s.trans F1, hsn I2 (f3.s.trans F1) (fun j hj => ?_), Or.inl ⟨sk T q, g1, ?_, f2⟩⟩
    · obtain ⟨z1, z2, z3⟩ := s5 j (by omega)
      exact (k1 j hj).cong (fun a x y => f3.1 a (by omega))
    · rw [g2, bdS_r]
      show (bd1 (f_X2_skipBlanks 243 I1 R) fun I11 => _) = _
      rw [f1]
      rfl
def rdW (T : List Int32) : Nat ⊕ List Int32 := match rdT T 60 3 3 0 with
  | Sum.inl q => Sum.inl q
  | Sum.inr (q, l) => if sk T q = T.length then Sum.inr l else Sum.inl (sk T q)
theorem rdW_ok {T : List Int32} {l : List Int32} (h : rdW T = Sum.inr l) : Tm l ∧ l.length ≤ 60 := by
  unfold rdW at h
  cases h1 : rdT T 60 3 3 0 with
  | inl q => rw [h1] at h; cases h
  | inr x =>
    obtain ⟨q, l'⟩ := x
    rw [h1] at h
    obtain ⟨a1, a2, a3, -⟩ := rdT_ok (Nat.zero_le _) h1
    by_cases he : sk T q = T.length
    · simp only [if_pos he] at h
      cases h
      exact ⟨a3, a2⟩
    · simp only [if_neg he] at h
      cases h
theorem lc269 : lnC 269 = 60 := rfl
theorem lc270 : lnC 270 = 60 := rfl
theorem RO.sp {R : mR} (h : RO R) : TO R 268 60 := ⟨h.f (by decide), h.f (by decide), rfl, rfl, by decide⟩
theorem RO.bt {R : mR} (h : RO R) : TO R 264 60 := ⟨h.f (by decide), h.f (by decide), rfl, rfl, by decide⟩
theorem readWC_ok {T : List Int32} {R : mR} {I : mI} (hRO : RO R) (hT : T.length ≤ 120) (h4 : TxC I T) :
    ∃ I', FrB 268 I' I ∧ ((∃ q, rdW T = Sum.inl q ∧ f_X2_readWhole 243 268 I R = some (0, I') ∧ I' 243 3 = nI q) ∨ (∃ l, rdW T = Sum.inr l ∧ f_X2_readWhole 243 268 I R = some (1, I') ∧ TmC I' 268 l)) := by
  have F0 : FrB 268 (u2 I 243 3 0) I := ⟨fun x _ _ _ x2 _ => by rw [u2_n _ _ _ x2], fun k x _ => by rw [u2_o _ _ _ x]⟩
  have hro : RtO 268 := Or.inr (by decide)
  obtain ⟨I1, G1, e1⟩ := readC_ok hRO.rd hT hRO.sp hro (most := 60) (Nat.le_refl _) 3 3 (p := 0) (Nat.zero_le _) (h4.frB hro F0) (by rw [u2_e]; rfl)
  have F1 : FrB 268 I1 I := G1.trans F0
  unfold f_X2_readWhole rdW
  simp only [bnd]
  rcases e1 with ⟨q, g1, g2, g3⟩ | ⟨q, l, g1, g2, g3, g4⟩
  · rw [show (60 : Int32) = nI 60 from rfl, g2, bd2_s, if_pos rfl, g1]
    exact ⟨I1, F1, Or.inl ⟨q, rfl, rfl, g3⟩⟩
  · obtain ⟨a1, a2, a3, -⟩ := rdT_ok (Nat.zero_le _) g1
    obtain ⟨I2, f1, f2, f3⟩ := skipC_ok hRO.rd hT a1 (h4.frB hro F1) g3
    have F2 : FrB 268 I2 I := (f3.b 268).trans F1
    have hsl := sk_le a1
    rw [show (60 : Int32) = nI 60 from rfl, g2, bd2_s, if_neg n10, g1, f1, bd1_s, f2, (h4.frB hro F2).1]
    by_cases he : sk T q = T.length
    · simp only [if_pos he]
      rw [if_pos (by rw [he])]
      exact ⟨I2, F2, Or.inr ⟨l, rfl, rfl, g4.cong (f3.1 _ (by decide)) (f3.1 _ (by decide)) (f3.1 _ (by decide))⟩⟩
    · simp only [if_neg he]
      rw [if_neg (fun q => he (nI_inj (by omega) (by omega) q))]
      exact ⟨I2, F2, Or.inl ⟨sk T q, rfl, rfl, f2⟩⟩
