/-! ===== the class fills its rows, all of them ===== -/
def BkR (I : mI) (rs : List Ru) : Prop := CkC I (callsS rs) ∧ ∀ d, d < nCl rs → I 251 d = (rgS rs).1 d
theorem BkR.cong {I I' : mI} {rs : List Ru} (h : BkR I rs) (h0 : I' 248 = I 248) (h1 : I' 249 = I 249) (h2 : I' 250 = I 250) (h3 : I' 251 = I 251) : BkR I' rs := by
  unfold BkR CkC
  rw [h0, h1, h2, h3]
  exact h
theorem BkR.sc {I I' : mI} {rs : List Ru} (h : BkR I rs) (hf : FrSc I' I) : BkR I' rs := h.cong (hf.1 _ (by decide) (by decide) (by decide) (by decide)) (hf.1 _ (by decide) (by decide) (by decide) (by decide)) (hf.1 _ (by decide) (by decide) (by decide) (by decide)) (hf.1 _ (by decide) (by decide) (by decide) (by decide))
theorem fwC_L {R : mR} {rs : List Ru} {k l m : Nat} {x : Int32} (hR : RO R) (hr : RsOK rs) (hk : k ≤ 3) (hl : l ≤ 3) (hm : m ≤ 3) :
    ∀ (z n r : Nat) (I : mI) (qs : List Rq), rs.length - r = z → z < n → r ≤ rs.length → NoC I R rs → (¬ x = -1 → BkR I rs) → RwC I k l m qs → qs.length ≤ 13 * r →
      ∃ I', FrSc I' I ∧ (((rqA rs x z r).all (xyOK k l m) = true ∧ f_X4_fillRows_L8 n 256 1 248 x (nI k) (nI l) (nI m) (nI r) I R = some (Sum.inr I') ∧ RwC I' k l m (qs ++ rqA rs x z r)) ∨ ((rqA rs x z r).all (xyOK k l m) = false ∧ f_X4_fillRows_L8 n 256 1 248 x (nI k) (nI l) (nI m) (nI r) I R = some (Sum.inl (0, I')))) := by
  have h60 : nCl rs ≤ 60 := callsS_len hr
  have hr5 := hr.1
  have hS := hR.sc
  obtain ⟨s0, s1, s2, s3, s5, s6⟩ := hR.now
  intro z
  induction z with
  | zero =>
    intro n r I qs g1 g2 g3 g4 g5 g6 g7
    obtain ⟨n, rfl⟩ : ∃ y, n = y + 1 := ⟨n - 1, by omega⟩
    refine ⟨I, FrSc.rfl' I, Or.inl ⟨rfl, ?_, by rw [show rqA rs x 0 r = [] from rfl, List.append_nil]; exact g6⟩⟩
    rw [f_X4_fillRows_L8, g4.1, if_pos (nI_le (by omega) (by omega))]
  | succ z ih =>
    intro n r I qs g1 g2 g3 g4 g5 g6 g7
    obtain ⟨n, rfl⟩ : ∃ y, n = y + 1 := ⟨n - 1, by omega⟩
    have hrl : r < rs.length := by omega
    obtain ⟨z1, z2, z3⟩ := s5 r (by omega)
    have hu := hr.get hrl
    obtain ⟨I1, I2, e1, e2, e3, e4, e5, e6⟩ := ct2_ok (k := k) (l := l) (m := m) hS z1 hu (g4.2 r hrl)
    have F2 : FrSc I2 I := ⟨fun a x y z _ => e6 a y z, fun w _ => by rw [e6 256 (by decide) (by decide)]⟩
    have g62 : RwC I2 k l m qs := by
      unfold RwC
      rw [e6 256 (by decide) (by decide), e6 261 (by decide) (by decide)]
      exact g6
    have h12 := cqF_12 hr (x := x) hrl
    rw [f_X4_fillRows_L8]
    simp only [bnd_e]
    rw [g4.1, if_neg (nI_ge hrl (by omega)), s0, s2, if_pos (inb_nI (by omega) (by omega)), nI_clamp (by omega), hS.1, hS.2.1, z1.1, z1.2.1, e1, bd1_s, e2, bd1_s, rqA_s, nI_1 r]
    have go : ∀ (I3 : mI) (qs' : List Rq), FrSc I3 I → RwC I3 k l m (qs ++ qs') → qs'.length ≤ 13 → ∃ I', FrSc I' I ∧ (((rqA rs x z (r + 1)).all (xyOK k l m) = true ∧ f_X4_fillRows_L8 n 256 1 248 x (nI k) (nI l) (nI m) (nI (r + 1)) I3 R = some (Sum.inr I') ∧ RwC I' k l m (qs ++ (qs' ++ rqA rs x z (r + 1)))) ∨ ((rqA rs x z (r + 1)).all (xyOK k l m) = false ∧ f_X4_fillRows_L8 n 256 1 248 x (nI k) (nI l) (nI m) (nI (r + 1)) I3 R = some (Sum.inl (0, I')))) := by
      intro I3 qs' f1 f2 f3
      obtain ⟨I', k1, k2⟩ := ih n (r + 1) I3 (qs ++ qs') (by omega) (by omega) (by omega) (g4.cong hR hr5 (fun a ha => f1.1 a (by omega) (by omega) (by omega) (by omega))) (fun hx => (g5 hx).sc f1) f2 (by rw [List.length_append]; omega)
      rw [List.append_assoc] at k2
      exact ⟨I', k1.trans f1, k2⟩
    have hz : f_X4_addRow 256 0 0 I2 R = f_X4_addRow 256 (nI 0) (nI 0) I2 R := rfl
    have ho : f_X4_addRow 256 0 1 I2 R = f_X4_addRow 256 (nI 0) (nI 1) I2 R := rfl
    by_cases hx : x = -1
    · rw [if_pos hx, if_pos hx, ho, List.all_append, List.all_cons, List.all_nil, Bool.and_true]
      obtain ⟨I3, G3, f1⟩ := arC_ok (q := (rs.getD r dRu, 0, 1)) hS hk hl hm ⟨hu, hu.2.1.pos, Nat.le_refl _⟩ (by omega) e3 e4 g62
      have F3 : FrSc I3 I := G3.sc.trans F2
      rcases f1 with ⟨k1, k2, k3⟩ | ⟨k1, k2⟩
      · have k2' : f_X4_addRow 256 (nI 0) (nI 1) I2 R = some (1, I3) := k2
        rw [k2', bd2_s, if_neg n10, if_pos hx, k1, Bool.true_and]
        exact go I3 [(rs.getD r dRu, 0, 1)] F3 k3 (by rw [List.length_singleton]; omega)
      · have k2' : f_X4_addRow 256 (nI 0) (nI 1) I2 R = some (0, I3) := k2
        rw [k2', bd2_s, if_pos rfl, k1, Bool.false_and]
        exact ⟨I3, F3, Or.inr ⟨rfl, rfl⟩⟩
    · rw [if_neg hx, if_neg hx, hz, List.all_append, List.all_cons]
      obtain ⟨I3, G3, f1⟩ := arC_ok (q := (rs.getD r dRu, 0, 0)) hS hk hl hm ⟨hu, hu.2.1.pos, Nat.zero_le _⟩ (by omega) e3 e4 g62
      have F3 : FrSc I3 I := G3.sc.trans F2
      rcases f1 with ⟨k1, k2, k3⟩ | ⟨k1, k2⟩
      · have k2' : f_X4_addRow 256 (nI 0) (nI 0) I2 R = some (1, I3) := k2
        have hb := (g5 hx).sc F3
        obtain ⟨I4, G4, m1⟩ := acC_L (x := x) hR hr hk hl hm hrl (nCl rs) FU 0 I3 (qs ++ [(rs.getD r dRu, 0, 0)]) (by omega) (by rw [FU_eq]; omega) (by omega) hb.1 hb.2 (fun p i a b cc => by rw [G3.1 258 (by decide) (by decide)]; exact e3 p i a b cc) (fun p i a b cc => by rw [G3.1 260 (by decide) (by decide)]; exact e4 p i a b cc) k3 (by rw [List.length_append, List.length_singleton]; omega)
        have F4 : FrSc I4 I := G4.sc.trans F3
        rw [k2', bd2_s, if_neg n10, if_neg hx, k1, Bool.true_and]
        rw [nI0] at m1
        rcases m1 with ⟨o1, o2, o3⟩ | ⟨o1, o2⟩
        · have o2' : f_X4_addCallRows 256 248 x (nI r) I3 R = some (1, I4) := by unfold f_X4_addCallRows; rw [o2]; rfl
          rw [o2', bd2_s, if_neg n10, o1, Bool.true_and]
          rw [List.append_assoc] at o3
          exact go I4 ((rs.getD r dRu, 0, 0) :: cqF rs x r (nCl rs) 0) F4 o3 (by rw [List.length_cons]; omega)
        · have o2' : f_X4_addCallRows 256 248 x (nI r) I3 R = some (0, I4) := by unfold f_X4_addCallRows; rw [o2]; rfl
          rw [o2', bd2_s, if_pos rfl, o1, Bool.false_and]
          exact ⟨I4, F4, Or.inr ⟨rfl, rfl⟩⟩
      · have k2' : f_X4_addRow 256 (nI 0) (nI 0) I2 R = some (0, I3) := k2
        rw [k2', bd2_s, if_pos rfl, k1, Bool.false_and, Bool.false_and]
        exact ⟨I3, F3, Or.inr ⟨rfl, rfl⟩⟩
theorem fwC_ok {R : mR} {rs : List Ru} {k l m : Nat} {x : Int32} (hR : RO R) (hr : RsOK rs) (hk : k ≤ 3) (hl : l ≤ 3) (hm : m ≤ 3) {I : mI} (g4 : NoC I R rs) (g5 : ¬ x = -1 → BkR I rs) :
    ∃ I', FrSc I' I ∧ (((rqS rs x).all (xyOK k l m) = true ∧ f_X4_fillRows 256 1 248 x (nI k) (nI l) (nI m) I R = some (1, I') ∧ RwC I' k l m (rqS rs x)) ∨ ((rqS rs x).all (xyOK k l m) = false ∧ f_X4_fillRows 256 1 248 x (nI k) (nI l) (nI m) I R = some (0, I'))) := by
  have hr5 := hr.1
  have F0 : FrSc (u2 I 256 4 0) I := ⟨fun a x _ _ _ => by rw [u2_n _ _ _ x], fun w hw => by rw [u2_o _ _ _ hw]⟩
  obtain ⟨I1, G1, e1⟩ := fwC_L (x := x) hR hr hk hl hm rs.length FU 0 (u2 I 256 4 0) [] (by omega) (by rw [FU_eq]; omega) (by omega) (g4.cong hR hr5 (fun a ha => by rw [u2_n _ _ _ (by omega)])) (fun hx => (g5 hx).sc F0) ⟨by rw [u2_e]; rfl, fun i hi => by cases hi⟩ (Nat.zero_le _)
  rw [nI0, List.nil_append] at e1
  refine ⟨I1, G1.trans F0, ?_⟩
  unfold f_X4_fillRows rqS
  simp only [bnd_e]
  rcases e1 with ⟨k1, k2, k3⟩ | ⟨k1, k2⟩
  · rw [k2]
    exact Or.inl ⟨k1, rfl, k3⟩
  · rw [k2]
    exact Or.inr ⟨k1, rfl⟩
