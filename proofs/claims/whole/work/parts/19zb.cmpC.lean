/-! ===== comparing: the class ===== -/
def FrSc (I' I : mI) : Prop := (∀ a, a ≠ 256 → a ≠ 258 → a ≠ 260 → a ≠ 261 → I' a = I a) ∧ ∀ x, x ≠ 4 → I' 256 x = I 256 x
theorem FrSc.rfl' (I : mI) : FrSc I I := ⟨fun _ _ _ _ _ => rfl, fun _ _ => rfl⟩
theorem FrSc.trans {I I' I'' : mI} (h : FrSc I'' I') (h' : FrSc I' I) : FrSc I'' I := ⟨fun a x y z w => (h.1 a x y z w).trans (h'.1 a x y z w), fun k x => (h.2 k x).trans (h'.2 k x)⟩
theorem FrRw.sc {I I' : mI} (h : FrRw I' I) : FrSc I' I := ⟨fun a x _ _ w => h.1 a x w, h.2⟩
/-- both sides counted -/
theorem ct2_ok {R : mR} {q0 k l m : Nat} {u : Ru} (hS : ScO R) (hQ : QO R q0) (hu : RuOK u) {I : mI} (h : RuC I q0 u) : ∃ I1 I2, f_X6_countIn 257 (q0 + 1) (nI k) (nI l) (nI m) I R = some I1 ∧ f_X6_countIn 259 (q0 + 4) (nI k) (nI l) (nI m) I1 R = some I2 ∧ TiC I2 258 0 u.1.length (cv k l m u.1) ∧ TiC I2 260 0 u.2.length (cv k l m u.2) ∧ (∀ a, a ≠ 258 → I1 a = I a) ∧ ∀ a, a ≠ 258 → a ≠ 260 → I2 a = I a := by
  obtain ⟨s0, s1, s2, s3, s4, s5⟩ := hS
  obtain ⟨q1, q2, q3, q4, q5⟩ := hQ
  obtain ⟨I1, e1, e2, e3⟩ := ciC_ok (k := k) (l := l) (m := m) s4 lc258 q3 hu.2.2.1 hu.1 (by omega) h.1
  obtain ⟨I2, f1, f2, f3⟩ := ciC_ok (k := k) (l := l) (m := m) s5 lc260 q4 hu.2.2.2.1 hu.2.1 (by omega) (I := I1) (h.2.cong (e3 _ (by omega)) (e3 _ (by omega)) (e3 _ (by omega)))
  exact ⟨I1, I2, e1, f1, fun p i a b c => by rw [f3 258 (by decide)]; exact e2 p i a b c, f2, e3, fun a x y => by rw [f3 a y, e3 a x]⟩
theorem csC_ok {R : mR} {q0 : Nat} {u : Ru} {F : Nat → Nat} (hS : ScO R) (hQ : QO R q0) (hu : RuOK u) {I : mI} (h : RuC I q0 u) (hF : ∀ i, i < 7 → F i ≤ 3) (hf : ∀ i, i < 7 → I 271 i = nI (F i)) :
    ∃ I', f_X4_compareSides 256 q0 271 I R = some (cmpS (phi F (cv (F 4) (F 5) (F 6) u.1 0)) (phi F (cv (F 4) (F 5) (F 6) u.2 0)), I') ∧ FrSc I' I := by
  have hQ' := hQ
  obtain ⟨q1, q2, q3, q4, q5⟩ := hQ'
  obtain ⟨I1, I2, e1, e2, e3, e4, e5, e6⟩ := ct2_ok (k := F 4) (l := F 5) (m := F 6) hS hQ hu h
  have h4 := hF 4 (by decide)
  have h5 := hF 5 (by decide)
  have h6 := hF 6 (by decide)
  have F3 : FrSc (u2 I2 256 4 0) I := ⟨fun a x y z _ => by rw [u2_n _ _ _ x, e6 a y z], fun x hx => by rw [u2_o _ _ _ hx, e6 256 (by decide) (by decide)]⟩
  have hrq : RqOK (u, 0, 1) := ⟨hu, hu.2.1.pos, Nat.le_refl _⟩
  have ti : ∀ a, a ≠ 256 → u2 I2 256 4 0 a = I2 a := fun a ha => by rw [u2_n _ _ _ ha]
  obtain ⟨I3, G3, f1⟩ := arC_ok (q := (u, 0, 1)) (qs := []) hS h4 h5 h6 hrq (by decide) (I := u2 I2 256 4 0) (fun p i x y z => by rw [ti 258 (by decide)]; exact e3 p i x y z) (fun p i x y z => by rw [ti 260 (by decide)]; exact e4 p i x y z) ⟨by rw [u2_e]; rfl, fun i hi => by cases hi⟩
  have F4 : FrSc I3 I := G3.sc.trans F3
  have fg : ∀ i, i < 7 → I3 271 i = nI (F i) := fun i hi => by rw [F4.1 271 (by decide) (by decide) (by decide) (by decide)]; exact hf i hi
  unfold f_X4_compareSides
  simp only [bnd_e]
  rw [lc271, if_pos (show inb 4 7 = true from rfl), if_pos (show inb 5 7 = true from rfl), if_pos (show inb 6 7 = true from rfl), show (4 : Int32).toNatClampNeg = 4 from rfl, show (5 : Int32).toNatClampNeg = 5 from rfl, show (6 : Int32).toNatClampNeg = 6 from rfl, hf 4 (by decide), hf 5 (by decide), hf 6 (by decide), hS.1, hS.2.1, q1, q2, e1, bd1_s, e5 271 (by decide), hf 4 (by decide), hf 5 (by decide), hf 6 (by decide), e2, bd1_s]
  rw [show f_X4_addRow 256 0 1 (u2 I2 256 4 0) R = f_X4_addRow 256 (nI 0) (nI 1) (u2 I2 256 4 0) R from rfl]
  have bL := dot_le (F := F) (v := cv (F 4) (F 5) (F 6) u.1 0) (fun i hi => hF i (by omega)) (fun j => cv_le h4 h5 h6 hu.2.2.1 0 j)
  have bR := dot_le (F := F) (v := cv (F 4) (F 5) (F 6) u.2 0) (fun i hi => hF i (by omega)) (fun j => cv_le h4 h5 h6 hu.2.2.2.1 0 j)
  rcases f1 with ⟨g1, g2, g3⟩ | ⟨g1, g2⟩
  · have hxy := of_decide_eq_true g1
    have hsr := srC_ok hS (show ([] ++ [(u, 0, 1)] : List Rq).length ≤ 65 by simp) g3 F (i := 0) (show 0 < ([] ++ [(u, 0, 1)] : List Rq).length by simp)
    have hsr' : f_X4_sumOfRow 256 0 (nI (F 0)) (nI (F 1)) (nI (F 2)) (nI (F 3)) I3 R = some (nI (dotF F (cv (F 4) (F 5) (F 6) u.1 0)) - nI (dotF F (cv (F 4) (F 5) (F 6) u.2 0))) := hsr
    have g2' : f_X4_addRow 256 (nI 0) (nI 1) (u2 I2 256 4 0) R = some (1, I3) := g2
    rw [g2', bd2_s, if_neg n10, if_pos (show inb 0 7 = true from rfl), if_pos (show inb 1 7 = true from rfl), if_pos (show inb 2 7 = true from rfl), if_pos (show inb 3 7 = true from rfl), i0, t1, t2, show (3 : Int32).toNatClampNeg = 3 from rfl, fg 0 (by decide), fg 1 (by decide), fg 2 (by decide), fg 3 (by decide), hsr', bd1_s]
    refine ⟨I3, ?_, F4⟩
    have hxy4 : cv (F 4) (F 5) (F 6) u.2 0 4 ≤ cv (F 4) (F 5) (F 6) u.1 0 4 := hxy.1
    have hxy5 : cv (F 4) (F 5) (F 6) u.2 0 5 ≤ cv (F 4) (F 5) (F 6) u.1 0 5 := hxy.2
    unfold cmpS
    rw [phi_1, phi_1, if_neg (show ¬ ((phi F (cv (F 4) (F 5) (F 6) u.1 0)).2.1 < (phi F (cv (F 4) (F 5) (F 6) u.2 0)).2.1 ∨ (phi F (cv (F 4) (F 5) (F 6) u.1 0)).2.2 < (phi F (cv (F 4) (F 5) (F 6) u.2 0)).2.2) from fun w => by
      rcases w with w | w
      · have : cv (F 4) (F 5) (F 6) u.1 0 4 < cv (F 4) (F 5) (F 6) u.2 0 4 := w
        omega
      · have : cv (F 4) (F 5) (F 6) u.1 0 5 < cv (F 4) (F 5) (F 6) u.2 0 5 := w
        omega)]
    generalize dotF F (cv (F 4) (F 5) (F 6) u.1 0) = X at *
    generalize dotF F (cv (F 4) (F 5) (F 6) u.2 0) = Y at *
    have s1 : nI X - nI Y ≤ 0 ↔ X ≤ Y := by
      rw [Int32.le_iff_toInt_le, sub_toInt (by omega) (by omega), show (0 : Int32).toInt = 0 from rfl]
      omega
    have s2 : nI X - nI Y = 0 ↔ X = Y := by
      rw [← Int32.toInt_inj, sub_toInt (by omega) (by omega), show (0 : Int32).toInt = 0 from rfl]
      omega
    by_cases c1 : X ≤ Y
    · rw [if_pos (s1.mpr c1)]
      by_cases c2 : X = Y
      · rw [if_pos (s2.mpr c2), if_neg (by omega), if_pos c2]
      · rw [if_neg (fun w => c2 (s2.mp w)), if_pos (by omega)]
    · rw [if_neg (fun w => c1 (s1.mp w)), if_neg (by omega), if_neg (by omega)]
  · have hxy := of_decide_eq_false g1
    have g2' : f_X4_addRow 256 (nI 0) (nI 1) (u2 I2 256 4 0) R = some (0, I3) := g2
    rw [g2', bd2_s, if_pos rfl]
    refine ⟨I3, ?_, F4⟩
    unfold cmpS
    rw [if_pos (show (phi F (cv (F 4) (F 5) (F 6) u.1 0)).2.1 < (phi F (cv (F 4) (F 5) (F 6) u.2 0)).2.1 ∨ (phi F (cv (F 4) (F 5) (F 6) u.1 0)).2.2 < (phi F (cv (F 4) (F 5) (F 6) u.2 0)).2.2 from by
      have h : ¬ (cv (F 4) (F 5) (F 6) u.2 0 4 ≤ cv (F 4) (F 5) (F 6) u.1 0 4 ∧ cv (F 4) (F 5) (F 6) u.2 0 5 ≤ cv (F 4) (F 5) (F 6) u.1 0 5) := hxy
      by_cases hc : cv (F 4) (F 5) (F 6) u.2 0 4 ≤ cv (F 4) (F 5) (F 6) u.1 0 4
      · right
        show cv (F 4) (F 5) (F 6) u.1 0 5 < cv (F 4) (F 5) (F 6) u.2 0 5
        exact Nat.lt_of_not_le (fun w => h ⟨hc, w⟩)
      · left
        show cv (F 4) (F 5) (F 6) u.1 0 4 < cv (F 4) (F 5) (F 6) u.2 0 4
        omega)]
