/-! ===== rows to be met: the class ===== -/
abbrev Rq : Type := Ru × Nat × Nat
def dRq : Rq := (dRu, 0, 0)
def rqL (k l m : Nat) (q : Rq) : Nat → Nat := cv k l m q.1.1 0
def rqR (k l m : Nat) (q : Rq) : Nat → Nat := cv k l m q.1.2 q.2.1
def xyOK (k l m : Nat) (q : Rq) : Bool := decide (rqR k l m q 4 ≤ rqL k l m q 4 ∧ rqR k l m q 5 ≤ rqL k l m q 5)
def RqOK (q : Rq) : Prop := RuOK q.1 ∧ q.2.1 < q.1.2.length ∧ q.2.2 ≤ 1
def ScO (R : mR) : Prop := R 256 0 = 257 ∧ R 256 1 = 259 ∧ R 256 2 = 261 ∧ R 256 3 = 262 ∧ R 257 0 = 258 ∧ R 259 0 = 260
theorem RO.sc {R : mR} (h : RO R) : ScO R := ⟨h.f (by decide), h.f (by decide), h.f (by decide), h.f (by decide), h.f (by decide), h.f (by decide)⟩
theorem lc258 : lnC 258 = 72 := rfl
theorem lc260 : lnC 260 = 72 := rfl
theorem lc261 : lnC 261 = 325 := rfl
def RwC (I : mI) (k l m : Nat) (qs : List Rq) : Prop := I 256 4 = nI qs.length ∧ ∀ i, i < qs.length → (∀ j, j < 4 → I 261 (i * 5 + j) = nI (rqL k l m (qs.getD i dRq) j) - nI (rqR k l m (qs.getD i dRq) j)) ∧ I 261 (i * 5 + 4) = nI (qs.getD i dRq).2.2
def FrRw (I' I : mI) : Prop := (∀ a, a ≠ 256 → a ≠ 261 → I' a = I a) ∧ ∀ x, x ≠ 4 → I' 256 x = I 256 x
theorem FrRw.trans {I I' I'' : mI} (h : FrRw I'' I') (h' : FrRw I' I) : FrRw I'' I := ⟨fun a x y => (h.1 a x y).trans (h'.1 a x y), fun k x => (h.2 k x).trans (h'.2 k x)⟩
theorem ar99_L {R : mR} {x2 : Int32} {P Q : Nat} {A B : Nat → Nat} (hS : ScO R) (hP : P + 4 ≤ 72) (hQ : Q + 4 ≤ 325) :
    ∀ (z n j : Nat) (I : mI), 4 - j = z → z < n → j ≤ 4 → (∀ i, i < 4 → I 258 i = nI (A i)) → (∀ i, i < 4 → I 260 (P + i) = nI (B i)) → (∀ i, i < j → I 261 (Q + i) = nI (A i) - nI (B i)) → ∃ I', f_X4_addRow_L99 n 256 x2 (nI P) (nI Q) (nI j) I R = some I' ∧ (∀ i, i < 4 → I' 261 (Q + i) = nI (A i) - nI (B i)) ∧ (∀ i, (i < Q ∨ Q + 4 ≤ i) → I' 261 i = I 261 i) ∧ ∀ a, a ≠ 261 → I' a = I a := by
  obtain ⟨s0, s1, s2, s3, s4, s5⟩ := hS
  intro z
  induction z with
  | zero =>
    intro n j I g1 g2 g3 g4 g5 g6
    obtain ⟨n, rfl⟩ : ∃ x, n = x + 1 := ⟨n - 1, by omega⟩
    refine ⟨I, ?_, fun i hi => g6 i (by omega), fun _ _ => rfl, fun _ _ => rfl⟩
    rw [f_X4_addRow_L99, show (4 : Int32) = nI 4 from rfl, if_pos (nI_le (by omega) (by omega))]
  | succ z ih =>
    intro n j I g1 g2 g3 g4 g5 g6
    obtain ⟨n, rfl⟩ : ∃ x, n = x + 1 := ⟨n - 1, by omega⟩
    have hc : ¬ (4 : Int32) ≤ nI j := by rw [show (4 : Int32) = nI 4 from rfl]; exact nI_ge (by omega) (by omega)
    rw [f_X4_addRow_L99]
    simp only [bnd_e]
    rw [if_neg hc, s0, s1, s2, s4, s5, lc258, lc260, lc261, nI_add, nI_add, if_pos (inb_nI (by omega) (by omega)), if_pos (inb_nI (by omega) (by omega)), if_pos (inb_nI (by omega) (by omega)), nI_clamp (show j < 2 ^ 31 by omega), nI_clamp (show P + j < 2 ^ 31 by omega), nI_clamp (show Q + j < 2 ^ 31 by omega), g4 j (by omega), g5 j (by omega), nI_1 j]
    obtain ⟨I', e1, e2, e3, e4⟩ := ih n (j + 1) (u2 I 261 (Q + j) (nI (A j) - nI (B j))) (by omega) (by omega) (by omega) (fun i hi => by rw [u2_n _ _ _ (by decide)]; exact g4 i hi) (fun i hi => by rw [u2_n _ _ _ (by decide)]; exact g5 i hi) (fun i hi => by
      by_cases he : i = j
      · rw [he, u2_e]
      · rw [u2_o _ _ _ (by omega)]; exact g6 i (by omega))
    exact ⟨I', e1, e2, fun i hi => by rw [e3 i hi, u2_o _ _ _ (by omega)], fun a ha => by rw [e4 a ha, u2_n _ _ _ ha]⟩
theorem n5 (p i : Nat) : nI p * (5 : Int32) + nI i = nI (p * 5 + i) := by rw [show (5 : Int32) = nI 5 from rfl, pk_mul, nI_add]
theorem n5' (p : Nat) : nI p * (5 : Int32) = nI (p * 5) := by rw [show (5 : Int32) = nI 5 from rfl, pk_mul]
theorem n6' (p : Nat) : nI p * (6 : Int32) = nI (p * 6) := by rw [show (6 : Int32) = nI 6 from rfl, pk_mul]
theorem arC_ok {R : mR} {k l m : Nat} (hS : ScO R) (hk : k ≤ 3) (hl : l ≤ 3) (hm : m ≤ 3) {q : Rq} (hq : RqOK q) {qs : List Rq} (hqs : qs.length < 65) {I : mI} (g1 : TiC I 258 0 q.1.1.length (cv k l m q.1.1)) (g2 : TiC I 260 0 q.1.2.length (cv k l m q.1.2)) (g3 : RwC I k l m qs) :
    ∃ I', FrRw I' I ∧ ((xyOK k l m q = true ∧ f_X4_addRow 256 (nI q.2.1) (nI q.2.2) I R = some (1, I') ∧ RwC I' k l m (qs ++ [q])) ∨ (xyOK k l m q = false ∧ f_X4_addRow 256 (nI q.2.1) (nI q.2.2) I R = some (0, I'))) := by
  have hS' := hS
  obtain ⟨s0, s1, s2, s3, s4, s5⟩ := hS
  obtain ⟨hu, hp, hw⟩ := hq
  have h12 := hu.2.2.2.1
  have hlp := hu.1.pos
  have L : ∀ i, i < 6 → I 258 i = nI (rqL k l m q i) := fun i hi => by
    have := g1 0 i (Nat.le_refl _) hlp hi
    rw [Nat.zero_mul, Nat.zero_add] at this
    exact this
  have Rr : ∀ i, i < 6 → I 260 (q.2.1 * 6 + i) = nI (rqR k l m q i) := fun i hi => g2 q.2.1 i (Nat.zero_le _) hp hi
  have bL : ∀ i, rqL k l m q i ≤ 16777216 := fun i => cv_le hk hl hm hu.2.2.1 0 i
  have bR : ∀ i, rqR k l m q i ≤ 16777216 := fun i => cv_le hk hl hm h12 q.2.1 i
  have l4 := bL 4
  have l5 := bL 5
  have r4 := bR 4
  have r5 := bR 5
  unfold f_X4_addRow
  simp only [bnd_e]
  rw [n6', if_neg (nI_pos (by omega)), s0, s1, s2, s4, s5, lc258, lc260, lc261, show (6 : Int32) = nI 6 from rfl, show (4 : Int32) = nI 4 from rfl, show (5 : Int32) = nI 5 from rfl, nI_add, nI_add, nI_add, if_pos (nI_le (show q.2.1 * 6 + 6 ≤ 72 by omega) (by omega)), if_pos (inb_nI (by omega) (by omega)), if_pos (inb_nI (by omega) (by omega)), if_pos (inb_nI (by omega) (by omega)), if_pos (inb_nI (by omega) (by omega)), nI_clamp (show 4 < 2 ^ 31 by omega), nI_clamp (show 5 < 2 ^ 31 by omega), nI_clamp (show q.2.1 * 6 + 4 < 2 ^ 31 by omega), nI_clamp (show q.2.1 * 6 + 5 < 2 ^ 31 by omega), L 4 (by omega), L 5 (by omega), Rr 4 (by omega), Rr 5 (by omega)]
  unfold xyOK
  by_cases c1 : rqR k l m q 4 ≤ rqL k l m q 4
  · rw [if_neg (nI_nlt (by omega) (by omega))]
    by_cases c2 : rqR k l m q 5 ≤ rqL k l m q 5
    · rw [if_pos (nI_le c2 (by omega)), g3.1, ← show (5 : Int32) = nI 5 from rfl, n5', show (5 : Int32) = nI 5 from rfl, nI_add, nI_add, if_pos (nI_le (show qs.length * 5 + 5 ≤ 325 by omega) (by omega))]
      obtain ⟨I1, e1, e2, e3, e4⟩ := ar99_L (x2 := nI q.2.2) (P := q.2.1 * 6) (Q := qs.length * 5) (A := rqL k l m q) (B := rqR k l m q) hS' (by omega) (by omega) 4 FU 0 I (by omega) (by rw [FU_eq]; omega) (by omega) (fun i hi => L i (by omega)) (fun i hi => Rr i (by omega)) (fun i hi => by omega)
      rw [nI0] at e1
      rw [e1, bd1_s, if_pos (inb_nI (by omega) (by omega)), nI_clamp (show qs.length * 5 + 4 < 2 ^ 31 by omega), u2_n _ _ _ (show (256 : Nat) ≠ 261 by decide), e4 256 (by decide), g3.1, nI_1]
      generalize hJ : u2 (u2 I1 261 (qs.length * 5 + 4) (nI q.2.2)) 256 4 (nI (qs.length + 1)) = J
      have FJ : FrRw J I := ⟨fun a x y => by rw [← hJ, u2_n _ _ _ x, u2_n _ _ _ y, e4 a y], fun x hx => by rw [← hJ, u2_o _ _ _ hx, u2_n _ _ _ (by decide), e4 256 (by decide)]⟩
      have J1 : J 261 = u2 I1 261 (qs.length * 5 + 4) (nI q.2.2) 261 := by rw [← hJ, u2_n _ _ _ (by decide)]
      refine ⟨J, FJ, Or.inl ⟨decide_eq_true ⟨c1, c2⟩, rfl, by rw [← hJ, u2_e, List.length_append]; rfl, fun i hi => ?_⟩⟩
      rw [List.length_append, List.length_singleton] at hi
      rw [J1]
      by_cases he : i = qs.length
      · rw [he, gD_app_e, u2_e]
        exact ⟨fun j hj => by rw [u2_o _ _ _ (by omega)]; exact e2 j hj, rfl⟩
      · rw [gD_app_l _ (by omega), u2_o _ _ _ (by omega), e3 _ (by omega)]
        exact ⟨fun j hj => by rw [u2_o _ _ _ (by omega), e3 _ (by omega)]; exact (g3.2 i (by omega)).1 j hj, (g3.2 i (by omega)).2⟩
    · rw [if_neg (nI_ge (by omega) (by omega))]
      exact ⟨I, ⟨fun _ _ _ => rfl, fun _ _ => rfl⟩, Or.inr ⟨decide_eq_false (fun w => c2 w.2), rfl⟩⟩
  · rw [if_pos (nI_lt (by omega) (by omega))]
    exact ⟨I, ⟨fun _ _ _ => rfl, fun _ _ => rfl⟩, Or.inr ⟨decide_eq_false (fun w => c1 w.1), rfl⟩⟩
