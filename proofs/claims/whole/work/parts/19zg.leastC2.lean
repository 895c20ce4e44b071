/-! ===== the least weights: the class ===== -/
/-- the weights do what is asked of them -/
def okA (rs : List Ru) (x : Int32) (a b c d k l m : Nat) : Prop := (rqS rs x).all (xyOK k l m) = true ∧ (rqS rs x).all (rowOK (fg a b c d k l m) k l m) = true
def Blk (rs : List Ru) (x : Int32) (top k l m : Nat) (N : Nat) : Prop := ∃ a b c d, a ≤ top ∧ b ≤ top ∧ c ≤ top ∧ d ≤ top ∧ okA rs x a b c d k l m ∧ N = 1000 * nm a b c d + (100 * k + 10 * l + m)
theorem Blk.lt {rs : List Ru} {x : Int32} {top k l m N : Nat} (ht : top ≤ 3) (hk : k ≤ 3) (hl : l ≤ 3) (hm : m ≤ 3) (h : Blk rs x top k l m N) : N < 10000000 := by
  obtain ⟨a, b, c, d, h1, h2, h3, h4, _, h5⟩ := h
  unfold nm at h5
  omega
theorem MtC_ok {R : mR} {k l m top : Nat} (hS : ScO R) (hk : k ≤ 3) (hl : l ≤ 3) (hm : m ≤ 3) (ht : top ≤ 3) {qs : List Rq} (hq : RqsOK qs) {I : mI} (g : RwC I k l m qs) : MtC (fun X => qs.all (rowOK (fg (X / 1000) (X / 100 % 10) (X / 10 % 10) (X % 10) k l m) k l m)) top I R := by
  intro a b c d h1 h2 h3 h4
  have e := mtC_ok hS hk hl hm hq g (F := fg a b c d k l m) (fun i hi => by
    rcases (show i = 0 ∨ i = 1 ∨ i = 2 ∨ i = 3 by omega) with rfl | rfl | rfl | rfl
    · show a ≤ 3; omega
    · show b ≤ 3; omega
    · show c ≤ 3; omega
    · show d ≤ 3; omega)
  show _ = some (bi (qs.all (rowOK (fg (nm a b c d / 1000) (nm a b c d / 100 % 10) (nm a b c d / 10 % 10) (nm a b c d % 10) k l m) k l m)))
  rw [show nm a b c d / 1000 = a by unfold nm; omega, show nm a b c d / 100 % 10 = b by unfold nm; omega, show nm a b c d / 10 % 10 = c by unfold nm; omega, show nm a b c d % 10 = d by unfold nm; omega]
  exact e
theorem last_e (k l m : Nat) : (((100 : Int32) * nI k) + ((10 : Int32) * nI l)) + nI m = nI (100 * k + 10 * l + m) := by
  rw [show (100 : Int32) = nI 100 from rfl, show (10 : Int32) = nI 10 from rfl, pk_mul, pk_mul, nI_add, nI_add]
theorem lw57_L {R : mR} {rs : List Ru} {x : Int32} {low top k l : Nat} (hR : RO R) (hr : RsOK rs) (h1 : low ≤ 1) (h2 : top ≤ 3) (hk : k ≤ 3) (hl : l ≤ 3) :
    ∀ (z n m : Nat) (best : Option Nat) (Q : Nat → Prop) (I : mI), low + 3 - m = z → z < n → m ≤ low + 3 → NoC I R rs → (¬ x = -1 → BkR I rs) → (∀ N, Q N → N < 10000000) → Min Q best →
      ∃ best' I', f_X4_leastWeights_L57 n 256 1 248 x (nI low) (nI top) (bv best) (nI k) (nI l) (nI m) I R = some (bv best', I') ∧ FrSc I' I ∧ Min (fun N => Q N ∨ ∃ m', m ≤ m' ∧ m' ≤ low + 2 ∧ Blk rs x top k l m' N) best' := by
  intro z
  induction z with
  | zero =>
    intro n m best Q I g1 g2 g3 g4 g5 g6 g7
    obtain ⟨n, rfl⟩ : ∃ x, n = x + 1 := ⟨n - 1, by omega⟩
    rw [f_X4_leastWeights_L57, show (2 : Int32) = nI 2 from rfl, nI_add, if_pos (nI_lt (by omega) (by omega))]
    refine ⟨best, I, rfl, FrSc.rfl' I, g7.cong (fun N => ⟨Or.inl, ?_⟩)⟩
    rintro (w | ⟨m', k1, k2, _⟩)
    · exact w
    · omega
  | succ z ih =>
    intro n m best Q I g1 g2 g3 g4 g5 g6 g7
    obtain ⟨n, rfl⟩ : ∃ x, n = x + 1 := ⟨n - 1, by omega⟩
    have hr5 := hr.1
    have hm : m ≤ 3 := by omega
    obtain ⟨I1, F1, e1⟩ := fwC_ok (x := x) hR hr hk hl hm g4 g5
    have g4' : NoC I1 R rs := g4.cong hR hr5 (fun a ha => F1.1 a (by omega) (by omega) (by omega) (by omega))
    have g5' : ¬ x = -1 → BkR I1 rs := fun w => (g5 w).sc F1
    rw [f_X4_leastWeights_L57, show (2 : Int32) = nI 2 from rfl, nI_add, if_neg (nI_nlt (by omega) (by omega))]
    simp only [bnd_e]
    rcases e1 with ⟨k1, k2, k3⟩ | ⟨k1, k2⟩
    · rw [k2, bd2_s, if_neg (by decide), last_e]
      obtain ⟨b1, e2, e3⟩ := lbC_ok (last := 100 * k + 10 * l + m) (MtC_ok hR.sc hk hl hm h2 (rqS_ok hr x) k3) h2 (by omega) g6 g7
      have e3' : Min (fun N => Q N ∨ Blk rs x top k l m N) b1 := by
        refine e3.cong (fun N => ⟨?_, ?_⟩)
        · rintro (w | ⟨a, b, c, d, j1, j2, j3, j4, j5, j6⟩)
          · exact Or.inl w
          · refine Or.inr ⟨a, b, c, d, j1, j2, j3, j4, ⟨k1, ?_⟩, j6⟩
            have j5' : (rqS rs x).all (rowOK (fg (nm a b c d / 1000) (nm a b c d / 100 % 10) (nm a b c d / 10 % 10) (nm a b c d % 10) k l m) k l m) = true := j5
            rw [show nm a b c d / 1000 = a by unfold nm; omega, show nm a b c d / 100 % 10 = b by unfold nm; omega, show nm a b c d / 10 % 10 = c by unfold nm; omega, show nm a b c d % 10 = d by unfold nm; omega] at j5'
            exact j5'
        · rintro (w | ⟨a, b, c, d, j1, j2, j3, j4, j5, j6⟩)
          · exact Or.inl w
          · refine Or.inr ⟨a, b, c, d, j1, j2, j3, j4, ?_, j6⟩
            show (rqS rs x).all (rowOK (fg (nm a b c d / 1000) (nm a b c d / 100 % 10) (nm a b c d / 10 % 10) (nm a b c d % 10) k l m) k l m) = true
            rw [show nm a b c d / 1000 = a by unfold nm; omega, show nm a b c d / 100 % 10 = b by unfold nm; omega, show nm a b c d / 10 % 10 = c by unfold nm; omega, show nm a b c d % 10 = d by unfold nm; omega]
            exact j5.2
      rw [e2, bd1_s, nI_1 m]
      obtain ⟨b2, I2, e4, e5, e6⟩ := ih n (m + 1) b1 (fun N => Q N ∨ Blk rs x top k l m N) I1 (by omega) (by omega) (by omega) g4' g5' (fun N w => w.elim (g6 N) (Blk.lt h2 hk hl hm)) e3'
      refine ⟨b2, I2, e4, e5.trans F1, e6.cong (fun N => ⟨?_, ?_⟩)⟩
      · rintro ((w | w) | ⟨m', j1, j2, j3⟩)
        · exact Or.inl w
        · exact Or.inr ⟨m, Nat.le_refl _, by omega, w⟩
        · exact Or.inr ⟨m', by omega, j2, j3⟩
      · rintro (w | ⟨m', j1, j2, j3⟩)
        · exact Or.inl (Or.inl w)
        · by_cases w : m' = m
          · exact Or.inl (Or.inr (by rw [← w]; exact j3))
          · exact Or.inr ⟨m', by omega, j2, j3⟩
    · rw [k2, bd2_s, if_pos rfl, nI_1 m]
      obtain ⟨b2, I2, e4, e5, e6⟩ := ih n (m + 1) best Q I1 (by omega) (by omega) (by omega) g4' g5' g6 g7
      refine ⟨b2, I2, e4, e5.trans F1, e6.cong (fun N => ⟨?_, ?_⟩)⟩
      · rintro (w | ⟨m', j1, j2, j3⟩)
        · exact Or.inl w
        · exact Or.inr ⟨m', by omega, j2, j3⟩
      · rintro (w | ⟨m', j1, j2, j3⟩)
        · exact Or.inl w
        · by_cases w : m' = m
          · obtain ⟨a, b, c, d, _, _, _, _, j5, _⟩ := j3
            rw [w] at j5
            have j6 := j5.1
            rw [k1] at j6
            cases j6
          · exact Or.inr ⟨m', by omega, j2, j3⟩
theorem lw44_L {R : mR} {rs : List Ru} {x : Int32} {low top k : Nat} (hR : RO R) (hr : RsOK rs) (h1 : low ≤ 1) (h2 : top ≤ 3) (hk : k ≤ 3) :
    ∀ (z n l : Nat) (best : Option Nat) (Q : Nat → Prop) (I : mI), low + 3 - l = z → z < n → l ≤ low + 3 → NoC I R rs → (¬ x = -1 → BkR I rs) → (∀ N, Q N → N < 10000000) → Min Q best →
      ∃ best' I', f_X4_leastWeights_L44 n 256 1 248 x (nI low) (nI top) (bv best) (nI k) (nI l) I R = some (bv best', I') ∧ FrSc I' I ∧ Min (fun N => Q N ∨ ∃ l' m', l ≤ l' ∧ l' ≤ low + 2 ∧ low ≤ m' ∧ m' ≤ low + 2 ∧ Blk rs x top k l' m' N) best' := by
  intro z
  induction z with
  | zero =>
    intro n m best Q I g1 g2 g3 g4 g5 g6 g7
    obtain ⟨n, rfl⟩ : ∃ x, n = x + 1 := ⟨n - 1, by omega⟩
    rw [f_X4_leastWeights_L44, show (2 : Int32) = nI 2 from rfl, nI_add, if_pos (nI_lt (by omega) (by omega))]
    refine ⟨best, I, rfl, FrSc.rfl' I, g7.cong (fun N => ⟨Or.inl, ?_⟩)⟩
    rintro (w | ⟨l', m', k1, k2, _⟩)
    · exact w
    · omega
  | succ z ih =>
    intro n l best Q I g1 g2 g3 g4 g5 g6 g7
    obtain ⟨n, rfl⟩ : ∃ x, n = x + 1 := ⟨n - 1, by omega⟩
    have hr5 := hr.1
    have hl : l ≤ 3 := by omega
    obtain ⟨b1, I1, e1, F1, e3⟩ := lw57_L (x := x) hR hr h1 h2 hk hl 3 FU low best Q I (by omega) (by rw [FU_eq]; omega) (by omega) g4 g5 g6 g7
    have g4' : NoC I1 R rs := g4.cong hR hr5 (fun a ha => F1.1 a (by omega) (by omega) (by omega) (by omega))
    have g5' : ¬ x = -1 → BkR I1 rs := fun w => (g5 w).sc F1
    obtain ⟨b2, I2, e4, e5, e6⟩ := ih n (l + 1) b1 _ I1 (by omega) (by omega) (by omega) g4' g5' (fun N w => w.elim (g6 N) (fun ⟨m', _, _, w⟩ => Blk.lt h2 hk hl (by omega) w)) e3
    rw [f_X4_leastWeights_L44, show (2 : Int32) = nI 2 from rfl, nI_add, if_neg (nI_nlt (by omega) (by omega)), e1, bd2_s, nI_1 l]
    refine ⟨b2, I2, e4, e5.trans F1, e6.cong (fun N => ⟨?_, ?_⟩)⟩
    · rintro ((w | ⟨m', w1, w2, w3⟩) | ⟨l', m', j1, j2, j3⟩)
      · exact Or.inl w
      · exact Or.inr ⟨l, m', Nat.le_refl _, by omega, w1, w2, w3⟩
      · exact Or.inr ⟨l', m', by omega, j2, j3⟩
    · rintro (w | ⟨l', m', j1, j2, j3, j4, j5⟩)
      · exact Or.inl (Or.inl w)
      · by_cases w : l' = l
        · exact Or.inl (Or.inr ⟨m', j3, j4, by rw [← w]; exact j5⟩)
        · exact Or.inr ⟨l', m', by omega, j2, j3, j4, j5⟩
theorem lw31_L {R : mR} {rs : List Ru} {x : Int32} {low top : Nat} (hR : RO R) (hr : RsOK rs) (h1 : low ≤ 1) (h2 : top ≤ 3) :
    ∀ (z n k : Nat) (best : Option Nat) (Q : Nat → Prop) (I : mI), low + 3 - k = z → z < n → k ≤ low + 3 → NoC I R rs → (¬ x = -1 → BkR I rs) → (∀ N, Q N → N < 10000000) → Min Q best →
      ∃ best' I', f_X4_leastWeights_L31 n 256 1 248 x (nI low) (nI top) (bv best) (nI k) I R = some (bv best', I') ∧ FrSc I' I ∧ Min (fun N => Q N ∨ ∃ k' l' m', k ≤ k' ∧ k' ≤ low + 2 ∧ low ≤ l' ∧ l' ≤ low + 2 ∧ low ≤ m' ∧ m' ≤ low + 2 ∧ Blk rs x top k' l' m' N) best' := by
  intro z
  induction z with
  | zero =>
    intro n m best Q I g1 g2 g3 g4 g5 g6 g7
    obtain ⟨n, rfl⟩ : ∃ x, n = x + 1 := ⟨n - 1, by omega⟩
    rw [f_X4_leastWeights_L31, show (2 : Int32) = nI 2 from rfl, nI_add, if_pos (nI_lt (by omega) (by omega))]
    refine ⟨best, I, rfl, FrSc.rfl' I, g7.cong (fun N => ⟨Or.inl, ?_⟩)⟩
    rintro (w | ⟨k', l', m', k1, k2, _⟩)
    · exact w
    · omega
  | succ z ih =>
    intro n k best Q I g1 g2 g3 g4 g5 g6 g7
    obtain ⟨n, rfl⟩ : ∃ x, n = x + 1 := ⟨n - 1, by omega⟩
    have hr5 := hr.1
    have hk : k ≤ 3 := by omega
    obtain ⟨b1, I1, e1, F1, e3⟩ := lw44_L (x := x) hR hr h1 h2 hk 3 FU low best Q I (by omega) (by rw [FU_eq]; omega) (by omega) g4 g5 g6 g7
    have g4' : NoC I1 R rs := g4.cong hR hr5 (fun a ha => F1.1 a (by omega) (by omega) (by omega) (by omega))
    have g5' : ¬ x = -1 → BkR I1 rs := fun w => (g5 w).sc F1
    obtain ⟨b2, I2, e4, e5, e6⟩ := ih n (k + 1) b1 _ I1 (by omega) (by omega) (by omega) g4' g5' (fun N w => w.elim (g6 N) (fun ⟨l', m', _, w1, _, w2, w⟩ => Blk.lt h2 hk (by omega) (by omega) w)) e3
    rw [f_X4_leastWeights_L31, show (2 : Int32) = nI 2 from rfl, nI_add, if_neg (nI_nlt (by omega) (by omega)), e1, bd2_s, nI_1 k]
    refine ⟨b2, I2, e4, e5.trans F1, e6.cong (fun N => ⟨?_, ?_⟩)⟩
    · rintro ((w | ⟨l', m', w1, w2, w3⟩) | ⟨k', l', m', j1, j2, j3⟩)
      · exact Or.inl w
      · exact Or.inr ⟨k, l', m', Nat.le_refl _, by omega, w1, w2, w3⟩
      · exact Or.inr ⟨k', l', m', by omega, j2, j3⟩
    · rintro (w | ⟨k', l', m', j1, j2, j3⟩)
      · exact Or.inl (Or.inl w)
      · by_cases w : k' = k
        · exact Or.inl (Or.inr ⟨l', m', by rw [← w]; exact j3⟩)
        · exact Or.inr ⟨k', l', m', by omega, j2, j3⟩
/-- the numbers of weights that do what is asked -/
def Goodw (rs : List Ru) (x : Int32) (N : Nat) : Prop := ∃ low top k l m, ((x = -1 ∧ low = 1 ∧ top = 3) ∨ (¬ x = -1 ∧ low = 0 ∧ top = 2)) ∧ low ≤ k ∧ k ≤ low + 2 ∧ low ≤ l ∧ l ≤ low + 2 ∧ low ≤ m ∧ m ≤ low + 2 ∧ Blk rs x top k l m N
theorem lwC_ok {R : mR} {rs : List Ru} {x : Int32} (hR : RO R) (hr : RsOK rs) {I : mI} (g4 : NoC I R rs) (g5 : ¬ x = -1 → BkR I rs) :
    ∃ best I', f_X4_leastWeights 256 1 248 x I R = some (bv best, I') ∧ FrSc I' I ∧ Min (Goodw rs x) best := by
  unfold f_X4_leastWeights
  simp only [bnd_e]
  by_cases hx : x = -1
  · rw [if_pos hx, if_pos hx]
    obtain ⟨b, I', e1, e2, e3⟩ := lw31_L (x := x) (low := 1) (top := 3) hR hr (by omega) (by omega) 3 FU 1 none (fun _ => False) I (by omega) (by rw [FU_eq]; omega) (by omega) g4 g5 (fun N w => w.elim) (fun N w => w)
    rw [show bv none = (-1 : Int32) from rfl] at e1
    rw [show f_X4_leastWeights_L31 FU 256 1 248 x 1 3 (-1) 1 I R = some (bv b, I') from e1, bd2_s]
    refine ⟨b, I', rfl, e2, e3.cong (fun N => ⟨?_, ?_⟩)⟩
    · rintro (w | ⟨k, l, m, w⟩)
      · exact w.elim
      · exact ⟨1, 3, k, l, m, Or.inl ⟨hx, rfl, rfl⟩, w⟩
    · rintro ⟨low, top, k, l, m, (⟨_, rfl, rfl⟩ | ⟨w, _⟩), w2⟩
      · exact Or.inr ⟨k, l, m, w2⟩
      · exact absurd hx w
  · rw [if_neg hx, if_neg hx]
    obtain ⟨b, I', e1, e2, e3⟩ := lw31_L (x := x) (low := 0) (top := 2) hR hr (by omega) (by omega) 3 FU 0 none (fun _ => False) I (by omega) (by rw [FU_eq]; omega) (by omega) g4 g5 (fun N w => w.elim) (fun N w => w)
    rw [nI0, show bv none = (-1 : Int32) from rfl] at e1
    rw [show (2 : Int32) = nI 2 from rfl, e1, bd2_s]
    refine ⟨b, I', rfl, e2, e3.cong (fun N => ⟨?_, ?_⟩)⟩
    · rintro (w | ⟨k, l, m, w⟩)
      · exact w.elim
      · exact ⟨0, 2, k, l, m, Or.inr ⟨hx, rfl, rfl⟩, w⟩
    · rintro ⟨low, top, k, l, m, (⟨w, _⟩ | ⟨_, rfl, rfl⟩), w2⟩
      · exact absurd w hx
      · exact Or.inr ⟨k, l, m, w2⟩
