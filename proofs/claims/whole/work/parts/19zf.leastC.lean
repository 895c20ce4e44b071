/-! ===== the least weights: what is meant, and the class ===== -/
def fg (a b c d k l m : Nat) : Nat → Nat := fun i => if i = 0 then a else if i = 1 then b else if i = 2 then c else if i = 3 then d else if i = 4 then k else if i = 5 then l else m
def nm (a b c d : Nat) : Nat := 1000 * a + 100 * b + 10 * c + d
/-- a row of trials, in order: what it ends with -/
def SR (B : Nat → Prop) (P : Nat → Prop) (last : Nat) (best : Option Nat) (o : Int32 ⊕ Unit) : Prop := match o with
  | Sum.inr _ => ∀ X, B X → ¬ P X
  | Sum.inl r => ∃ X, B X ∧ (∀ Y, B Y → Y < X → ¬ P Y) ∧ ((P X ∧ r = nI (1000 * X + last) ∧ ∀ b, best = some b → 1000 * X + last ≤ b) ∨ (∃ b, best = some b ∧ b < 1000 * X + last ∧ r = nI b))
theorem SR.app {B1 B2 B : Nat → Prop} {P : Nat → Prop} {last : Nat} {best : Option Nat} {o : Int32 ⊕ Unit} (h1 : ∀ X, B1 X → ¬ P X) (h2 : SR B2 P last best o) (hB : ∀ X, B X ↔ B1 X ∨ B2 X) : SR B P last best o := by
  cases o with
  | inr _ => exact fun X hX => ((hB X).mp hX).elim (h1 X) (h2 X)
  | inl r =>
    obtain ⟨X, k1, k2, k3⟩ := h2
    exact ⟨X, (hB X).mpr (Or.inr k1), fun Y hY hl => ((hB Y).mp hY).elim (h1 Y) (fun w => k2 Y w hl), k3⟩
theorem SR.fst {B1 B : Nat → Prop} {P : Nat → Prop} {last : Nat} {best : Option Nat} {r : Int32} (h1 : SR B1 P last best (Sum.inl r)) (hB : ∀ X, B1 X → B X) (hlt : ∀ X Y, B1 X → B Y → Y < X → B1 Y) : SR B P last best (Sum.inl r) := by
  obtain ⟨X, k1, k2, k3⟩ := h1
  exact ⟨X, hB X k1, fun Y hY hl => k2 Y (hlt X Y k1 hY hl) hl, k3⟩
theorem num_e (a b c d t : Nat) : ((1000 : Int32) * (((((1000 : Int32) * nI a) + ((100 : Int32) * nI b)) + ((10 : Int32) * nI c)) + nI d)) + nI t = nI (1000 * nm a b c d + t) := by
  rw [show (1000 : Int32) = nI 1000 from rfl, show (100 : Int32) = nI 100 from rfl, show (10 : Int32) = nI 10 from rfl, pk_mul, pk_mul, pk_mul, nI_add, nI_add, nI_add, pk_mul, nI_add]
  rfl
theorem nm_lt {a b c d : Nat} (ha : a ≤ 3) (hb : b ≤ 3) (hc : c ≤ 3) (hd : d ≤ 3) : nm a b c d ≤ 3333 := by unfold nm; omega
def MtC (p : Nat → Bool) (top : Nat) (I : mI) (R : mR) : Prop := ∀ a b c d, a ≤ top → b ≤ top → c ≤ top → d ≤ top → f_X4_meetsRows 256 (nI a) (nI b) (nI c) (nI d) I R = some (bi (p (nm a b c d)))
theorem bi_t : bi true = 1 := rfl
theorem bi_f : bi false = 0 := rfl
theorem lb30_L {p : Nat → Bool} {top last : Nat} {best : Option Nat} {I : mI} {R : mR} (hM : MtC p top I R) (ht : top ≤ 3) (hl : last < 1000) (hb : ∀ b, best = some b → b < 10000000) {a b c : Nat} (h1 : a ≤ top) (h2 : b ≤ top) (h3 : c ≤ top) :
    ∀ (z n d : Nat), top + 1 - d = z → z < n → d ≤ top + 1 → ∃ o, f_X4_leastByRows_L30 n 256 (nI last) (nI top) (bv best) (nI a) (nI b) (nI c) (nI d) I R = some o ∧ SR (fun X => ∃ d', d ≤ d' ∧ d' ≤ top ∧ X = nm a b c d') (fun X => p X = true) last best o := by
  intro z
  induction z with
  | zero =>
    intro n d g1 g2 g3
    obtain ⟨n, rfl⟩ : ∃ x, n = x + 1 := ⟨n - 1, by omega⟩
    rw [f_X4_leastByRows_L30, if_pos (nI_lt (by omega) (by omega))]
    refine ⟨_, rfl, ?_⟩
    rintro X ⟨d', k1, k2, k3⟩
    omega
  | succ z ih =>
    intro n d g1 g2 g3
    obtain ⟨n, rfl⟩ : ∃ x, n = x + 1 := ⟨n - 1, by omega⟩
    have hd : d ≤ top := by omega
    have h3333 := nm_lt (a := a) (b := b) (c := c) (d := d) (by omega) (by omega) (by omega) (by omega)
    obtain ⟨o, e1, e2⟩ := ih n (d + 1) (by omega) (by omega) (by omega)
    rw [f_X4_leastByRows_L30, if_neg (nI_nlt (by omega) (by omega))]
    simp only [bnd_e]
    rw [hM a b c d h1 h2 h3 hd, bd1_s, nI_1 d, e1, num_e]
    have key : ∀ (hle : ∀ b', best = some b' → 1000 * nm a b c d + last ≤ b'), ∃ o', (if bi (p (nm a b c d)) = 0 then some o else some (Sum.inl (nI (1000 * nm a b c d + last)))) = some o' ∧ SR (fun X => ∃ d', d ≤ d' ∧ d' ≤ top ∧ X = nm a b c d') (fun X => p X = true) last best o' := by
      intro hle
      cases hp : p (nm a b c d) with
      | false =>
        rw [bi_f, if_pos rfl]
        refine ⟨o, rfl, SR.app (B1 := fun X => X = nm a b c d) ?_ e2 ?_⟩
        · rintro X rfl; rw [hp]; decide
        · intro X
          constructor
          · rintro ⟨d', k1, k2, k3⟩
            by_cases w : d' = d
            · exact Or.inl (by rw [k3, w])
            · exact Or.inr ⟨d', by omega, k2, k3⟩
          · rintro (w | ⟨d', k1, k2, k3⟩)
            · exact ⟨d, Nat.le_refl _, hd, w⟩
            · exact ⟨d', by omega, k2, k3⟩
      | true =>
        rw [bi_t, if_neg (by decide)]
        refine ⟨_, rfl, nm a b c d, ⟨d, Nat.le_refl _, hd, rfl⟩, ?_, Or.inl ⟨hp, rfl, hle⟩⟩
        rintro Y ⟨d', k1, k2, k3⟩ hlt
        unfold nm at k3 hlt
        omega
    cases best with
    | none =>
      rw [if_pos (show bv none = -1 from rfl)]
      exact key (fun _ w => by cases w)
    | some b' =>
      have hb' := hb b' rfl
      rw [if_neg (show ¬ bv (some b') = -1 from bv_ne (by omega))]
      by_cases w : 1000 * nm a b c d + last ≤ b'
      · rw [if_pos (show nI (1000 * nm a b c d + last) ≤ bv (some b') from nI_le w (by omega))]
        exact key (fun _ e => by cases e; exact w)
      · rw [if_neg (show ¬ nI (1000 * nm a b c d + last) ≤ bv (some b') from nI_ge (by omega) (by omega))]
        refine ⟨_, rfl, nm a b c d, ⟨d, Nat.le_refl _, hd, rfl⟩, ?_, Or.inr ⟨b', rfl, by omega, rfl⟩⟩
        rintro Y ⟨d', k1, k2, k3⟩ hlt
        unfold nm at k3 hlt
        omega
theorem lb21_L {p : Nat → Bool} {top last : Nat} {best : Option Nat} {I : mI} {R : mR} (hM : MtC p top I R) (ht : top ≤ 3) (hl : last < 1000) (hb : ∀ b, best = some b → b < 10000000) {a b : Nat} (h1 : a ≤ top) (h2 : b ≤ top) :
    ∀ (z n c : Nat), top + 1 - c = z → z < n → c ≤ top + 1 → ∃ o, f_X4_leastByRows_L21 n 256 (nI last) (nI top) (bv best) (nI a) (nI b) (nI c) I R = some o ∧ SR (fun X => ∃ c' d', c ≤ c' ∧ c' ≤ top ∧ d' ≤ top ∧ X = nm a b c' d') (fun X => p X = true) last best o := by
  intro z
  induction z with
  | zero =>
    intro n c g1 g2 g3
    obtain ⟨n, rfl⟩ : ∃ x, n = x + 1 := ⟨n - 1, by omega⟩
    rw [f_X4_leastByRows_L21, if_pos (nI_lt (by omega) (by omega))]
    refine ⟨_, rfl, ?_⟩
    rintro X ⟨c', d', k1, k2, k3⟩
    omega
  | succ z ih =>
    intro n c g1 g2 g3
    obtain ⟨n, rfl⟩ : ∃ x, n = x + 1 := ⟨n - 1, by omega⟩
    obtain ⟨o, e1, e2⟩ := ih n (c + 1) (by omega) (by omega) (by omega)
    obtain ⟨o', e3, e4⟩ := lb30_L hM ht hl hb h1 h2 (show c ≤ top by omega) (top + 1) FU 0 (by omega) (by rw [FU_eq]; omega) (by omega)
    rw [nI0] at e3
    rw [f_X4_leastByRows_L21, if_neg (nI_nlt (by omega) (by omega)), e3, nI_1 c, e1]
    cases o' with
    | inl r =>
      refine ⟨_, rfl, SR.fst e4 ?_ ?_⟩
      · rintro X ⟨d', k1, k2, k3⟩
        exact ⟨c, d', Nat.le_refl _, by omega, k2, k3⟩
      · rintro X Y ⟨d', k1, k2, k3⟩ ⟨c2, d2, j1, j2, j3, j4⟩ hlt
        have : c2 = c := by unfold nm at k3 j4; omega
        exact ⟨d2, Nat.zero_le _, j3, by rw [j4, this]⟩
    | inr r =>
      refine ⟨_, rfl, SR.app e4 e2 ?_⟩
      intro X
      constructor
      · rintro ⟨c', d', k1, k2, k3, k4⟩
        by_cases w : c' = c
        · exact Or.inl ⟨d', Nat.zero_le _, k3, by rw [k4, w]⟩
        · exact Or.inr ⟨c', d', by omega, k2, k3, k4⟩
      · rintro (⟨d', k1, k2, k3⟩ | ⟨c', d', k1, k2, k3, k4⟩)
        · exact ⟨c, d', Nat.le_refl _, by omega, k2, k3⟩
        · exact ⟨c', d', by omega, k2, k3, k4⟩
theorem lb12_L {p : Nat → Bool} {top last : Nat} {best : Option Nat} {I : mI} {R : mR} (hM : MtC p top I R) (ht : top ≤ 3) (hl : last < 1000) (hb : ∀ b, best = some b → b < 10000000) {a : Nat} (h1 : a ≤ top) :
    ∀ (z n b : Nat), top + 1 - b = z → z < n → b ≤ top + 1 → ∃ o, f_X4_leastByRows_L12 n 256 (nI last) (nI top) (bv best) (nI a) (nI b) I R = some o ∧ SR (fun X => ∃ b' c' d', b ≤ b' ∧ b' ≤ top ∧ c' ≤ top ∧ d' ≤ top ∧ X = nm a b' c' d') (fun X => p X = true) last best o := by
  intro z
  induction z with
  | zero =>
    intro n c g1 g2 g3
    obtain ⟨n, rfl⟩ : ∃ x, n = x + 1 := ⟨n - 1, by omega⟩
    rw [f_X4_leastByRows_L12, if_pos (nI_lt (by omega) (by omega))]
    refine ⟨_, rfl, ?_⟩
    rintro X ⟨b', c', d', k1, k2, k3⟩
    omega
  | succ z ih =>
    intro n b g1 g2 g3
    obtain ⟨n, rfl⟩ : ∃ x, n = x + 1 := ⟨n - 1, by omega⟩
    obtain ⟨o, e1, e2⟩ := ih n (b + 1) (by omega) (by omega) (by omega)
    obtain ⟨o', e3, e4⟩ := lb21_L hM ht hl hb h1 (show b ≤ top by omega) (top + 1) FU 0 (by omega) (by rw [FU_eq]; omega) (by omega)
    rw [nI0] at e3
    rw [f_X4_leastByRows_L12, if_neg (nI_nlt (by omega) (by omega)), e3, nI_1 b, e1]
    cases o' with
    | inl r =>
      refine ⟨_, rfl, SR.fst e4 ?_ ?_⟩
      · rintro X ⟨c', d', k1, k2, k3, k4⟩
        exact ⟨b, c', d', Nat.le_refl _, by omega, k2, k3, k4⟩
      · rintro X Y ⟨c', d', k1, k2, k3, k4⟩ ⟨b2, c2, d2, j1, j2, j3, j4, j5⟩ hlt
        have : b2 = b := by unfold nm at k4 j5; omega
        exact ⟨c2, d2, Nat.zero_le _, j3, j4, by rw [j5, this]⟩
    | inr r =>
      refine ⟨_, rfl, SR.app e4 e2 ?_⟩
      intro X
      constructor
      · rintro ⟨b', c', d', k1, k2, k3, k4, k5⟩
        by_cases w : b' = b
        · exact Or.inl ⟨c', d', Nat.zero_le _, k3, k4, by rw [k5, w]⟩
        · exact Or.inr ⟨b', c', d', by omega, k2, k3, k4, k5⟩
      · rintro (⟨c', d', k1, k2, k3, k4⟩ | ⟨b', c', d', k1, k2, k3, k4, k5⟩)
        · exact ⟨b, c', d', Nat.le_refl _, by omega, k2, k3, k4⟩
        · exact ⟨b', c', d', by omega, k2, k3, k4, k5⟩
theorem lb3_L {p : Nat → Bool} {top last : Nat} {best : Option Nat} {I : mI} {R : mR} (hM : MtC p top I R) (ht : top ≤ 3) (hl : last < 1000) (hb : ∀ b, best = some b → b < 10000000) :
    ∀ (z n a : Nat), top + 1 - a = z → z < n → a ≤ top + 1 → ∃ o, f_X4_leastByRows_L3 n 256 (nI last) (nI top) (bv best) (nI a) I R = some o ∧ SR (fun X => ∃ a' b' c' d', a ≤ a' ∧ a' ≤ top ∧ b' ≤ top ∧ c' ≤ top ∧ d' ≤ top ∧ X = nm a' b' c' d') (fun X => p X = true) last best o := by
  intro z
  induction z with
  | zero =>
    intro n c g1 g2 g3
    obtain ⟨n, rfl⟩ : ∃ x, n = x + 1 := ⟨n - 1, by omega⟩
    rw [f_X4_leastByRows_L3, if_pos (nI_lt (by omega) (by omega))]
    refine ⟨_, rfl, ?_⟩
    rintro X ⟨a', b', c', d', k1, k2, k3⟩
    omega
  | succ z ih =>
    intro n a g1 g2 g3
    obtain ⟨n, rfl⟩ : ∃ x, n = x + 1 := ⟨n - 1, by omega⟩
    obtain ⟨o, e1, e2⟩ := ih n (a + 1) (by omega) (by omega) (by omega)
    obtain ⟨o', e3, e4⟩ := lb12_L hM ht hl hb (show a ≤ top by omega) (top + 1) FU 0 (by omega) (by rw [FU_eq]; omega) (by omega)
    rw [nI0] at e3
    rw [f_X4_leastByRows_L3, if_neg (nI_nlt (by omega) (by omega)), e3, nI_1 a, e1]
    cases o' with
    | inl r =>
      refine ⟨_, rfl, SR.fst e4 ?_ ?_⟩
      · rintro X ⟨b', c', d', k1, k2, k3, k4, k5⟩
        exact ⟨a, b', c', d', Nat.le_refl _, by omega, k2, k3, k4, k5⟩
      · rintro X Y ⟨b', c', d', k1, k2, k3, k4, k5⟩ ⟨a2, b2, c2, d2, j1, j2, j3, j4, j5, j6⟩ hlt
        have : a2 = a := by unfold nm at k5 j6; omega
        exact ⟨b2, c2, d2, Nat.zero_le _, j3, j4, j5, by rw [j6, this]⟩
    | inr r =>
      refine ⟨_, rfl, SR.app e4 e2 ?_⟩
      intro X
      constructor
      · rintro ⟨a', b', c', d', k1, k2, k3, k4, k5, k6⟩
        by_cases w : a' = a
        · exact Or.inl ⟨b', c', d', Nat.zero_le _, k3, k4, k5, by rw [k6, w]⟩
        · exact Or.inr ⟨a', b', c', d', by omega, k2, k3, k4, k5, k6⟩
      · rintro (⟨b', c', d', k1, k2, k3, k4, k5⟩ | ⟨a', b', c', d', k1, k2, k3, k4, k5, k6⟩)
        · exact ⟨a, b', c', d', Nat.le_refl _, by omega, k2, k3, k4, k5⟩
        · exact ⟨a', b', c', d', by omega, k2, k3, k4, k5, k6⟩
/-- the least of those that hold, if any -/
def Min (Q : Nat → Prop) (o : Option Nat) : Prop := match o with
  | none => ∀ N, ¬ Q N
  | some b => Q b ∧ ∀ N, Q N → b ≤ N
theorem Min.uniq {Q : Nat → Prop} {o o' : Option Nat} (h : Min Q o) (h' : Min Q o') : o = o' := by
  cases o with
  | none =>
    cases o' with
    | none => rfl
    | some b => exact absurd h'.1 (h b)
  | some b =>
    cases o' with
    | none => exact absurd h.1 (h' b)
    | some c =>
      have h1 := h.2 c h'.1
      have h2 := h'.2 b h.1
      rw [show b = c by omega]
theorem Min.cong {Q Q' : Nat → Prop} {o : Option Nat} (h : Min Q o) (e : ∀ N, Q N ↔ Q' N) : Min Q' o := by
  cases o with
  | none => exact fun N w => h N ((e N).mpr w)
  | some b => exact ⟨(e b).mp h.1, fun N w => h.2 N ((e N).mpr w)⟩
theorem lbC_ok {p : Nat → Bool} {top last : Nat} {best : Option Nat} {I : mI} {R : mR} (hM : MtC p top I R) (ht : top ≤ 3) (hl : last < 1000) {Q : Nat → Prop} (hQ : ∀ N, Q N → N < 10000000) (hb : Min Q best) :
    ∃ best', f_X4_leastByRows 256 (nI last) (nI top) (bv best) I R = some (bv best') ∧ Min (fun N => Q N ∨ ∃ a b c d, a ≤ top ∧ b ≤ top ∧ c ≤ top ∧ d ≤ top ∧ p (nm a b c d) = true ∧ N = 1000 * nm a b c d + last) best' := by
  have hb7 : ∀ b, best = some b → b < 10000000 := fun b e => by rw [e] at hb; exact hQ b hb.1
  obtain ⟨o, e1, e2⟩ := lb3_L hM ht hl hb7 (top + 1) FU 0 (by omega) (by rw [FU_eq]; omega) (by omega)
  rw [nI0] at e1
  unfold f_X4_leastByRows
  rw [e1]
  cases o with
  | inr u =>
    refine ⟨best, rfl, hb.cong (fun N => ⟨Or.inl, ?_⟩)⟩
    rintro (w | ⟨a, b, c, d, k1, k2, k3, k4, k5, k6⟩)
    · exact w
    · exact absurd k5 (e2 _ ⟨a, b, c, d, Nat.zero_le _, k1, k2, k3, k4, rfl⟩)
  | inl r =>
    obtain ⟨X, ⟨a, b, c, d, k0, k1, k2, k3, k4, k5⟩, g2, g3⟩ := e2
    rcases g3 with ⟨g3, g4, g5⟩ | ⟨b', g3, g4, g5⟩
    · refine ⟨some (1000 * X + last), by rw [g4]; rfl, Or.inr ⟨a, b, c, d, k1, k2, k3, k4, by rw [← k5]; exact g3, by rw [← k5]⟩, ?_⟩
      rintro N (w | ⟨a', b', c', d', j1, j2, j3, j4, j5, j6⟩)
      · cases best with
        | none => exact absurd w (hb N)
        | some b0 => exact Nat.le_trans (g5 b0 rfl) (hb.2 N w)
      · by_cases hlt : nm a' b' c' d' < X
        · exact absurd j5 (g2 _ ⟨a', b', c', d', Nat.zero_le _, j1, j2, j3, j4, rfl⟩ hlt)
        · omega
    · rw [g3] at hb
      refine ⟨some b', by rw [g5]; rfl, Or.inl hb.1, ?_⟩
      rintro N (w | ⟨a', b2, c', d', j1, j2, j3, j4, j5, j6⟩)
      · exact hb.2 N w
      · by_cases hlt : nm a' b2 c' d' < X
        · exact absurd j5 (g2 _ ⟨a', b2, c', d', Nat.zero_le _, j1, j2, j3, j4, rfl⟩ hlt)
        · omega
