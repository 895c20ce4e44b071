/-! ===== values of parts, from the right ===== -/
def stk {α : Type} (lf : Int32 → α) (f1 : α → α) (g2 : α → α → α) : List Int32 → List α
  | [] => []
  | c :: cs => if c = 102 then (match stk lf f1 g2 cs with
      | a :: t => f1 a :: t
      | [] => []) else if c = 103 then (match stk lf f1 g2 cs with
      | a :: b :: t => g2 a b :: t
      | _ => []) else lf c :: stk lf f1 g2 cs
theorem stk_f {α : Type} {lf : Int32 → α} {f1 : α → α} {g2 : α → α → α} {cs : List Int32} {a : α} {t : List α} (h : stk lf f1 g2 cs = a :: t) : stk lf f1 g2 (102 :: cs) = f1 a :: t := by
  unfold stk
  rw [if_pos rfl, h]
theorem stk_g {α : Type} {lf : Int32 → α} {f1 : α → α} {g2 : α → α → α} {cs : List Int32} {a b : α} {t : List α} (h : stk lf f1 g2 cs = a :: b :: t) : stk lf f1 g2 (103 :: cs) = g2 a b :: t := by
  unfold stk
  rw [if_neg (by decide), if_pos rfl, h]
theorem stk_l {α : Type} {lf : Int32 → α} {f1 : α → α} {g2 : α → α → α} {cs : List Int32} {c : Int32} (h : wn c = 0) : stk lf f1 g2 (c :: cs) = lf c :: stk lf f1 g2 cs := by
  conv => lhs; unfold stk
  rw [if_neg (fun q => by rw [q] at h; cases h), if_neg (fun q => by rw [q] at h; cases h)]
theorem wn_3 (c : Int32) : (c = 102 ∧ wn c = 1) ∨ (c = 103 ∧ wn c = 2) ∨ (¬ c = 102 ∧ ¬ c = 103 ∧ wn c = 0) := by
  unfold wn
  by_cases h1 : c = 103
  · rw [if_pos h1]; exact Or.inr (Or.inl ⟨h1, rfl⟩)
  · rw [if_neg h1]
    by_cases h2 : c = 102
    · rw [if_pos h2]; exact Or.inl ⟨h2, rfl⟩
    · rw [if_neg h2]; exact Or.inr (Or.inr ⟨h2, h1, rfl⟩)
theorem stk_len {α : Type} {lf : Int32 → α} {f1 : α → α} {g2 : α → α → α} : ∀ (l : List Int32) (n : Nat), wfb n l = true → (stk lf f1 g2 l).length = n
  | [], 0, _ => rfl
  | [], n + 1, h => by cases h
  | c :: cs, 0, h => by cases h
  | c :: cs, n + 1, h => by
    rw [wfb_cons] at h
    have ih := stk_len (lf := lf) (f1 := f1) (g2 := g2) cs _ h
    rcases wn_3 c with ⟨h1, h2⟩ | ⟨h1, h2⟩ | ⟨_, _, h2⟩
    · rw [h2] at ih
      subst h1
      cases hs : stk lf f1 g2 cs with
      | nil => rw [hs] at ih; cases ih
      | cons a t =>
        rw [stk_f hs]
        rw [hs] at ih
        exact ih
    · rw [h2] at ih
      subst h1
      cases hs : stk lf f1 g2 cs with
      | nil => rw [hs] at ih; cases ih
      | cons a t =>
        rw [hs] at ih
        cases t with
        | nil => cases ih
        | cons b t =>
          rw [stk_g hs]
          rw [List.length_cons, List.length_cons] at ih
          rw [List.length_cons]
          omega
    · rw [h2, Nat.add_zero] at ih
      rw [stk_l h2, List.length_cons, ih]
theorem stk_pl {α : Type} {lf : Int32 → α} {f1 : α → α} {g2 : α → α → α} : ∀ (l : List Int32) (n m : Nat), wfb (n + m) l = true → (stk lf f1 g2 l).drop n = stk lf f1 g2 (l.drop (pl n l))
  | l, 0, m, _ => by rw [pl_0, List.drop_zero, List.drop_zero]
  | [], n + 1, m, h => by rw [show n + 1 + m = (n + m) + 1 by omega] at h; cases h
  | c :: cs, n + 1, m, h => by
    rw [show n + 1 + m = (n + m) + 1 by omega, wfb_cons] at h
    have h' : wfb (n + wn c + m) cs = true := by rw [show n + wn c + m = n + m + wn c by omega]; exact h
    have ih := stk_pl (lf := lf) (f1 := f1) (g2 := g2) cs (n + wn c) m h'
    have hl := stk_len (lf := lf) (f1 := f1) (g2 := g2) cs _ h
    rw [pl_cons, show 1 + pl (n + wn c) cs = pl (n + wn c) cs + 1 by omega, List.drop_succ_cons, ← ih]
    rcases wn_3 c with ⟨h1, h2⟩ | ⟨h1, h2⟩ | ⟨_, _, h2⟩
    · rw [h2] at hl ⊢
      subst h1
      cases hs : stk lf f1 g2 cs with
      | nil => rw [hs, List.length_nil] at hl; omega
      | cons a t => rw [stk_f hs]; rfl
    · rw [h2] at hl ⊢
      subst h1
      cases hs : stk lf f1 g2 cs with
      | nil => rw [hs, List.length_nil] at hl; omega
      | cons a t =>
        cases t with
        | nil => rw [hs, List.length_singleton] at hl; omega
        | cons b t => rw [stk_g hs]; rfl
    · rw [h2, stk_l h2]
      rfl
/-- the value of the part at a place -/
def vAt {α : Type} (d : α) (lf : Int32 → α) (f1 : α → α) (g2 : α → α → α) (l : List Int32) (p : Nat) : α := (stk lf f1 g2 (l.drop p)).headD d
theorem stk_v {α : Type} {d : α} {lf : Int32 → α} {f1 : α → α} {g2 : α → α → α} {l : List Int32} {p m : Nat} (h : wfb (m + 1) (l.drop p) = true) : stk lf f1 g2 (l.drop p) = vAt d lf f1 g2 l p :: stk lf f1 g2 (l.drop (ep l p)) := by
  have h1 := stk_len (lf := lf) (f1 := f1) (g2 := g2) _ _ h
  have h2 := stk_pl (lf := lf) (f1 := f1) (g2 := g2) (l.drop p) 1 m (by rw [Nat.add_comm]; exact h)
  rw [List.drop_drop] at h2
  unfold vAt ep
  cases hs : stk lf f1 g2 (l.drop p) with
  | nil => rw [hs] at h1; cases h1
  | cons a t =>
    rw [hs] at h2
    rw [← h2]
    rfl
theorem vAt_l {α : Type} {d : α} {lf : Int32 → α} {f1 : α → α} {g2 : α → α → α} {l : List Int32} {p : Nat} (hp : p < l.length) (h : wn (l.getD p 0) = 0) : vAt d lf f1 g2 l p = lf (l.getD p 0) := by
  unfold vAt
  rw [drop_c hp, stk_l h]
  rfl
theorem vAt_f {α : Type} {d : α} {lf : Int32 → α} {f1 : α → α} {g2 : α → α → α} {l : List Int32} {p m : Nat} (hp : p < l.length) (hw : wfb (m + 1) (l.drop (p + 1)) = true) (h : l.getD p 0 = 102) : vAt d lf f1 g2 l p = f1 (vAt d lf f1 g2 l (p + 1)) := by
  conv => lhs; unfold vAt
  rw [drop_c hp, h, stk_f (stk_v (d := d) hw)]
  rfl
theorem vAt_g {α : Type} {d : α} {lf : Int32 → α} {f1 : α → α} {g2 : α → α → α} {l : List Int32} {p m : Nat} (hp : p < l.length) (hw : wfb (m + 2) (l.drop (p + 1)) = true) (h : l.getD p 0 = 103) : vAt d lf f1 g2 l p = g2 (vAt d lf f1 g2 l (p + 1)) (vAt d lf f1 g2 l (ep l (p + 1))) := by
  have h2 := (wf_next (a := m + 1) (m := 0) (i := p + 1) (by rw [Nat.add_zero]; exact hw)).2
  rw [Nat.add_zero] at h2
  conv => lhs; unfold vAt
  rw [drop_c hp, h, stk_g ((stk_v (d := d) (m := m + 1) hw).trans (by rw [stk_v (d := d) h2]))]
  rfl
/-! ===== the seven figures ===== -/
def figS (N i : Nat) : Nat := N / 10 ^ (6 - i) % 10
def figK (N k : Nat) : Bool := match k with
  | 0 => true
  | k + 1 => decide (N % 10 ≤ 3) && figK (N / 10) k
/-- weights as they may be told -/
def figOK (x : Int32) : Bool := decide (0 ≤ x) && (figK x.toNatClampNeg 7 && decide (x.toNatClampNeg / 10000000 = 0))
theorem figs_10 (N k : Nat) : N / 10 ^ k / 10 = N / 10 ^ (k + 1) := by rw [Nat.div_div_eq_div_mul, Nat.pow_succ]
theorem spC_L {R : mR} (hR : R 0 8 = 271) (N : Nat) (hN : N < 2 ^ 31) :
    ∀ (k n : Nat) (I : mI), k < n → k ≤ 7 → (∀ i, k ≤ i → i < 7 → I 271 i = nI (figS N i)) → ∃ I', (∀ a, a ≠ 271 → I' a = I a) ∧ ((figK (N / 10 ^ (7 - k)) k = true ∧ f_X10_splitFigures_L11 n 0 (nI (N / 10 ^ (7 - k))) (nI k + (-1)) I R = some (Sum.inr (nI (N / 10000000), I')) ∧ ∀ i, i < 7 → I' 271 i = nI (figS N i)) ∨ (figK (N / 10 ^ (7 - k)) k = false ∧ f_X10_splitFigures_L11 n 0 (nI (N / 10 ^ (7 - k))) (nI k + (-1)) I R = some (Sum.inl (0, I')))) := by
  intro k
  induction k with
  | zero =>
    intro n I h1 h2 h3
    obtain ⟨n, rfl⟩ : ∃ x, n = x + 1 := ⟨n - 1, by omega⟩
    refine ⟨I, fun _ _ => rfl, Or.inl ⟨rfl, ?_, fun i hi => h3 i (by omega) hi⟩⟩
    rw [f_X10_splitFigures_L11, if_pos (show nI 0 + (-1) < 0 by decide)]
  | succ k ih =>
    intro n I h1 h2 h3
    obtain ⟨n, rfl⟩ : ∃ x, n = x + 1 := ⟨n - 1, by omega⟩
    have hd : N / 10 ^ (7 - (k + 1)) ≤ N := Nat.div_le_self _ _
    have hs : N / 10 ^ (7 - (k + 1)) / 10 = N / 10 ^ (7 - k) := by rw [figs_10, show 7 - (k + 1) + 1 = 7 - k by omega]
    have hf : N / 10 ^ (7 - (k + 1)) % 10 = figS N k := by unfold figS; rw [show 6 - k = 7 - (k + 1) by omega]
    have hf10 : figS N k < 10 := Nat.mod_lt _ (by decide)
    rw [f_X10_splitFigures_L11]
    simp only [bnd]
    rw [pk_m1, if_neg (nI_pos (by omega)), hR, show lnC 271 = 7 from rfl, if_pos (inb_nI (by omega) (by omega)), nI_clamp (by omega), u2_e, show (10 : Int32) = nI 10 from rfl, pk_rem (by omega) (by decide) (by decide), pk_div (by omega) (by decide) (by decide), hs, hf]
    have hK : figK (N / 10 ^ (7 - (k + 1))) (k + 1) = (decide (figS N k ≤ 3) && figK (N / 10 ^ (7 - k)) k) := by
      show (decide (N / 10 ^ (7 - (k + 1)) % 10 ≤ 3) && figK (N / 10 ^ (7 - (k + 1)) / 10) k) = _
      rw [hf, hs]
    rw [hK]
    by_cases h4 : figS N k ≤ 3
    · rw [show (3 : Int32) = nI 3 from rfl, if_pos (nI_le h4 (by omega)), decide_eq_true h4, Bool.true_and]
      obtain ⟨I', e1, e2⟩ := ih n (u2 I 271 k (nI (figS N k))) (by omega) (by omega) (fun i hi hi2 => by
        by_cases he : i = k
        · rw [he, u2_e]
        · rw [u2_o _ _ _ he]; exact h3 i (by omega) hi2)
      exact ⟨I', fun a ha => by rw [e1 a ha, u2_n _ _ _ ha], e2⟩
    · rw [show (3 : Int32) = nI 3 from rfl, if_neg (nI_ge (by omega) (by omega)), decide_eq_false h4, Bool.false_and]
      exact ⟨_, fun a ha => by rw [u2_n _ _ _ ha], Or.inr ⟨rfl, rfl⟩⟩
/-- figures told: the class -/
def FgC (I : mI) (N : Nat) : Prop := ∀ i, i < 7 → I 271 i = nI (figS N i)
theorem spC_ok {R : mR} (hR : R 0 8 = 271) (x : Int32) (I : mI) : ∃ I', (∀ a, a ≠ 271 → I' a = I a) ∧ ((figOK x = true ∧ f_X10_splitFigures 0 x I R = some (1, I') ∧ FgC I' x.toNatClampNeg) ∨ (figOK x = false ∧ f_X10_splitFigures 0 x I R = some (0, I'))) := by
  unfold f_X10_splitFigures figOK
  by_cases h0 : 0 ≤ x
  · rw [if_pos h0, decide_eq_true h0, Bool.true_and]
    obtain ⟨N, hN, rfl⟩ := nI_of (x := x) (fun q => by rw [Int32.lt_iff_toInt_lt] at q; rw [Int32.le_iff_toInt_le] at h0; omega)
    rw [nI_clamp hN]
    obtain ⟨I', e1, e2⟩ := spC_L hR N hN 7 FU I (by rw [FU_eq]; omega) (Nat.le_refl _) (fun i hi hi2 => by omega)
    rw [show 7 - 7 = 0 from rfl, show N / 10 ^ 0 = N from Nat.div_one _, show nI 7 + (-1) = 6 from rfl] at e2
    refine ⟨I', e1, ?_⟩
    rcases e2 with ⟨g1, g2, g3⟩ | ⟨g1, g2⟩
    · rw [g1, g2, bdS_r, Bool.true_and]
      show (_ ∧ (if nI (N / 10000000) = 0 then some ((1 : Int32), I') else some (0, I')) = _ ∧ _) ∨ (_ ∧ (if nI (N / 10000000) = 0 then some ((1 : Int32), I') else some (0, I')) = _)
      by_cases hz : N / 10000000 = 0
      · rw [hz, if_pos (show nI 0 = 0 from rfl)]
        exact Or.inl ⟨rfl, rfl, g3⟩
      · rw [if_neg (nI_ne0 (by omega) (by omega)), decide_eq_false hz]
        exact Or.inr ⟨rfl, rfl⟩
    · rw [g1, g2]
      exact Or.inr ⟨rfl, rfl⟩
  · rw [if_neg h0, decide_eq_false h0, Bool.false_and]
    exact ⟨I, fun _ _ => rfl, Or.inr ⟨rfl, rfl⟩⟩
/-! figures laid: the model -/
def figKt (t N k : Nat) : Bool := match k with
  | 0 => true
  | k + 1 => decide (N % 10 ≤ t) && figKt t (N / 10) k
theorem figKt_3 : ∀ (k N : Nat), figKt 3 N k = figK N k
  | 0, N => rfl
  | k + 1, N => by
    show (decide (N % 10 ≤ 3) && figKt 3 (N / 10) k) = (decide (N % 10 ≤ 3) && figK (N / 10) k)
    rw [figKt_3 k]
theorem lfM_L (t N : Nat) (ht : t < 10) (hN : N < 2 ^ 31) :
    ∀ (k n : Nat) (b : Bool) (I : mI), k < n → k ≤ 7 → (∀ i, k ≤ i → i < 7 → I 8 i = nI (figS N i)) → ∃ I', (∀ a, a ≠ 8 → I' a = I a) ∧ f_X11_laysFigures_L17 n 0 (nI t) (nI (N / 10 ^ (7 - k))) (bi b) (nI k + (-1)) I R1M = some (nI (N / 10000000), bi (b && figKt t (N / 10 ^ (7 - k)) k), I') ∧ ∀ i, i < 7 → I' 8 i = nI (figS N i) := by
  intro k
  induction k with
  | zero =>
    intro n b I h1 h2 h3
    obtain ⟨n, rfl⟩ : ∃ x, n = x + 1 := ⟨n - 1, by omega⟩
    refine ⟨I, fun _ _ => rfl, ?_, fun i hi => h3 i (by omega) hi⟩
    rw [f_X11_laysFigures_L17, if_pos (show nI 0 + (-1) < 0 by decide), show figKt t (N / 10 ^ (7 - 0)) 0 = true from rfl, Bool.and_true]
  | succ k ih =>
    intro n b I h1 h2 h3
    obtain ⟨n, rfl⟩ : ∃ x, n = x + 1 := ⟨n - 1, by omega⟩
    have hd : N / 10 ^ (7 - (k + 1)) ≤ N := Nat.div_le_self _ _
    have hs : N / 10 ^ (7 - (k + 1)) / 10 = N / 10 ^ (7 - k) := by rw [figs_10, show 7 - (k + 1) + 1 = 7 - k by omega]
    have hf : N / 10 ^ (7 - (k + 1)) % 10 = figS N k := by unfold figS; rw [show 6 - k = 7 - (k + 1) by omega]
    have hf10 : figS N k < 10 := Nat.mod_lt _ (by decide)
    have hK : figKt t (N / 10 ^ (7 - (k + 1))) (k + 1) = (decide (figS N k ≤ t) && figKt t (N / 10 ^ (7 - k)) k) := by
      show (decide (N / 10 ^ (7 - (k + 1)) % 10 ≤ t) && figKt t (N / 10 ^ (7 - (k + 1)) / 10) k) = _
      rw [hf, hs]
    rw [f_X11_laysFigures_L17]
    simp only [bnd]
    rw [pk_m1, if_neg (nI_pos (by omega)), mr12, lm8, if_pos (inb_nI (by omega) (by omega)), nI_clamp (by omega), u2_e, show (10 : Int32) = nI 10 from rfl, pk_rem (by omega) (by decide) (by decide), pk_div (by omega) (by decide) (by decide), hs, hf, hK]
    have go : ∀ b', ∃ I', (∀ a, a ≠ 8 → I' a = I a) ∧ f_X11_laysFigures_L17 n 0 (nI t) (nI (N / 10 ^ (7 - k))) (bi b') (nI k + (-1)) (u2 I 8 k (nI (figS N k))) R1M = some (nI (N / 10000000), bi (b' && figKt t (N / 10 ^ (7 - k)) k), I') ∧ ∀ i, i < 7 → I' 8 i = nI (figS N i) := by
      intro b'
      obtain ⟨I', e1, e2⟩ := ih n b' (u2 I 8 k (nI (figS N k))) (by omega) (by omega) (fun i hi hi2 => by
        by_cases he : i = k
        · rw [he, u2_e]
        · rw [u2_o _ _ _ he]; exact h3 i (by omega) hi2)
      exact ⟨I', fun a ha => by rw [e1 a ha, u2_n _ _ _ ha], e2⟩
    cases b with
    | false =>
      rw [if_pos (show bi false = 0 from rfl), Bool.false_and]
      have := go false
      rw [Bool.false_and] at this
      exact this
    | true =>
      rw [if_neg (show ¬ bi true = 0 by decide), Bool.true_and]
      by_cases h4 : figS N k ≤ t
      · rw [if_neg (nI_nlt (by omega) (by omega)), decide_eq_true h4, Bool.true_and]
        have := go true
        rw [Bool.true_and] at this
        exact this
      · rw [if_pos (nI_lt (by omega) (by omega)), decide_eq_false h4, Bool.false_and]
        have := go false
        rw [Bool.false_and] at this
        exact this
theorem lfM_neg {t : Int32} : ∀ (k n : Nat) (x : Int32) (I : mI), k < n → k ≤ 7 → ∃ I' y, (∀ a, a ≠ 8 → I' a = I a) ∧ f_X11_laysFigures_L17 n 0 t x 0 (nI k + (-1)) I R1M = some (y, 0, I') := by
  intro k
  induction k with
  | zero =>
    intro n x I h1 h2
    obtain ⟨n, rfl⟩ : ∃ x, n = x + 1 := ⟨n - 1, by omega⟩
    exact ⟨I, x, fun _ _ => rfl, by rw [f_X11_laysFigures_L17, if_pos (show nI 0 + (-1) < 0 by decide)]⟩
  | succ k ih =>
    intro n x I h1 h2
    obtain ⟨n, rfl⟩ : ∃ x, n = x + 1 := ⟨n - 1, by omega⟩
    obtain ⟨I', y, e1, e2⟩ := ih n (x / 10) (u2 I 8 k (x - x / 10 * 10)) (by omega) (by omega)
    refine ⟨I', y, fun a ha => by rw [e1 a ha, u2_n _ _ _ ha], ?_⟩
    rw [f_X11_laysFigures_L17]
    simp only [bnd]
    rw [pk_m1, if_neg (nI_pos (by omega)), mr12, lm8, if_pos (inb_nI (by omega) (by omega)), nI_clamp (by omega), if_pos trivial]
    exact e2
def FgM (I : mI) (N : Nat) : Prop := ∀ i, i < 7 → I 8 i = nI (figS N i)
theorem lfM_t {t N : Nat} (ht : t < 10) (hN : N < 2 ^ 31) (I : mI) : ∃ I', (∀ a, a ≠ 8 → I' a = I a) ∧ f_X11_laysFigures 0 (nI N) (nI t) I R1M = some (bi (figKt t N 7 && decide (N / 10000000 = 0)), I') ∧ FgM I' N := by
  obtain ⟨I', e1, e2, e3⟩ := lfM_L t N ht hN 7 FU true I (by rw [FU_eq]; omega) (Nat.le_refl _) (fun i hi hi2 => by omega)
  rw [show 7 - 7 = 0 from rfl, show N / 10 ^ 0 = N from Nat.div_one _, show nI 7 + (-1) = 6 from rfl, show bi true = 1 from rfl, Bool.true_and] at e2
  refine ⟨I', e1, ?_, e3⟩
  unfold f_X11_laysFigures
  simp only [bnd]
  rw [if_neg (nI_pos hN), e2]
  show (if bi (figKt t N 7) = 0 then some ((0 : Int32), I') else if nI (N / 10000000) = 0 then some (1, I') else some (0, I')) = _
  cases figKt t N 7 with
  | false => rw [if_pos (show bi false = 0 from rfl), Bool.false_and]; rfl
  | true =>
    rw [if_neg (show ¬ bi true = 0 by decide), Bool.true_and]
    by_cases hz : N / 10000000 = 0
    · rw [hz, if_pos (show nI 0 = 0 from rfl)]
      rfl
    · rw [if_neg (nI_ne0 (by omega) (by omega)), decide_eq_false hz]
      rfl
theorem lfM_ok (x : Int32) (I : mI) : ∃ I', (∀ a, a ≠ 8 → I' a = I a) ∧ f_X11_laysFigures 0 x 3 I R1M = some (bi (figOK x), I') ∧ (figOK x = true → FgM I' x.toNatClampNeg) := by
  unfold figOK
  by_cases h0 : 0 ≤ x
  · rw [decide_eq_true h0, Bool.true_and]
    obtain ⟨N, hN, rfl⟩ := nI_of (x := x) (fun q => by rw [Int32.lt_iff_toInt_lt] at q; rw [Int32.le_iff_toInt_le] at h0; omega)
    rw [nI_clamp hN]
    obtain ⟨I', e1, e2, e3⟩ := lfM_t (t := 3) (by decide) hN I
    rw [figKt_3] at e2
    exact ⟨I', e1, e2, fun _ => e3⟩
  · rw [decide_eq_false h0, Bool.false_and]
    obtain ⟨I', y, e1, e2⟩ := lfM_neg (t := 3) 7 FU x I (by rw [FU_eq]; omega) (Nat.le_refl _)
    rw [show nI 7 + (-1) = 6 from rfl] at e2
    refine ⟨I', e1, ?_, fun q => by cases q⟩
    unfold f_X11_laysFigures
    simp only [bnd]
    rw [if_pos (show x < 0 from by rw [Int32.lt_iff_toInt_lt]; rw [Int32.le_iff_toInt_le] at h0; omega), e2]
    rfl
theorem figOK_le {x : Int32} (h : figOK x = true) : ∀ i, i < 7 → figS x.toNatClampNeg i ≤ 3 := by
  unfold figOK at h
  simp only [Bool.and_eq_true] at h
  have h7 := h.2.1
  have key : ∀ (k N : Nat), figK N k = true → ∀ j, j < k → N / 10 ^ j % 10 ≤ 3 := by
    intro k
    induction k with
    | zero => intro N _ j hj; omega
    | succ k ih =>
      intro N hN j hj
      have h1 : (decide (N % 10 ≤ 3) && figK (N / 10) k) = true := hN
      simp only [Bool.and_eq_true, decide_eq_true_eq] at h1
      cases j with
      | zero => rw [Nat.pow_zero, Nat.div_one]; exact h1.1
      | succ j =>
        have := ih (N / 10) h1.2 j (by omega)
        rw [Nat.div_div_eq_div_mul, Nat.mul_comm, ← Nat.pow_succ] at this
        exact this
  intro i hi
  exact key 7 _ h7 (6 - i) (by omega)
