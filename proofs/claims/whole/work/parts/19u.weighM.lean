/-! ===== weights: the model weighs a term ===== -/
def PR : Nat := 1000000007
def wl (F : Nat → Nat) (c : Int32) : Nat × Nat × Nat := (if c = 97 then F 0 else if c = 98 then F 1 else 0, if c = 120 then 1 else 0, if c = 121 then 1 else 0)
def wf1 (F : Nat → Nat) (a : Nat × Nat × Nat) : Nat × Nat × Nat := ((F 2 + F 4 * a.1) % PR, (F 4 * a.2.1) % PR, (F 4 * a.2.2) % PR)
def wg2 (F : Nat → Nat) (a b : Nat × Nat × Nat) : Nat × Nat × Nat := ((F 3 + F 5 * a.1 + F 6 * b.1) % PR, (F 5 * a.2.1 + F 6 * b.2.1) % PR, (F 5 * a.2.2 + F 6 * b.2.2) % PR)
def wst3 (F : Nat → Nat) (l : List Int32) : List (Nat × Nat × Nat) := stk (wl F) (wf1 F) (wg2 F) l
def d3 : Nat × Nat × Nat := (0, 0, 0)
def Sm3 (a : Nat × Nat × Nat) : Prop := a.1 < PR ∧ a.2.1 < PR ∧ a.2.2 < PR
theorem i2l {n : Nat} (h : n < 2 ^ 31) : (nI n).toInt64 = lN n := by
  apply Int64.toInt_inj.mp
  rw [Int32.toInt_toInt64, nI_toInt h, pk_lT (by omega)]
theorem sm_mem {F : Nat → Nat} (hF : ∀ i, i < 7 → F i ≤ 9) : ∀ (l : List Int32), ∀ a ∈ wst3 F l, Sm3 a
  | [], a, h => by cases h
  | c :: cs, a, h => by
    have ih := sm_mem hF cs
    have hP : 0 < PR := by decide
    unfold wst3 at h ih
    rcases wn_3 c with ⟨h1, h2⟩ | ⟨h1, h2⟩ | ⟨_, _, h2⟩
    · subst h1
      cases hs : stk (wl F) (wf1 F) (wg2 F) cs with
      | nil =>
        have : stk (wl F) (wf1 F) (wg2 F) (102 :: cs) = [] := by
          conv => lhs; unfold stk
          rw [if_pos rfl, hs]
        rw [this] at h; cases h
      | cons x t =>
        rw [stk_f hs] at h
        rw [hs] at ih
        rcases List.mem_cons.mp h with q | q
        · rw [q]; exact ⟨Nat.mod_lt _ hP, Nat.mod_lt _ hP, Nat.mod_lt _ hP⟩
        · exact ih a (List.mem_cons_of_mem _ q)
    · subst h1
      have emp : ∀ s, stk (wl F) (wf1 F) (wg2 F) cs = s → (∀ x y t, s ≠ x :: y :: t) → stk (wl F) (wf1 F) (wg2 F) (103 :: cs) = [] := by
        intro s hs hn
        conv => lhs; unfold stk
        rw [if_neg (by decide), if_pos rfl, hs]
        cases s with
        | nil => rfl
        | cons x t =>
          cases t with
          | nil => rfl
          | cons y t => exact absurd rfl (hn x y t)
      cases hs : stk (wl F) (wf1 F) (wg2 F) cs with
      | nil => rw [emp _ hs (fun x y t q => by cases q)] at h; cases h
      | cons x t =>
        cases t with
        | nil => rw [emp _ hs (fun x y t q => by cases q)] at h; cases h
        | cons y t =>
          rw [stk_g hs] at h
          rw [hs] at ih
          rcases List.mem_cons.mp h with q | q
          · rw [q]; exact ⟨Nat.mod_lt _ hP, Nat.mod_lt _ hP, Nat.mod_lt _ hP⟩
          · exact ih a (List.mem_cons_of_mem _ (List.mem_cons_of_mem _ q))
    · rw [stk_l h2] at h
      rcases List.mem_cons.mp h with q | q
      · rw [q]
        have h0 := hF 0 (by decide)
        have h1 := hF 1 (by decide)
        unfold wl Sm3 PR
        refine ⟨?_, ?_, ?_⟩
        · show (if c = 97 then F 0 else if c = 98 then F 1 else 0) < _
          split
          · omega
          · split <;> omega
        · show (if c = 120 then 1 else 0) < _
          split <;> omega
        · show (if c = 121 then 1 else 0) < _
          split <;> omega
      · exact ih a q
/-- a stack in the model's rows of longs -/
def StM (L : mL) (s : List (Nat × Nat × Nat)) : Prop := ∀ k, k < s.length → L 9 (s.length - 1 - k) = lN (s.getD k d3).1 ∧ L 10 (s.length - 1 - k) = lN (s.getD k d3).2.1 ∧ L 11 (s.length - 1 - k) = lN (s.getD k d3).2.2
theorem StM.top {L : mL} {x : Nat × Nat × Nat} {t : List (Nat × Nat × Nat)} (h : StM L (x :: t)) : L 9 t.length = lN x.1 ∧ L 10 t.length = lN x.2.1 ∧ L 11 t.length = lN x.2.2 := by
  have := h 0 (by rw [List.length_cons]; omega)
  rw [List.length_cons, show t.length + 1 - 1 - 0 = t.length by omega] at this
  exact this
theorem StM.tl {L : mL} {x : Nat × Nat × Nat} {t : List (Nat × Nat × Nat)} (h : StM L (x :: t)) : StM L t := by
  intro k hk
  have := h (k + 1) (by rw [List.length_cons]; omega)
  rw [List.length_cons, show t.length + 1 - 1 - (k + 1) = t.length - 1 - k by omega, List.getD_cons_succ] at this
  exact this
theorem StM.set {L : mL} {x : Nat × Nat × Nat} {t : List (Nat × Nat × Nat)} (h : StM L t) : StM (u2 (u2 (u2 L 9 t.length (lN x.1)) 10 t.length (lN x.2.1)) 11 t.length (lN x.2.2)) (x :: t) := by
  intro k hk
  rw [List.length_cons] at hk ⊢
  rw [u2_n _ _ _ (show (9 : Nat) ≠ 11 by decide), u2_n _ _ _ (show (9 : Nat) ≠ 10 by decide), u2_n _ _ _ (show (10 : Nat) ≠ 11 by decide)]
  cases k with
  | zero =>
    rw [show t.length + 1 - 1 - 0 = t.length by omega, u2_e, u2_e, u2_e]
    exact ⟨rfl, rfl, rfl⟩
  | succ k =>
    rw [show t.length + 1 - 1 - (k + 1) = t.length - 1 - k by omega, u2_o _ _ _ (by omega), u2_o _ _ _ (by omega), u2_o _ _ _ (by omega), u2_n _ _ _ (show (10 : Nat) ≠ 9 by decide), u2_n _ _ _ (show (11 : Nat) ≠ 10 by decide), u2_n _ _ _ (show (11 : Nat) ≠ 9 by decide), List.getD_cons_succ]
    exact h k (by omega)
theorem rem_P {a : Nat} (h : a < 2 ^ 63) : lN a - lN a / (1000000007 : Int64) * (1000000007 : Int64) = lN (a % PR) := pk_lRem (b := 1000000007) h (by decide) (by decide)
theorem wfb_le : ∀ (l : List Int32) (n : Nat), wfb n l = true → n ≤ l.length
  | [], 0, _ => Nat.le_refl _
  | [], n + 1, h => by cases h
  | c :: cs, 0, h => by cases h
  | c :: cs, n + 1, h => by
    rw [wfb_cons] at h
    have := wfb_le cs _ h
    rw [List.length_cons]
    omega
theorem wtM_L {a o : Nat} {l : List Int32} {F : Nat → Nat} {I : mI} (ha : lnM a ≤ 5000) (ho : o + l.length ≤ lnM a) (h60 : l.length ≤ 60) (hI : ∀ j, j < l.length → I a (o + j) = l.getD j 0) (hF : ∀ i, i < 7 → F i ≤ 9) (hf : ∀ i, i < 7 → I 8 i = nI (F i)) (hl : wfb 1 l = true) :
    ∀ (k n : Nat) (L : mL), k < n → k ≤ l.length → StM L (wst3 F (l.drop k)) → ∃ L', f_X11_weighsTerm_L8 n 0 a (nI o) (nI (wst3 F (l.drop k)).length) (nI k + (-1)) I L R1M = some L' ∧ StM L' (wst3 F l) ∧ ∀ x, x ≠ 9 → x ≠ 10 → x ≠ 11 → L' x = L x := by
  have q2 : (2 : Int32).toNatClampNeg = 2 := rfl
  have q3 : (3 : Int32).toNatClampNeg = 3 := rfl
  have q4 : (4 : Int32).toNatClampNeg = 4 := rfl
  have q5 : (5 : Int32).toNatClampNeg = 5 := rfl
  have q6 : (6 : Int32).toNatClampNeg = 6 := rfl
  have hc : ∀ i, i < 7 → (I 8 i).toInt64 = lN (F i) := fun i hi => by
    have := hF i hi
    rw [hf i hi, i2l (by omega)]
  intro k
  induction k with
  | zero =>
    intro n L h1 h2 h3
    obtain ⟨n, rfl⟩ : ∃ x, n = x + 1 := ⟨n - 1, by omega⟩
    refine ⟨L, ?_, by rw [List.drop_zero] at h3; exact h3, fun _ _ _ _ => rfl⟩
    rw [f_X11_weighsTerm_L8, if_pos (show nI 0 + (-1) < 0 by decide)]
  | succ k ih =>
    intro n L h1 h2 h3
    obtain ⟨n, rfl⟩ : ∃ x, n = x + 1 := ⟨n - 1, by omega⟩
    have hk : k < l.length := by omega
    have hdc := drop_c hk
    obtain ⟨m, hm⟩ := wfb_drop l 1 k hl hk
    rw [hdc, wfb_cons] at hm
    have hlen := stk_len (lf := wl F) (f1 := wf1 F) (g2 := wg2 F) _ _ hm
    have hle := wfb_le _ _ hm
    rw [List.length_drop] at hle
    have hsm := sm_mem hF (l.drop (k + 1))
    rw [f_X11_weighsTerm_L8]
    simp only [bnd]
    rw [pk_m1, if_neg (nI_pos (by omega)), nI_add, if_pos (inb_nI (by omega) (by omega)), nI_clamp (show o + k < 2 ^ 31 by omega), hI k hk]
    rw [mr12, mr13, mr14, mr15, lm8, lm9, lm10, lm11]
    have next : ∀ (s : List (Nat × Nat × Nat)) (L1 : mL), wst3 F (l.drop k) = s → StM L1 s → (∀ x, x ≠ 9 → x ≠ 10 → x ≠ 11 → L1 x = L x) → ∃ L', f_X11_weighsTerm_L8 n 0 a (nI o) (nI s.length) (nI k + (-1)) I L1 R1M = some L' ∧ StM L' (wst3 F l) ∧ ∀ x, x ≠ 9 → x ≠ 10 → x ≠ 11 → L' x = L x := by
      intro s L1 e1 e2 e3
      obtain ⟨L', f1, f2, f3⟩ := ih n L1 (by omega) (by omega) (by rw [e1]; exact e2)
      rw [e1] at f1
      exact ⟨L', f1, f2, fun x x1 x2 x3 => by rw [f3 x x1 x2 x3, e3 x x1 x2 x3]⟩
    have hst : wst3 F (l.drop (k + 1)) = stk (wl F) (wf1 F) (wg2 F) (l.drop (k + 1)) := rfl
    have hF0 := hF 0 (by decide)
    have hF1 := hF 1 (by decide)
    have hF2 := hF 2 (by decide)
    have hF3 := hF 3 (by decide)
    have hF4 := hF 4 (by decide)
    have hF5 := hF 5 (by decide)
    have hF6 := hF 6 (by decide)
    have mul : ∀ {f v : Nat}, f ≤ 9 → v < PR → f * v ≤ 9 * 1000000006 := fun {f v} h h' => Nat.mul_le_mul h (by unfold PR at h'; omega)
    rcases wn_3 (l.getD k 0) with ⟨c1, c2⟩ | ⟨c1, c2⟩ | ⟨c1, c1', c2⟩
    · rw [c2] at hlen
      cases hs : stk (wl F) (wf1 F) (wg2 F) (l.drop (k + 1)) with
      | nil => rw [hs] at hlen; cases hlen
      | cons x t =>
        rw [hst, hs] at h3 hsm ⊢
        rw [hs, List.length_cons] at hlen
        obtain ⟨t1, t2, t3⟩ := h3.top
        obtain ⟨b1, b2, b3⟩ := hsm x List.mem_cons_self
        have m1 := mul hF4 b1
        have m2 := mul hF4 b2
        have m3 := mul hF4 b3
        have e : wst3 F (l.drop k) = wf1 F x :: t := by
          unfold wst3
          rw [hdc, c1]
          exact stk_f hs
        rw [if_pos c1, if_pos (show inb 2 7 = true from rfl), if_pos (show inb 4 7 = true from rfl), List.length_cons, show nI (t.length + 1) - 1 = nI t.length by rw [show (1 : Int32) = nI 1 from rfl, nI_sub (by omega)]; rfl, if_pos (inb_nI (show t.length < 64 by omega) (by omega)), nI_clamp (show t.length < 2 ^ 31 by omega), q2, q4, hc 2 (by decide), hc 4 (by decide), t1, lN_mul, lN_add, rem_P (by omega), u2_n _ _ _ (show (10 : Nat) ≠ 9 by decide), t2, lN_mul, rem_P (by omega), u2_n _ _ _ (show (11 : Nat) ≠ 10 by decide), u2_n _ _ _ (show (11 : Nat) ≠ 9 by decide), t3, lN_mul, rem_P (by omega)]
        rw [if_pos (inb_nI (show t.length < 64 by omega) (by omega)), if_pos (inb_nI (show t.length < 64 by omega) (by omega))]
        exact next (wf1 F x :: t) _ e (StM.set (x := wf1 F x) h3.tl) (fun z z1 z2 z3 => by rw [u2_n _ _ _ z3, u2_n _ _ _ z2, u2_n _ _ _ z1])
    · rw [c2] at hlen
      cases hs : stk (wl F) (wf1 F) (wg2 F) (l.drop (k + 1)) with
      | nil => rw [hs] at hlen; cases hlen
      | cons x t' =>
        cases t' with
        | nil => rw [hs, List.length_singleton] at hlen; omega
        | cons y t =>
          rw [hst, hs] at h3 hsm ⊢
          rw [hs, List.length_cons, List.length_cons] at hlen
          obtain ⟨t1, t2, t3⟩ := h3.top
          obtain ⟨u1, u2', u3⟩ := h3.tl.top
          rw [List.length_cons] at t1 t2 t3
          obtain ⟨b1, b2, b3⟩ := hsm x List.mem_cons_self
          obtain ⟨d1, d2, d3'⟩ := hsm y (List.mem_cons_of_mem _ List.mem_cons_self)
          have m1 := mul hF5 b1
          have m2 := mul hF5 b2
          have m3 := mul hF5 b3
          have n1 := mul hF6 d1
          have n2 := mul hF6 d2
          have n3 := mul hF6 d3'
          have e : wst3 F (l.drop k) = wg2 F x y :: t := by
            unfold wst3
            rw [hdc, c1]
            exact stk_g hs
          have x1 : nI (t.length + 1 + 1) - 1 = nI (t.length + 1) := by rw [show (1 : Int32) = nI 1 from rfl, nI_sub (by omega)]; rfl
          have x2 : nI (t.length + 1 + 1) - 2 = nI t.length := by rw [show (2 : Int32) = nI 2 from rfl, nI_sub (by omega)]; rfl
          rw [if_neg (show ¬ l.getD k 0 = 102 by rw [c1]; decide), if_pos c1, if_pos (show inb 3 7 = true from rfl), if_pos (show inb 5 7 = true from rfl), if_pos (show inb 6 7 = true from rfl), List.length_cons, List.length_cons, x1, x2, if_pos (inb_nI (show t.length + 1 < 64 by omega) (by omega)), if_pos (inb_nI (show t.length < 64 by omega) (by omega)), nI_clamp (show t.length < 2 ^ 31 by omega), nI_clamp (show t.length + 1 < 2 ^ 31 by omega), q3, q5, q6, hc 3 (by decide), hc 5 (by decide), hc 6 (by decide), t1, u1, lN_mul, lN_mul, lN_add, lN_add, rem_P (by omega), u2_n _ _ _ (show (10 : Nat) ≠ 9 by decide), t2, u2', lN_mul, lN_mul, lN_add, rem_P (by omega), u2_n _ _ _ (show (11 : Nat) ≠ 10 by decide), u2_n _ _ _ (show (11 : Nat) ≠ 9 by decide), t3, u3, lN_mul, lN_mul, lN_add, rem_P (by omega), pk_m1]
          rw [if_pos (inb_nI (show t.length + 1 < 64 by omega) (by omega)), if_pos (inb_nI (show t.length < 64 by omega) (by omega)), if_pos (inb_nI (show t.length + 1 < 64 by omega) (by omega)), if_pos (inb_nI (show t.length < 64 by omega) (by omega))]
          exact next (wg2 F x y :: t) _ e (StM.set (x := wg2 F x y) h3.tl.tl) (fun z z1 z2 z3 => by rw [u2_n _ _ _ z3, u2_n _ _ _ z2, u2_n _ _ _ z1])
    · rw [c2, Nat.add_zero] at hlen
      rw [hst] at h3 ⊢
      generalize hs : stk (wl F) (wf1 F) (wg2 F) (l.drop (k + 1)) = s at h3 hlen ⊢
      have e : wst3 F (l.drop k) = wl F (l.getD k 0) :: s := by
        unfold wst3
        rw [hdc, stk_l c2, hs]
      have fin := next (wl F (l.getD k 0) :: s) _ e (StM.set (x := wl F (l.getD k 0)) h3) (fun z z1 z2 z3 => by rw [u2_n _ _ _ z3, u2_n _ _ _ z2, u2_n _ _ _ z1])
      have i64 : inb (nI s.length) 64 = true := inb_nI (by omega) (by omega)
      rw [List.length_cons] at fin
      unfold wl at fin
      rw [if_neg c1, if_neg c1', if_pos i64, if_pos i64, if_pos i64, nI_clamp (show s.length < 2 ^ 31 by omega), nI_1 s.length, if_pos (show inb 0 7 = true from rfl), if_pos (show inb 1 7 = true from rfl), i0, t1, hc 0 (by decide), hc 1 (by decide)]
      by_cases e1 : l.getD k 0 = 97
      · have e3 : ¬ l.getD k 0 = 120 := by rw [e1]; decide
        have e4 : ¬ l.getD k 0 = 121 := by rw [e1]; decide
        rw [if_pos e1, if_neg e3, if_neg e4]
        simp only [if_pos e1, if_neg e3, if_neg e4] at fin
        repeat rw [if_pos i64]
        exact fin
      · rw [if_neg e1]
        by_cases e2 : l.getD k 0 = 98
        · have e3 : ¬ l.getD k 0 = 120 := by rw [e2]; decide
          have e4 : ¬ l.getD k 0 = 121 := by rw [e2]; decide
          rw [if_pos e2, if_neg e3, if_neg e4]
          simp only [if_neg e1, if_pos e2, if_neg e3, if_neg e4] at fin
          repeat rw [if_pos i64]
          exact fin
        · rw [if_neg e2]
          by_cases e3 : l.getD k 0 = 120
          · have e4 : ¬ l.getD k 0 = 121 := by rw [e3]; decide
            rw [if_pos e3, if_neg e4]
            simp only [if_neg e1, if_neg e2, if_pos e3, if_neg e4] at fin
            repeat rw [if_pos i64]
            exact fin
          · rw [if_neg e3]
            by_cases e4 : l.getD k 0 = 121
            · rw [if_pos e4]
              simp only [if_neg e1, if_neg e2, if_neg e3, if_pos e4] at fin
              repeat rw [if_pos i64]
              exact fin
            · rw [if_neg e4]
              simp only [if_neg e1, if_neg e2, if_neg e3, if_neg e4] at fin
              repeat rw [if_pos i64]
              exact fin
theorem wtM_ok1 {a o : Nat} {l : List Int32} {F : Nat → Nat} {I : mI} {L : mL} (ha : lnM a ≤ 5000) (ho : o + l.length ≤ lnM a) (h60 : l.length ≤ 60) (hI : ∀ j, j < l.length → I a (o + j) = l.getD j 0) (hF : ∀ i, i < 7 → F i ≤ 9) (hf : ∀ i, i < 7 → I 8 i = nI (F i)) (hl : wfb 1 l = true) :
    ∃ L', f_X11_weighsTerm 0 a (nI o) (nI l.length) I L R1M = some L' ∧ (L' 9 0 = lN ((wst3 F l).headD d3).1 ∧ L' 10 0 = lN ((wst3 F l).headD d3).2.1 ∧ L' 11 0 = lN ((wst3 F l).headD d3).2.2) ∧ ∀ x, x ≠ 9 → x ≠ 10 → x ≠ 11 → L' x = L x := by
  have h0 : wst3 F (l.drop l.length) = [] := by rw [List.drop_length]; rfl
  obtain ⟨L', e1, e2, e3⟩ := wtM_L ha ho h60 hI hF hf hl l.length FU L (by rw [FU_eq]; omega) (Nat.le_refl _) (by rw [h0]; exact fun k hk => by cases hk)
  rw [h0] at e1
  have h1 : (wst3 F l).length = 1 := stk_len l 1 hl
  refine ⟨L', ?_, ?_, e3⟩
  · unfold f_X11_weighsTerm
    rw [nI_m1]
    rw [show nI ([] : List (Nat × Nat × Nat)).length = 0 from rfl] at e1
    rw [e1]
    rfl
  · cases hs : wst3 F l with
    | nil => rw [hs] at h1; cases h1
    | cons x t =>
      rw [hs] at h1 e2
      have ht : t.length = 0 := by rw [List.length_cons] at h1; omega
      have := e2.top
      rw [ht] at this
      exact this
