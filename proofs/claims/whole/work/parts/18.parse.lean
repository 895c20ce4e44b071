/-! ===== reading: what is meant ===== -/
def lead : List Int32 → Nat
  | [] => 0
  | c :: cs => if c = 32 then 1 + lead cs else 0
theorem lead_c (c : Int32) (cs : List Int32) : lead (c :: cs) = if c = 32 then 1 + lead cs else 0 := rfl
theorem lead_le : ∀ l : List Int32, lead l ≤ l.length
  | [] => Nat.le_refl _
  | c :: cs => by
    have := lead_le cs
    rw [lead_c, List.length_cons]
    split <;> omega
/-- behind blanks -/
def sk (T : List Int32) (p : Nat) : Nat := p + lead (T.drop p)
theorem sk_le {T : List Int32} {p : Nat} (h : p ≤ T.length) : sk T p ≤ T.length := by
  unfold sk
  have := lead_le (T.drop p)
  rw [List.length_drop] at this
  omega
theorem sk_ge (T : List Int32) (p : Nat) : p ≤ sk T p := by unfold sk; omega
theorem sk_b {T : List Int32} {p : Nat} (h : p < T.length) (hb : T.getD p 0 = 32) : sk T p = sk T (p + 1) := by
  unfold sk
  rw [drop_c h, lead_c, if_pos hb]
  omega
theorem sk_n {T : List Int32} {p : Nat} (h : p < T.length) (hb : ¬ T.getD p 0 = 32) : sk T p = p := by
  unfold sk
  rw [drop_c h, lead_c, if_neg hb]
  rfl
theorem sk_end {T : List Int32} {p : Nat} (h : T.length ≤ p) : sk T p = p := by
  unfold sk
  rw [List.drop_of_length_le h]
  rfl
theorem sk_out {T : List Int32} : ∀ (q p : Nat), T.length - p = q → sk T p < T.length → ¬ T.getD (sk T p) 0 = 32 := by
  intro q
  induction q with
  | zero =>
    intro p h1 h2
    rw [sk_end (by omega)] at h2
    omega
  | succ q ih =>
    intro p h1 h2
    by_cases hb : T.getD p 0 = 32
    · rw [sk_b (by omega) hb] at h2 ⊢
      exact ih (p + 1) (by omega) h2
    · rw [sk_n (by omega) hb]
      exact hb
theorem sk_sk (T : List Int32) (p : Nat) : sk T (sk T p) = sk T p := by
  by_cases h : sk T p < T.length
  · exact sk_n h (sk_out _ p rfl h)
  · exact sk_end (by omega)
/-- what a letter wants behind it -/
def opS (c : Int32) : List Int32 := if c = 103 then [40, 84, 44, 84, 41] else if c = 102 then [40, 84, 41] else []
def vlb (c : Int32) : Bool := decide (c = 97) || decide (c = 98) || decide (c = 102) || decide (c = 103) || decide (c = 120) || decide (c = 121)
theorem vlb_iff (c : Int32) : vlb c = true ↔ VL c := by
  unfold vlb VL
  simp [or_assoc]
def alw (m c : Int32) : Bool := decide (ub c &&& m = ub c)
/-- reading a term: what is due, what was read -/
def runT (T : List Int32) (most : Nat) (a b : Int32) : Nat → Nat → List Int32 → List Int32 → Nat ⊕ (Nat × List Int32)
  | 0, p, _, _ => Sum.inl p
  | _ + 1, p, [], w => Sum.inr (p, w)
  | n + 1, p, d :: ds, w =>
    if sk T p < T.length then
      (if d = 84 then
        (if w.length < most ∧ vlb (T.getD (sk T p) 0) = true ∧ alw (if w.length = 0 then a else b) (T.getD (sk T p) 0) = true then runT T most a b n (sk T p + 1) (opS (T.getD (sk T p) 0) ++ ds) (w ++ [T.getD (sk T p) 0]) else Sum.inl (sk T p))
      else if T.getD (sk T p) 0 = d then runT T most a b n (sk T p + 1) ds w else Sum.inl (sk T p))
    else Sum.inl (sk T p)
theorem runT_nil (T : List Int32) (most : Nat) (a b : Int32) (n p : Nat) (w : List Int32) : runT T most a b (n + 1) p [] w = Sum.inr (p, w) := rfl
theorem runT_end {T : List Int32} {most : Nat} {a b : Int32} {n p : Nat} {d : Int32} {ds w : List Int32} (h : ¬ sk T p < T.length) : runT T most a b (n + 1) p (d :: ds) w = Sum.inl (sk T p) := by
  rw [runT, if_neg h]
theorem runT_T {T : List Int32} {most : Nat} {a b : Int32} {n p : Nat} {ds w : List Int32} (h : sk T p < T.length) (hc : w.length < most ∧ vlb (T.getD (sk T p) 0) = true ∧ alw (if w.length = 0 then a else b) (T.getD (sk T p) 0) = true) : runT T most a b (n + 1) p (84 :: ds) w = runT T most a b n (sk T p + 1) (opS (T.getD (sk T p) 0) ++ ds) (w ++ [T.getD (sk T p) 0]) := by
  rw [runT, if_pos h, if_pos rfl, if_pos hc]
theorem runT_Tn {T : List Int32} {most : Nat} {a b : Int32} {n p : Nat} {ds w : List Int32} (h : sk T p < T.length) (hc : ¬ (w.length < most ∧ vlb (T.getD (sk T p) 0) = true ∧ alw (if w.length = 0 then a else b) (T.getD (sk T p) 0) = true)) : runT T most a b (n + 1) p (84 :: ds) w = Sum.inl (sk T p) := by
  rw [runT, if_pos h, if_pos rfl, if_neg hc]
theorem runT_s {T : List Int32} {most : Nat} {a b : Int32} {n p : Nat} {d : Int32} {ds w : List Int32} (h : sk T p < T.length) (hd : ¬ d = 84) (hc : T.getD (sk T p) 0 = d) : runT T most a b (n + 1) p (d :: ds) w = runT T most a b n (sk T p + 1) ds w := by
  rw [runT, if_pos h, if_neg hd, if_pos hc]
theorem runT_sn {T : List Int32} {most : Nat} {a b : Int32} {n p : Nat} {d : Int32} {ds w : List Int32} (h : sk T p < T.length) (hd : ¬ d = 84) (hc : ¬ T.getD (sk T p) 0 = d) : runT T most a b (n + 1) p (d :: ds) w = Sum.inl (sk T p) := by
  rw [runT, if_pos h, if_neg hd, if_neg hc]
def cntT : List Int32 → Nat
  | [] => 0
  | d :: ds => if d = 84 then 1 + cntT ds else cntT ds
theorem cntT_c (d : Int32) (ds : List Int32) : cntT (d :: ds) = if d = 84 then 1 + cntT ds else cntT ds := rfl
theorem cntT_app : ∀ (l r : List Int32), cntT (l ++ r) = cntT l + cntT r
  | [], r => by simp [cntT]
  | d :: ds, r => by
    rw [List.cons_append, cntT_c, cntT_c, cntT_app ds r]
    split <;> omega
theorem cntT_op (c : Int32) : cntT (opS c) = wn c := by
  unfold opS wn
  split
  · rfl
  · split <;> rfl
/-- what comes out is a term -/
theorem runT_wf {T : List Int32} {most : Nat} {a b : Int32} : ∀ (n p : Nat) (ds w : List Int32) (q : Nat) (w' : List Int32), p ≤ T.length → w.length ≤ most → runT T most a b n p ds w = Sum.inr (q, w') → q ≤ T.length ∧ w'.length ≤ most ∧ ∃ v, w' = w ++ v ∧ wfb (cntT ds) v = true ∧ VLs v ∧ (∀ c ∈ v.drop (if w.length = 0 then 1 else 0), alw b c = true) ∧ (w.length = 0 → ∀ c ∈ v.take 1, alw a c = true) := by
  intro n
  induction n with
  | zero => intro p ds w q w' _ _ h; cases h
  | succ n ih =>
    intro p ds w q w' hp hw h
    cases ds with
    | nil =>
      rw [runT_nil] at h
      cases h
      exact ⟨hp, hw, [], by simp, rfl, (fun c hc => by cases hc), (fun c hc => by simp at hc), (fun _ c hc => by simp at hc)⟩
    | cons d ds =>
      by_cases h1 : sk T p < T.length
      · by_cases h2 : d = 84
        · subst h2
          by_cases h3 : w.length < most ∧ vlb (T.getD (sk T p) 0) = true ∧ alw (if w.length = 0 then a else b) (T.getD (sk T p) 0) = true
          · rw [runT_T h1 h3] at h
            obtain ⟨k1, k2, v, k3, k4, k5, k6, k7⟩ := ih _ _ _ _ _ (by omega) (by rw [List.length_append, List.length_singleton]; omega) h
            rw [List.length_append, List.length_singleton, if_neg (show ¬ w.length + 1 = 0 by omega), List.drop_zero] at k6
            refine ⟨k1, k2, T.getD (sk T p) 0 :: v, by rw [k3, List.append_assoc]; rfl, ?_, ?_, ?_, ?_⟩
            · rw [show cntT (84 :: ds) = cntT ds + 1 by rw [cntT_c, if_pos rfl, Nat.add_comm], wfb_cons, ← cntT_op, Nat.add_comm, ← cntT_app]
              exact k4
            · intro c hc
              rcases List.mem_cons.mp hc with hc | hc
              · rw [hc]; exact (vlb_iff _).mp h3.2.1
              · exact k5 c hc
            · intro c hc
              by_cases hz : w.length = 0
              · rw [if_pos hz] at hc
                exact k6 c hc
              · rw [if_neg hz, List.drop_zero] at hc
                rcases List.mem_cons.mp hc with hc | hc
                · have := h3.2.2
                  rw [if_neg hz] at this
                  rw [hc]; exact this
                · exact k6 c hc
            · intro hz c hc
              have := h3.2.2
              rw [if_pos hz] at this
              rw [List.take_succ_cons, List.take_zero, List.mem_singleton] at hc
              rw [hc]; exact this
          · rw [runT_Tn h1 h3] at h
            cases h
        · by_cases h3 : T.getD (sk T p) 0 = d
          · rw [runT_s h1 h2 h3] at h
            have := ih _ _ _ _ _ (by omega) hw h
            rw [show cntT (d :: ds) = cntT ds by rw [cntT_c, if_neg h2]]
            exact this
          · rw [runT_sn h1 h2 h3] at h
            cases h
      · rw [runT_end h1] at h
        cases h
/-- where reading fails lies within the text -/
theorem runT_le {T : List Int32} {most : Nat} {a b : Int32} : ∀ (n p : Nat) (ds w : List Int32) (q : Nat), p ≤ T.length → runT T most a b n p ds w = Sum.inl q → q ≤ T.length := by
  intro n
  induction n with
  | zero => intro p ds w q hp h; cases h; exact hp
  | succ n ih =>
    intro p ds w q hp h
    have hs := sk_le hp
    cases ds with
    | nil => cases h
    | cons d ds =>
      by_cases h1 : sk T p < T.length
      · by_cases h2 : d = 84
        · subst h2
          by_cases h3 : w.length < most ∧ vlb (T.getD (sk T p) 0) = true ∧ alw (if w.length = 0 then a else b) (T.getD (sk T p) 0) = true
          · rw [runT_T h1 h3] at h
            exact ih _ _ _ _ (by omega) h
          · rw [runT_Tn h1 h3] at h
            cases h; exact hs
        · by_cases h3 : T.getD (sk T p) 0 = d
          · rw [runT_s h1 h2 h3] at h
            exact ih _ _ _ _ (by omega) h
          · rw [runT_sn h1 h2 h3] at h
            cases h; exact hs
      · rw [runT_end h1] at h
        cases h; exact hs
/-- a term from a place on -/
def rdT (T : List Int32) (most : Nat) (a b : Int32) (p : Nat) : Nat ⊕ (Nat × List Int32) := runT T most a b (T.length + 1) p [84] []
theorem rdT_ok {T : List Int32} {most : Nat} {a b : Int32} {p q : Nat} {l : List Int32} (hp : p ≤ T.length) (h : rdT T most a b p = Sum.inr (q, l)) : q ≤ T.length ∧ l.length ≤ most ∧ Tm l ∧ (∀ c ∈ l.drop 1, alw b c = true) ∧ ∀ c ∈ l.take 1, alw a c = true := by
  obtain ⟨k1, k2, v, k3, k4, k5, k6, k7⟩ := runT_wf _ _ _ _ _ _ hp (Nat.zero_le _) h
  rw [List.nil_append] at k3
  subst k3
  exact ⟨k1, k2, ⟨k4, k5⟩, k6, k7 rfl⟩
/-- a sign, behind blanks -/
def tks (T : List Int32) (p : Nat) (c : Int32) : Bool := decide (sk T p < T.length ∧ T.getD (sk T p) 0 = c)
/-- a rule from a place on -/
def rdR (T : List Int32) (p : Nat) : Nat ⊕ (Nat × Ru) := match rdT T 12 0 3 p with
  | Sum.inl q => Sum.inl q
  | Sum.inr (p1, l) => if tks T p1 62 = true then (match rdT T 12 (unkS l) (unkS l) (sk T p1 + 1) with
    | Sum.inl q => Sum.inl q
    | Sum.inr (p2, r) => if tks T p2 59 = true then Sum.inr (sk T (sk T p2 + 1), (l, r)) else Sum.inl (sk T p2)) else Sum.inl (sk T p1)
/-- rules, behind those that there are -/
def rdRs (T : List Int32) : Nat → Nat → List Ru → Nat ⊕ List Ru
  | 0, p, _ => Sum.inl (sk T p)
  | k + 1, p, rs => match rdR T p with
    | Sum.inl q => Sum.inl q
    | Sum.inr (p', u) => if p' = T.length then Sum.inr (rs ++ [u]) else rdRs T k p' (rs ++ [u])
theorem alw0 {c : Int32} (h : alw 0 c = true) : ¬ (c = 120 ∨ c = 121) := by
  unfold alw at h
  intro q
  rcases q with rfl | rfl <;> exact absurd h (by decide)
def S4 (s : Int32) : Prop := s = 0 ∨ s = 1 ∨ s = 2 ∨ s = 3
theorem ub_3 (c : Int32) : (c = 120 ∧ ub c = 1) ∨ (c = 121 ∧ ub c = 2) ∨ (¬ c = 120 ∧ ¬ c = 121 ∧ ub c = 0) := by
  unfold ub
  by_cases h : c = 120
  · rw [if_pos h]; exact Or.inl ⟨h, rfl⟩
  · rw [if_neg h]
    by_cases h2 : c = 121
    · rw [if_pos h2]; exact Or.inr (Or.inl ⟨h2, rfl⟩)
    · rw [if_neg h2]; exact Or.inr (Or.inr ⟨h, h2, rfl⟩)
theorem S4_or {s t : Int32} (hs : S4 s) (ht : S4 t) : S4 (s ||| t) := by
  unfold S4 at *
  rcases hs with rfl | rfl | rfl | rfl <;> rcases ht with rfl | rfl | rfl | rfl <;> decide
theorem S4_ub (c : Int32) : S4 (ub c) := by
  rcases ub_3 c with ⟨_, h⟩ | ⟨_, h⟩ | ⟨_, _, h⟩ <;> rw [h] <;> unfold S4 <;> decide
theorem unkF_4 : ∀ (l : List Int32) (s : Int32), S4 s → S4 (unkF s l) ∧ (unkF s l &&& 1 = 1 → s &&& 1 = 1 ∨ 120 ∈ l) ∧ (unkF s l &&& 2 = 2 → s &&& 2 = 2 ∨ 121 ∈ l)
  | [], s, h => ⟨h, Or.inl, Or.inl⟩
  | c :: cs, s, h => by
    obtain ⟨k1, k2, k3⟩ := unkF_4 cs (s ||| ub c) (S4_or h (S4_ub c))
    refine ⟨k1, fun q => ?_, fun q => ?_⟩
    · rcases k2 q with w | w
      · rcases ub_3 c with ⟨h1, h2⟩ | ⟨h1, h2⟩ | ⟨_, _, h2⟩
        · exact Or.inr (by rw [h1]; exact List.mem_cons_self)
        · rw [h2] at w
          left
          revert w
          rcases h with rfl | rfl | rfl | rfl <;> decide
        · rw [h2] at w
          left
          revert w
          rcases h with rfl | rfl | rfl | rfl <;> decide
      · exact Or.inr (List.mem_cons_of_mem _ w)
    · rcases k3 q with w | w
      · rcases ub_3 c with ⟨h1, h2⟩ | ⟨h1, h2⟩ | ⟨_, _, h2⟩
        · rw [h2] at w
          left
          revert w
          rcases h with rfl | rfl | rfl | rfl <;> decide
        · exact Or.inr (by rw [h1]; exact List.mem_cons_self)
        · rw [h2] at w
          left
          revert w
          rcases h with rfl | rfl | rfl | rfl <;> decide
      · exact Or.inr (List.mem_cons_of_mem _ w)
theorem unkS_4 (l : List Int32) : S4 (unkS l) := (unkF_4 l 0 (Or.inl rfl)).1
theorem unkS_120 {l : List Int32} (h : alw (unkS l) 120 = true) : 120 ∈ l := by
  have h1 : unkS l &&& 1 = 1 := by
    unfold alw at h
    have := of_decide_eq_true h
    rw [show ub 120 = 1 from rfl] at this
    revert this
    rcases unkS_4 l with e | e | e | e <;> rw [e] <;> decide
  rcases (unkF_4 l 0 (Or.inl rfl)).2.1 h1 with w | w
  · exact absurd w (by decide)
  · exact w
theorem unkS_121 {l : List Int32} (h : alw (unkS l) 121 = true) : 121 ∈ l := by
  have h1 : unkS l &&& 2 = 2 := by
    unfold alw at h
    have := of_decide_eq_true h
    rw [show ub 121 = 2 from rfl] at this
    revert this
    rcases unkS_4 l with e | e | e | e <;> rw [e] <;> decide
  rcases (unkF_4 l 0 (Or.inl rfl)).2.2 h1 with w | w
  · exact absurd w (by decide)
  · exact w
theorem mem_split1 {l : List Int32} {c : Int32} (h : c ∈ l) : c ∈ l.take 1 ∨ c ∈ l.drop 1 := by
  rw [← List.take_append_drop 1 l] at h
  exact List.mem_append.mp h
theorem head_take {l : List Int32} (h : 0 < l.length) : l.getD 0 0 ∈ l.take 1 := by
  cases l with
  | nil => simp at h
  | cons c cs => simp
theorem rdR_ok {T : List Int32} {p q : Nat} {u : Ru} (hp : p ≤ T.length) (h : rdR T p = Sum.inr (q, u)) : q ≤ T.length ∧ RuOK u := by
  unfold rdR at h
  cases h1 : rdT T 12 0 3 p with
  | inl x => rw [h1] at h; cases h
  | inr x =>
    obtain ⟨p1, l⟩ := x
    rw [h1] at h
    obtain ⟨a1, a2, a3, a4, a5⟩ := rdT_ok hp h1
    by_cases t1 : tks T p1 62 = true
    · simp only [if_pos t1] at h
      have t1' := of_decide_eq_true t1
      cases h2 : rdT T 12 (unkS l) (unkS l) (sk T p1 + 1) with
      | inl x => rw [h2] at h; cases h
      | inr x =>
        obtain ⟨p2, r⟩ := x
        rw [h2] at h
        obtain ⟨b1, b2, b3, b4, b5⟩ := rdT_ok (by omega) h2
        by_cases t2 : tks T p2 59 = true
        · simp only [if_pos t2] at h
          have t2' := of_decide_eq_true t2
          cases h
          have hal : ∀ c ∈ r, alw (unkS l) c = true := fun c hc => (mem_split1 hc).elim (b5 c) (b4 c)
          exact ⟨sk_le (by omega), a3, b3, a2, b2, alw0 (a5 _ (head_take a3.pos)), fun hx => unkS_120 (hal _ hx), fun hy => unkS_121 (hal _ hy)⟩
        · simp only [if_neg t2] at h
          cases h
    · simp only [if_neg t1] at h
      cases h
theorem rdRs_ok {T : List Int32} : ∀ (k p : Nat) (rs rs' : List Ru), p ≤ T.length → rs.length + k ≤ 5 → RsOK rs → rdRs T k p rs = Sum.inr rs' → RsOK rs' ∧ ∃ us, rs' = rs ++ us := by
  intro k
  induction k with
  | zero => intro p rs rs' _ _ _ h; cases h
  | succ k ih =>
    intro p rs rs' hp h5 hr h
    unfold rdRs at h
    cases h1 : rdR T p with
    | inl x => rw [h1] at h; cases h
    | inr x =>
      obtain ⟨p', u⟩ := x
      rw [h1] at h
      obtain ⟨a1, a2⟩ := rdR_ok hp h1
      have hr' : RsOK (rs ++ [u]) := ⟨by rw [List.length_append, List.length_singleton]; omega, fun x hx => (List.mem_append.mp hx).elim (hr.2 x) (fun q => by rw [List.mem_singleton.mp q]; exact a2)⟩
      by_cases he : p' = T.length
      · simp only [if_pos he] at h
        cases h
        exact ⟨hr', [u], rfl⟩
      · simp only [if_neg he] at h
        obtain ⟨b1, us, b2⟩ := ih p' (rs ++ [u]) rs' a1 (by rw [List.length_append, List.length_singleton]; omega) hr' h
        exact ⟨b1, u :: us, by rw [b2, List.append_assoc]; rfl⟩
