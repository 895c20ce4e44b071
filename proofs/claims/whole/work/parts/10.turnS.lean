/-! ===== turning: what is meant ===== -/
def ruleAtF (l : List Int32) (i : Nat) : List Ru → Nat → Option Nat
  | [], _ => none
  | u :: us, r => if (fitS l u.1 i).isSome = true then some r else ruleAtF l i us (r + 1)
def ruleAtS (rs : List Ru) (l : List Int32) (i : Nat) : Option Nat := ruleAtF l i rs 0
theorem ruleAtF_lt {l : List Int32} {i : Nat} : ∀ (us : List Ru) (r x : Nat), ruleAtF l i us r = some x → r ≤ x ∧ x < r + us.length ∧ (fitS l (us.getD (x - r) dRu).1 i).isSome = true
  | [], r, x, h => by cases h
  | u :: us, r, x, h => by
    unfold ruleAtF at h
    by_cases hf : (fitS l u.1 i).isSome = true
    · rw [if_pos hf] at h
      cases h
      refine ⟨Nat.le_refl _, by simp, ?_⟩
      rw [Nat.sub_self]
      exact hf
    · rw [if_neg hf] at h
      obtain ⟨h1, h2, h3⟩ := ruleAtF_lt us (r + 1) x h
      refine ⟨by omega, by rw [List.length_cons]; omega, ?_⟩
      rw [show x - r = (x - (r + 1)) + 1 by omega, List.getD_cons_succ]
      exact h3
theorem ruleAtS_lt {rs : List Ru} {l : List Int32} {i x : Nat} (h : ruleAtS rs l i = some x) : x < rs.length ∧ (fitS l (rs.getD x dRu).1 i).isSome = true := by
  obtain ⟨h1, h2, h3⟩ := ruleAtF_lt rs 0 x h
  exact ⟨by omega, by simpa using h3⟩
def innerS (rs : List Ru) (l : List Int32) (a : Nat) : Bool := (List.range (ep l a - (a + 1))).all (fun d => (ruleAtS rs l (a + 1 + d)).isNone)
theorem innerS_iff {rs : List Ru} {l : List Int32} {a : Nat} : innerS rs l a = true ↔ ∀ k, a < k → k < ep l a → ruleAtS rs l k = none := by
  unfold innerS
  rw [List.all_eq_true]
  constructor
  · intro h k h1 h2
    have := h (k - (a + 1)) (List.mem_range.mpr (by omega))
    rw [show a + 1 + (k - (a + 1)) = k by omega] at this
    simpa using this
  · intro h d hd
    rw [List.mem_range] at hd
    rw [h (a + 1 + d) (by omega) (by omega)]
    rfl
def turnF (rs : List Ru) (l : List Int32) : Nat → Nat → Option (Nat × Nat)
  | 0, _ => none
  | k + 1, a => match ruleAtS rs l a with
    | none => turnF rs l k (a + 1)
    | some r => if innerS rs l a = true then some (r, a) else turnF rs l k (a + 1)
/-- the next turn: its rule, its place -/
def turnS (rs : List Ru) (l : List Int32) : Option (Nat × Nat) := turnF rs l l.length 0
theorem turnF_none {rs : List Ru} {l : List Int32} : ∀ (k a : Nat), (∀ j, a ≤ j → j < a + k → ruleAtS rs l j ≠ none → innerS rs l j = false) → turnF rs l k a = none
  | 0, a, _ => rfl
  | k + 1, a, h => by
    unfold turnF
    have ih := turnF_none (rs := rs) (l := l) k (a + 1) (fun j h1 h2 => h j (by omega) (by omega))
    cases hr : ruleAtS rs l a with
    | none => exact ih
    | some r =>
      have := h a (by omega) (by omega) (by rw [hr]; simp)
      simp only [this]
      exact ih
theorem turnF_some {rs : List Ru} {l : List Int32} {r x : Nat} (hr : ruleAtS rs l x = some r) (hi : innerS rs l x = true) : ∀ (k a : Nat), a ≤ x → x < a + k → (∀ j, a ≤ j → j < x → ruleAtS rs l j ≠ none → innerS rs l j = false) → turnF rs l k a = some (r, x)
  | 0, a, h1, h2, _ => by omega
  | k + 1, a, h1, h2, h => by
    unfold turnF
    by_cases hx : a = x
    · subst hx
      rw [hr]
      simp only [hi, if_pos]
    · have ih := turnF_some hr hi k (a + 1) (by omega) (by omega) (fun j h1 h2 => h j (by omega) (by omega))
      cases hr2 : ruleAtS rs l a with
      | none => exact ih
      | some r2 =>
        have := h a (by omega) (by omega) (by rw [hr2]; simp)
        simp only [this]
        exact ih
theorem turnF_lt {rs : List Ru} {l : List Int32} {r x : Nat} : ∀ (k a : Nat), turnF rs l k a = some (r, x) → a ≤ x ∧ x < a + k ∧ ruleAtS rs l x = some r
  | 0, a, h => by cases h
  | k + 1, a, h => by
    unfold turnF at h
    cases hr : ruleAtS rs l a with
    | none =>
      rw [hr] at h
      obtain ⟨h1, h2, h3⟩ := turnF_lt k (a + 1) h
      exact ⟨by omega, by omega, h3⟩
    | some r2 =>
      rw [hr] at h
      by_cases hi : innerS rs l a = true
      · simp only [hi, if_pos] at h
        cases h
        exact ⟨by omega, by omega, hr⟩
      · simp only [hi] at h
        obtain ⟨h1, h2, h3⟩ := turnF_lt k (a + 1) h
        exact ⟨by omega, by omega, h3⟩
theorem turnS_lt {rs : List Ru} {l : List Int32} {r x : Nat} (h : turnS rs l = some (r, x)) : x < l.length ∧ r < rs.length ∧ (fitS l (rs.getD r dRu).1 x).isSome = true := by
  obtain ⟨h1, h2, h3⟩ := turnF_lt _ _ h
  obtain ⟨h4, h5⟩ := ruleAtS_lt h3
  exact ⟨by omega, h4, h5⟩
def optP (l : List Int32) (o : Option Nat) : List Int32 := match o with
  | none => []
  | some b => pt l b
/-- a right side with parts in place of unknowns -/
def expS (l : List Int32) (bx bz : Option Nat) : List Int32 → List Int32
  | [] => []
  | c :: cs => (if c = 120 then optP l bx else if c = 121 then optP l bz else [c]) ++ expS l bx bz cs
def newT (l : List Int32) (a : Nat) (bx bz : Option Nat) (r : List Int32) : List Int32 := l.take a ++ expS l bx bz r ++ l.drop (ep l a)
def fitD (l p : List Int32) (a : Nat) : Option Nat × Option Nat := (fitS l p a).getD (none, none)
def turned (rs : List Ru) (l : List Int32) (r a : Nat) : List Int32 := newT l a (fitD l (rs.getD r dRu).1 a).1 (fitD l (rs.getD r dRu).1 a).2 (rs.getD r dRu).2
/-- a turn that is done -/
def stepS (rs : List Ru) (l : List Int32) : Option (List Int32) := match turnS rs l with
  | none => none
  | some (r, a) => if (turned rs l r a).length ≤ 60 then some (turned rs l r a) else none
def iterS (rs : List Ru) : Nat → List Int32 → Nat × List Int32
  | 0, l => (0, l)
  | k + 1, l => match stepS rs l with
    | none => (0, l)
    | some l' => ((iterS rs k l').1 + 1, (iterS rs k l').2)
theorem iterS_le (rs : List Ru) : ∀ (k : Nat) (l : List Int32), (iterS rs k l).1 ≤ k
  | 0, l => Nat.le_refl _
  | k + 1, l => by
    unfold iterS
    cases stepS rs l with
    | none => exact Nat.zero_le _
    | some l' => exact Nat.succ_le_succ (iterS_le rs k l')
/-- rules as they may be -/
def RuOK (u : Ru) : Prop := Tm u.1 ∧ Tm u.2 ∧ u.1.length ≤ 12 ∧ u.2.length ≤ 12 ∧ ¬ (u.1.getD 0 0 = 120 ∨ u.1.getD 0 0 = 121) ∧ (120 ∈ u.2 → 120 ∈ u.1) ∧ (121 ∈ u.2 → 121 ∈ u.1)
def RsOK (rs : List Ru) : Prop := rs.length ≤ 5 ∧ ∀ u ∈ rs, RuOK u
theorem RsOK.get {rs : List Ru} (h : RsOK rs) {r : Nat} (hr : r < rs.length) : RuOK (rs.getD r dRu) := by
  rw [List.getD_eq_getElem?_getD, List.getElem?_eq_getElem hr]
  exact h.2 _ (List.getElem_mem hr)
theorem fitF_binds {l : List Int32} : ∀ (p : List Int32) (i : Nat) (bx bz bx' bz' : Option Nat), fitF l p i bx bz = some (bx', bz') → ((120 ∈ p ∨ bx ≠ none) → bx' ≠ none) ∧ ((121 ∈ p ∨ bz ≠ none) → bz' ≠ none)
  | [], i, bx, bz, bx', bz', h => by
    unfold fitF at h
    cases h
    exact ⟨fun h => h.elim (fun q => by cases q) id, fun h => h.elim (fun q => by cases q) id⟩
  | c :: cs, i, bx, bz, bx', bz', h => by
    unfold fitF at h
    by_cases h1 : c = 120
    · rw [if_pos h1] at h
      subst h1
      cases bx with
      | none =>
        obtain ⟨g1, g2⟩ := fitF_binds cs _ _ _ _ _ h
        exact ⟨fun _ => g1 (Or.inr (by simp)), fun q => g2 (q.elim (fun q => by simp at q; exact Or.inl q) Or.inr)⟩
      | some b =>
        by_cases hp : pt l b = pt l i
        · simp only [if_pos hp] at h
          obtain ⟨g1, g2⟩ := fitF_binds cs _ _ _ _ _ h
          exact ⟨fun _ => g1 (Or.inr (by simp)), fun q => g2 (q.elim (fun q => by simp at q; exact Or.inl q) Or.inr)⟩
        · simp only [if_neg hp] at h
          cases h
    · rw [if_neg h1] at h
      by_cases h2 : c = 121
      · rw [if_pos h2] at h
        subst h2
        cases bz with
        | none =>
          obtain ⟨g1, g2⟩ := fitF_binds cs _ _ _ _ _ h
          exact ⟨fun q => g1 (q.elim (fun q => by simp at q; exact Or.inl q) Or.inr), fun _ => g2 (Or.inr (by simp))⟩
        | some b =>
          by_cases hp : pt l b = pt l i
          · simp only [if_pos hp] at h
            obtain ⟨g1, g2⟩ := fitF_binds cs _ _ _ _ _ h
            exact ⟨fun q => g1 (q.elim (fun q => by simp at q; exact Or.inl q) Or.inr), fun _ => g2 (Or.inr (by simp))⟩
          · simp only [if_neg hp] at h
            cases h
      · rw [if_neg h2] at h
        by_cases h3 : l.getD i 0 = c
        · rw [if_pos h3] at h
          obtain ⟨g1, g2⟩ := fitF_binds cs _ _ _ _ _ h
          refine ⟨fun q => g1 (q.elim (fun q => ?_) Or.inr), fun q => g2 (q.elim (fun q => ?_) Or.inr)⟩
          · rcases List.mem_cons.mp q with q | q
            · exact absurd q.symm h1
            · exact Or.inl q
          · rcases List.mem_cons.mp q with q | q
            · exact absurd q.symm h2
            · exact Or.inl q
        · rw [if_neg h3] at h
          cases h
theorem fitF_in {l : List Int32} : ∀ (p : List Int32) (i a m : Nat) (bx bz bx' bz' : Option Nat), wfb a p = true → wfb (a + m) (l.drop i) = true → inO bx l.length → inO bz l.length → fitF l p i bx bz = some (bx', bz') → inO bx' l.length ∧ inO bz' l.length
  | [], i, a, m, bx, bz, bx', bz', _, _, hx, hz, h => by
    unfold fitF at h
    cases h
    exact ⟨hx, hz⟩
  | c :: cs, i, 0, m, bx, bz, bx', bz', h1, _, _, _, _ => by cases h1
  | c :: cs, i, a + 1, m, bx, bz, bx', bz', h1, h2, hx, hz, h => by
    unfold fitF at h
    rw [wfb_cons] at h1
    obtain ⟨hi, hn⟩ := wf_next h2
    by_cases g1 : c = 120
    · rw [if_pos g1] at h
      rw [wn_unk (Or.inl g1)] at h1
      cases bx with
      | none => exact fitF_in cs _ a m _ _ _ _ h1 hn (inO_some hi) hz h
      | some b =>
        by_cases hp : pt l b = pt l i
        · simp only [if_pos hp] at h
          exact fitF_in cs _ a m _ _ _ _ h1 hn hx hz h
        · simp only [if_neg hp] at h
          cases h
    · rw [if_neg g1] at h
      by_cases g2 : c = 121
      · rw [if_pos g2] at h
        rw [wn_unk (Or.inr g2)] at h1
        cases bz with
        | none => exact fitF_in cs _ a m _ _ _ _ h1 hn hx (inO_some hi) h
        | some b =>
          by_cases hp : pt l b = pt l i
          · simp only [if_pos hp] at h
            exact fitF_in cs _ a m _ _ _ _ h1 hn hx hz h
          · simp only [if_neg hp] at h
            cases h
      · rw [if_neg g2] at h
        by_cases g3 : l.getD i 0 = c
        · rw [if_pos g3] at h
          have hw := wf_in h2
          rw [g3] at hw
          exact fitF_in cs _ _ m _ _ _ _ h1 hw hx hz h
        · rw [if_neg g3] at h
          cases h
theorem pt_wf {l : List Int32} {n b : Nat} (hl : wfb n l = true) (hb : b < l.length) : wfb 1 (pt l b) = true := by
  obtain ⟨m, hm⟩ := wfb_drop l n b hl hb
  have := (wfb_add _ 1 m (by rw [Nat.add_comm]; exact hm)).1
  unfold pt ep
  rw [show b + pl 1 (l.drop b) - b = pl 1 (l.drop b) by omega]
  exact this
theorem pt_VL {l : List Int32} (h : VLs l) (b : Nat) : VLs (pt l b) := fun c hc => h c (List.mem_of_mem_drop (List.mem_of_mem_take hc))
theorem expS_wf {l : List Int32} (hl : wfb 1 l = true) {bx bz : Option Nat} (hx : inO bx l.length) (hz : inO bz l.length) : ∀ (r : List Int32) (n : Nat), wfb n r = true → (120 ∈ r → bx ≠ none) → (121 ∈ r → bz ≠ none) → wfb n (expS l bx bz r) = true
  | [], 0, _, _, _ => rfl
  | [], n + 1, h, _, _ => by cases h
  | c :: cs, 0, h, _, _ => by cases h
  | c :: cs, n + 1, h, h1, h2 => by
    rw [wfb_cons] at h
    have ih := fun k hk => expS_wf hl hx hz cs k hk (fun q => h1 (List.mem_cons_of_mem _ q)) (fun q => h2 (List.mem_cons_of_mem _ q))
    unfold expS
    by_cases g1 : c = 120
    · rw [if_pos g1]
      rw [wn_unk (Or.inl g1)] at h
      cases bx with
      | none => exact absurd rfl (h1 (by rw [g1]; simp))
      | some b =>
        rw [Nat.add_comm n 1]
        exact wfb_app _ _ 1 n (pt_wf hl (hx b rfl)) (ih n h)
    · rw [if_neg g1]
      by_cases g2 : c = 121
      · rw [if_pos g2]
        rw [wn_unk (Or.inr g2)] at h
        cases bz with
        | none => exact absurd rfl (h2 (by rw [g2]; simp))
        | some b =>
          rw [Nat.add_comm n 1]
          exact wfb_app _ _ 1 n (pt_wf hl (hz b rfl)) (ih n h)
      · rw [if_neg g2, List.singleton_append, wfb_cons]
        exact ih _ h
theorem expS_VL {l : List Int32} (hl : VLs l) {bx bz : Option Nat} : ∀ (r : List Int32), VLs r → VLs (expS l bx bz r)
  | [], _ => fun c h => by cases h
  | d :: cs, hr => by
    intro c hc
    unfold expS at hc
    rcases List.mem_append.mp hc with h | h
    · by_cases g1 : d = 120
      · rw [if_pos g1] at h
        cases bx with
        | none => cases h
        | some b => exact pt_VL hl b c h
      · rw [if_neg g1] at h
        by_cases g2 : d = 121
        · rw [if_pos g2] at h
          cases bz with
          | none => cases h
          | some b => exact pt_VL hl b c h
        · rw [if_neg g2] at h
          rw [List.mem_singleton.mp h]
          exact hr d List.mem_cons_self
    · exact expS_VL hl cs (fun c h => hr c (List.mem_cons_of_mem _ h)) c h
theorem wfb_sub {B B' C : List Int32} (hB : wfb 1 B = true) (hB' : wfb 1 B' = true) : ∀ (A : List Int32) (n : Nat), wfb n (A ++ (B ++ C)) = true → wfb n (A ++ (B' ++ C)) = true
  | [], n, h => by
    rw [List.nil_append] at h ⊢
    cases n with
    | zero =>
      exfalso
      cases B with
      | nil => cases hB
      | cons b bs => cases h
    | succ n =>
      have h2 : wfb (1 + n) (B ++ C) = true := by rw [Nat.add_comm]; exact h
      have h3 := (wfb_add _ 1 n h2).2
      rw [pl_app hB, List.drop_left] at h3
      rw [Nat.add_comm]
      exact wfb_app _ _ 1 n hB' h3
  | a :: A, 0, h => by cases h
  | a :: A, n + 1, h => by
    rw [List.cons_append, wfb_cons] at h ⊢
    exact wfb_sub hB hB' A _ h
theorem split3 {l : List Int32} {a : Nat} (ha : a < l.length) : l.take a ++ (pt l a ++ l.drop (ep l a)) = l := by
  have h1 : pt l a ++ l.drop (ep l a) = l.drop a := by
    unfold pt
    rw [show l.drop (ep l a) = (l.drop a).drop (ep l a - a) by rw [List.drop_drop]; congr 1; have := ep_gt ha; omega]
    exact List.take_append_drop _ _
  rw [h1, List.take_append_drop]
theorem turned_ok {rs : List Ru} {l : List Int32} (hr : RsOK rs) (hl : Tm l) {r a : Nat} (h : turnS rs l = some (r, a)) : Tm (turned rs l r a) := by
  obtain ⟨h1, h2, h3⟩ := turnS_lt h
  have hu := hr.get h2
  obtain ⟨z, hz⟩ := Option.isSome_iff_exists.mp h3
  obtain ⟨bx, bz⟩ := z
  obtain ⟨m, hm⟩ := wfb_drop l 1 a hl.1 h1
  have hb := fitF_binds _ _ _ _ _ _ hz
  have hin := fitF_in _ _ 1 m _ _ _ _ hu.1.1 (by rw [Nat.add_comm]; exact hm) (inO_none _) (inO_none _) hz
  unfold turned fitD
  rw [hz, Option.getD_some]
  have he := expS_wf hl.1 hin.1 hin.2 _ 1 hu.2.1.1 (fun q => hb.1 (Or.inl (hu.2.2.2.2.2.1 q))) (fun q => hb.2 (Or.inl (hu.2.2.2.2.2.2 q)))
  refine ⟨?_, ?_⟩
  · unfold newT
    rw [List.append_assoc]
    refine wfb_sub (pt_wf hl.1 h1) he _ _ ?_
    rw [split3 h1]
    exact hl.1
  · intro c hc
    unfold newT at hc
    rcases List.mem_append.mp hc with q | q
    · rcases List.mem_append.mp q with q | q
      · exact hl.2 c (List.mem_of_mem_take q)
      · exact expS_VL hl.2 _ hu.2.1.2 c q
    · exact hl.2 c (List.mem_of_mem_drop q)
theorem stepS_ok {rs : List Ru} {l l' : List Int32} (hr : RsOK rs) (hl : Tm l) (h : stepS rs l = some l') : Tm l' ∧ l'.length ≤ 60 := by
  unfold stepS at h
  cases ht : turnS rs l with
  | none => rw [ht] at h; cases h
  | some z =>
    obtain ⟨r, a⟩ := z
    rw [ht] at h
    by_cases hq : (turned rs l r a).length ≤ 60
    · simp only [if_pos hq] at h
      cases h
      exact ⟨turned_ok hr hl ht, hq⟩
    · simp only [if_neg hq] at h
      cases h
theorem iterS_ok {rs : List Ru} (hr : RsOK rs) : ∀ (k : Nat) (l : List Int32), Tm l → l.length ≤ 60 → Tm (iterS rs k l).2 ∧ (iterS rs k l).2.length ≤ 60
  | 0, l, h1, h2 => ⟨h1, h2⟩
  | k + 1, l, h1, h2 => by
    unfold iterS
    cases hs : stepS rs l with
    | none => exact ⟨h1, h2⟩
    | some l' =>
      obtain ⟨g1, g2⟩ := stepS_ok hr h1 hs
      exact iterS_ok hr k l' g1 g2
