/-! ===== writing: what is meant ===== -/
def clF (l : List Int32) (p : Nat) : Nat → Nat
  | 0 => 0
  | k + 1 => (if ep l k = p then 1 else 0) + clF l p k
def cmF (l : List Int32) (p : Nat) : Nat → Nat
  | 0 => 0
  | k + 1 => (if l.getD k 0 = 103 ∧ ep l (k + 1) = p then 1 else 0) + cmF l p k
/-- what stands behind a letter -/
def bh (l : List Int32) (i : Nat) : List Int32 := if wn (l.getD i 0) = 0 then List.replicate (clF l (i + 1) i) 41 ++ List.replicate (cmF l (i + 1) i) 44 else [40]
def wrF (l : List Int32) : Nat → Nat → List Int32
  | 0, _ => []
  | q + 1, i => l.getD i 0 :: (bh l i ++ wrF l q (i + 1))
def wrS (l : List Int32) : List Int32 := wrF l l.length 0
def cA (l : List Int32) (p : Nat) : Nat → List Nat → Nat
  | _, [] => 0
  | e, m :: ms => if m = 2 then (if ep l e = p then 1 else 0) + cA l p (ep l e) ms else (if e = p then 1 else 0) + cA l p e ms
def cB (l : List Int32) (p : Nat) : Nat → List Nat → Nat
  | _, [] => 0
  | e, m :: ms => if m = 2 then (if e = p then 1 else 0) + cB l p (ep l e) ms else cB l p e ms
theorem ep_ge (l : List Int32) (k : Nat) : k ≤ ep l k := by unfold ep; omega
theorem cA_lt {l : List Int32} {p : Nat} : ∀ (ms : List Nat) (e : Nat), p < e → cA l p e ms = 0
  | [], e, h => rfl
  | m :: ms, e, h => by
    have := ep_ge l e
    unfold cA
    by_cases hm : m = 2
    · rw [if_pos hm, if_neg (by omega), cA_lt ms _ (by omega)]
    · rw [if_neg hm, if_neg (by omega), cA_lt ms _ h]
theorem cB_lt {l : List Int32} {p : Nat} : ∀ (ms : List Nat) (e : Nat), p < e → cB l p e ms = 0
  | [], e, h => rfl
  | m :: ms, e, h => by
    have := ep_ge l e
    unfold cB
    by_cases hm : m = 2
    · rw [if_pos hm, if_neg (by omega), cB_lt ms _ (by omega)]
    · rw [if_neg hm, cB_lt ms _ h]
def cntm : List Nat → Nat
  | [] => 0
  | m :: ms => (if m = 2 then 1 else 0) + cntm ms
/-- what is still to come behind the letters so far, and what is written of it -/
def WI (l : List Int32) (i : Nat) (ms : List Nat) : Prop := M12 ms ∧ wfb (1 + cntm ms) (l.drop i) = true ∧ ∀ p, i < p → clF l p i = cA l p (ep l i) ms ∧ cmF l p i = cB l p (ep l i) ms
theorem WI_0 {l : List Int32} (h : Tm l) : WI l 0 [] := ⟨(fun m hm => by cases hm), by rw [List.drop_zero]; exact h.1, fun p _ => ⟨rfl, rfl⟩⟩
theorem WI.lt {l : List Int32} {i : Nat} {ms : List Nat} (h : WI l i ms) : i < l.length := by
  have := h.2.1
  rw [Nat.add_comm] at this
  have h2 := wfb_pos this
  rw [List.length_drop] at h2
  omega
theorem WI.drop {l : List Int32} {i : Nat} {ms : List Nat} (h : WI l i ms) : wfb (cntm ms + wn (l.getD i 0)) (l.drop (i + 1)) = true := by
  have h1 := h.2.1
  rw [drop_c h.lt, Nat.add_comm 1, wfb_cons] at h1
  exact h1
/-- behind a letter with parts -/
theorem WI.op {l : List Int32} {i : Nat} {ms : List Nat} (h : WI l i ms) (hw : ¬ wn (l.getD i 0) = 0) : WI l (i + 1) (wn (l.getD i 0) :: ms) := by
  have hi := h.lt
  have hd := h.drop
  have hw2 := wn_le (l.getD i 0)
  have hg : wn (l.getD i 0) = 2 ↔ l.getD i 0 = 103 := by
    unfold wn
    by_cases h1 : l.getD i 0 = 103
    · rw [if_pos h1]; exact ⟨fun _ => h1, fun _ => rfl⟩
    · rw [if_neg h1]
      refine ⟨fun q => ?_, fun q => absurd q h1⟩
      split at q <;> omega
  refine ⟨fun m hm => ?_, ?_, fun p hp => ?_⟩
  · rcases List.mem_cons.mp hm with hm | hm
    · omega
    · exact h.1 m hm
  · unfold cntm
    by_cases h2 : wn (l.getD i 0) = 2
    · rw [if_pos h2]
      rw [h2] at hd
      rw [show 1 + (1 + cntm ms) = cntm ms + 2 by omega]
      exact hd
    · rw [if_neg h2]
      rw [show wn (l.getD i 0) = 1 by omega] at hd
      rw [show 1 + (0 + cntm ms) = cntm ms + 1 by omega]
      exact hd
  · obtain ⟨k1, k2⟩ := h.2.2 p (by omega)
    unfold clF cmF cA cB
    rw [k1, k2]
    by_cases h2 : wn (l.getD i 0) = 2
    · rw [if_pos h2, if_pos h2, ep_2 hi h2]
      refine ⟨rfl, ?_⟩
      by_cases hq : ep l (i + 1) = p
      · rw [if_pos ⟨hg.mp h2, hq⟩, if_pos hq]
      · rw [if_neg (fun q => hq q.2), if_neg hq]
    · rw [if_neg h2, if_neg h2, ep_1 hi (by omega), if_neg (show ¬ (l.getD i 0 = 103 ∧ ep l (i + 1) = p) from fun q => h2 (hg.mpr q.1)), Nat.zero_add]
      exact ⟨rfl, rfl⟩
/-- behind a letter without parts -/
theorem enc_split {l : List Int32} {e : Nat} : ∀ (ms : List Nat), M12 ms → wfb (cntm ms) (l.drop e) = true →
    (∃ ms', enc ms = (List.replicate (cA l e e ms) 41 ++ List.replicate (cB l e e ms) 44) ++ 84 :: enc (1 :: ms') ∧ M12 ms' ∧ wfb (1 + cntm ms') (l.drop e) = true ∧ ∀ p, e < p → cA l p e ms = cA l p (ep l e) (1 :: ms') ∧ cB l p e ms = cB l p (ep l e) (1 :: ms')) ∨
    (enc ms = (List.replicate (cA l e e ms) 41 ++ List.replicate (cB l e e ms) 44) ∧ l.length ≤ e)
  | [], _, h => by
    right
    refine ⟨rfl, ?_⟩
    have h2 : l.drop e = [] := by
      cases hh : l.drop e with
      | nil => rfl
      | cons a b => rw [hh] at h; cases h
    have h3 := congrArg List.length h2
    rw [List.length_drop, List.length_nil] at h3
    omega
  | m :: ms, h12, h => by
    by_cases hm : m = 2
    · left
      subst hm
      have hc : cntm (2 :: ms) = 1 + cntm ms := rfl
      rw [hc] at h
      have he : e < l.length := by
        have := h
        rw [Nat.add_comm] at this
        have h2 := wfb_pos this
        rw [List.length_drop] at h2
        omega
      have hg := ep_gt he
      refine ⟨ms, ?_, fun x hx => h12 x (List.mem_cons_of_mem _ hx), h, fun p hp => ?_⟩
      · have h1 : cA l e e (2 :: ms) = 0 := by
          unfold cA
          rw [if_pos rfl, if_neg (by omega), cA_lt ms _ hg]
        have h2 : cB l e e (2 :: ms) = 1 := by
          unfold cB
          rw [if_pos rfl, if_pos rfl, cB_lt ms _ hg]
        rw [h1, h2]
        rfl
      · refine ⟨?_, ?_⟩
        · show (if 2 = 2 then (if ep l e = p then 1 else 0) + cA l p (ep l e) ms else _) = (if 1 = 2 then _ else (if ep l e = p then 1 else 0) + cA l p (ep l e) ms)
          rw [if_pos rfl, if_neg (show ¬ (1 : Nat) = 2 by decide)]
        · show (if 2 = 2 then (if e = p then 1 else 0) + cB l p (ep l e) ms else _) = (if 1 = 2 then _ else cB l p (ep l e) ms)
          rw [if_pos rfl, if_neg (show ¬ (1 : Nat) = 2 by decide), if_neg (by omega), Nat.zero_add]
    · have hm1 : m = 1 := (h12 m List.mem_cons_self).elim id (fun q => absurd q hm)
      subst hm1
      have hc : cntm (1 :: ms) = cntm ms := by
        show (if 1 = 2 then 1 else 0) + cntm ms = cntm ms
        rw [if_neg (by decide), Nat.zero_add]
      rw [hc] at h
      have h1 : cA l e e (1 :: ms) = cA l e e ms + 1 := by
        show (if 1 = 2 then _ else (if e = e then 1 else 0) + cA l e e ms) = _
        rw [if_neg (by decide), if_pos rfl, Nat.add_comm]
      have h2 : ∀ p x, cB l p x (1 :: ms) = cB l p x ms := fun p x => by
        show (if 1 = 2 then _ else cB l p x ms) = _
        rw [if_neg (by decide)]
      have h3 : ∀ p, e < p → cA l p e (1 :: ms) = cA l p e ms := fun p hp => by
        show (if 1 = 2 then _ else (if e = p then 1 else 0) + cA l p e ms) = _
        rw [if_neg (by decide), if_neg (by omega), Nat.zero_add]
      have h4 : enc (1 :: ms) = 41 :: enc ms := rfl
      rw [h1, h2, h4, List.replicate_succ]
      rcases enc_split (l := l) (e := e) ms (fun x hx => h12 x (List.mem_cons_of_mem _ hx)) h with ⟨ms', k1, k2, k3, k4⟩ | ⟨k1, k2⟩
      · left
        refine ⟨ms', ?_, k2, k3, fun p hp => ?_⟩
        · rw [k1]
          rfl
        · rw [h3 p hp, h2]
          exact k4 p hp
      · right
        refine ⟨?_, k2⟩
        rw [k1]
        rfl
theorem WI.leaf {l : List Int32} {i : Nat} {ms : List Nat} (h : WI l i ms) (hw : wn (l.getD i 0) = 0) : (∃ ms', enc ms = bh l i ++ 84 :: enc ms' ∧ WI l (i + 1) ms') ∨ (enc ms = bh l i ∧ l.length = i + 1) := by
  have hi := h.lt
  have hd := h.drop
  rw [hw, Nat.add_zero] at hd
  have he := ep_0 hi hw
  obtain ⟨c1, c2⟩ := h.2.2 (i + 1) (by omega)
  rw [he] at c1 c2
  unfold bh
  rw [if_pos hw, c1, c2]
  have hg : ¬ l.getD i 0 = 103 := fun q => by rw [q] at hw; cases hw
  rcases enc_split (l := l) (e := i + 1) ms h.1 hd with ⟨ms', k1, k2, k3, k4⟩ | ⟨k1, k2⟩
  · left
    refine ⟨1 :: ms', k1, fun m hm => ?_, ?_, fun p hp => ?_⟩
    · rcases List.mem_cons.mp hm with hm | hm
      · exact Or.inl hm
      · exact k2 m hm
    · have : cntm (1 :: ms') = cntm ms' := by
        show (if 1 = 2 then 1 else 0) + cntm ms' = cntm ms'
        rw [if_neg (by decide), Nat.zero_add]
      rw [this]
      exact k3
    · obtain ⟨d1, d2⟩ := h.2.2 p (by omega)
      rw [he] at d1 d2
      obtain ⟨f1, f2⟩ := k4 p hp
      unfold clF cmF
      rw [he, if_neg (by omega), if_neg (fun q => hg q.1), Nat.zero_add, Nat.zero_add, d1, d2]
      exact ⟨f1, f2⟩
  · exact Or.inr ⟨k1, by omega⟩
/-- what is written is not long -/
def ntm : List Nat → Nat
  | [] => 0
  | m :: ms => (if m = 2 then 2 else 1) + ntm ms
def nt : List Int32 → Nat
  | [] => 0
  | d :: ds => (if d = 84 then 0 else 1) + nt ds
theorem nt_app : ∀ (l r : List Int32), nt (l ++ r) = nt l + nt r
  | [], r => by rw [List.nil_append]; exact (Nat.zero_add _).symm
  | d :: ds, r => by
    show (if d = 84 then 0 else 1) + nt (ds ++ r) = (if d = 84 then 0 else 1) + nt ds + nt r
    rw [nt_app ds r]
    omega
theorem nt_all : ∀ (l : List Int32), (∀ c ∈ l, ¬ c = 84) → nt l = l.length
  | [], _ => rfl
  | d :: ds, h => by
    show (if d = 84 then 0 else 1) + nt ds = ds.length + 1
    rw [if_neg (h d List.mem_cons_self), nt_all ds (fun c hc => h c (List.mem_cons_of_mem _ hc))]
    omega
theorem bh_84 (l : List Int32) (i : Nat) : ∀ c ∈ bh l i, ¬ c = 84 := by
  intro c hc
  unfold bh at hc
  by_cases h : wn (l.getD i 0) = 0
  · rw [if_pos h] at hc
    rcases List.mem_append.mp hc with q | q
    · rw [(List.mem_replicate.mp q).2]; decide
    · rw [(List.mem_replicate.mp q).2]; decide
  · rw [if_neg h, List.mem_singleton] at hc
    rw [hc]; decide
theorem wrF_len {l : List Int32} : ∀ (q i : Nat) (ms : List Nat), l.length - i = q → WI l i ms → (wrF l q i).length ≤ 4 * q + nt (enc ms) := by
  intro q
  induction q with
  | zero => intro i ms h1 h2; have := h2.lt; omega
  | succ q ih =>
    intro i ms h1 h2
    show (bh l i ++ wrF l q (i + 1)).length + 1 ≤ _
    rw [List.length_append]
    by_cases hw : wn (l.getD i 0) = 0
    · rcases h2.leaf hw with ⟨ms', k1, k2⟩ | ⟨k1, k2⟩
      · have := ih (i + 1) ms' (by omega) k2
        have e1 : nt (enc ms) = (bh l i).length + nt (enc ms') := by
          rw [k1, nt_app, nt_all _ (bh_84 l i)]
          show _ + (0 + nt (enc ms')) = _
          omega
        omega
      · have e1 : nt (enc ms) = (bh l i).length := by rw [k1, nt_all _ (bh_84 l i)]
        have : q = 0 := by omega
        subst this
        rw [show wrF l 0 (i + 1) = [] from rfl, List.length_nil]
        omega
    · have := ih (i + 1) _ (by omega) (h2.op hw)
      have hb : (bh l i).length = 1 := by unfold bh; rw [if_neg hw]; rfl
      have e1 : nt (enc (wn (l.getD i 0) :: ms)) ≤ 2 + nt (enc ms) := by
        have hw2 := wn_le (l.getD i 0)
        obtain h3 | h3 : wn (l.getD i 0) = 1 ∨ wn (l.getD i 0) = 2 := by omega
        · rw [h3]
          show nt (41 :: enc ms) ≤ _
          show 1 + nt (enc ms) ≤ _
          omega
        · rw [h3]
          show 1 + (0 + (1 + nt (enc ms))) ≤ _
          omega
      omega
theorem wrS_len {l : List Int32} (h : Tm l) : (wrS l).length ≤ 4 * l.length := wrF_len l.length 0 [] (by omega) (WI_0 h)
