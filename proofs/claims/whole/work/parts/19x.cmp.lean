/-! ===== weights of sides ===== -/
def phi (F : Nat → Nat) (v : Nat → Nat) : Nat × Nat × Nat := (F 0 * v 0 + F 1 * v 1 + F 2 * v 2 + F 3 * v 3, v 4, v 5)
theorem smi_mem {i : Nat} : ∀ (s : List (Nat → Nat)) (a : Nat → Nat), a ∈ s → a i ≤ smi i s
  | [], a, h => by cases h
  | b :: s, a, h => by
    show a i ≤ b i + smi i s
    rcases List.mem_cons.mp h with q | q
    · rw [q]; omega
    · have := smi_mem (i := i) s a q; omega
theorem m3 {f v : Nat} (hf : f ≤ 3) (hv : v ≤ 16777216) : f * v ≤ 50331648 := by
  have := Nat.mul_le_mul hf hv
  omega
theorem phi_lt {F : Nat → Nat} (hF : ∀ i, i < 7 → F i ≤ 3) {v : Nat → Nat} (hv : ∀ i, v i ≤ 16777216) : (phi F v).1 < PR ∧ (phi F v).2.1 < PR ∧ (phi F v).2.2 < PR := by
  have h0 := m3 (hF 0 (by decide)) (hv 0)
  have h1 := m3 (hF 1 (by decide)) (hv 1)
  have h2 := m3 (hF 2 (by decide)) (hv 2)
  have h3 := m3 (hF 3 (by decide)) (hv 3)
  have h4 := hv 4
  have h5 := hv 5
  unfold phi PR
  refine ⟨?_, ?_, ?_⟩
  · show F 0 * v 0 + F 1 * v 1 + F 2 * v 2 + F 3 * v 3 < _
    omega
  · show v 4 < _
    omega
  · show v 5 < _
    omega
theorem phi_f (F : Nat → Nat) (v : Nat → Nat) : phi F (cvf (F 4) v) = (F 2 + F 4 * (phi F v).1, F 4 * (phi F v).2.1, F 4 * (phi F v).2.2) := by
  unfold phi cvf
  refine Prod.ext ?_ (Prod.ext ?_ ?_)
  · show F 0 * ((if 0 = 2 then 1 else 0) + F 4 * v 0) + F 1 * ((if 1 = 2 then 1 else 0) + F 4 * v 1) + F 2 * ((if 2 = 2 then 1 else 0) + F 4 * v 2) + F 3 * ((if 3 = 2 then 1 else 0) + F 4 * v 3) = F 2 + F 4 * (F 0 * v 0 + F 1 * v 1 + F 2 * v 2 + F 3 * v 3)
    rw [if_neg (show ¬ (0 : Nat) = 2 by decide), if_neg (show ¬ (1 : Nat) = 2 by decide), if_pos rfl, if_neg (show ¬ (3 : Nat) = 2 by decide), Nat.zero_add, Nat.zero_add, Nat.zero_add, Nat.mul_add (F 2), Nat.mul_one, Nat.mul_add (F 4), Nat.mul_add (F 4), Nat.mul_add (F 4), Nat.mul_left_comm (F 0), Nat.mul_left_comm (F 1), Nat.mul_left_comm (F 2), Nat.mul_left_comm (F 3)]
    omega
  · show (if 4 = 2 then 1 else 0) + F 4 * v 4 = F 4 * v 4
    rw [if_neg (show ¬ (4 : Nat) = 2 by decide), Nat.zero_add]
  · show (if 5 = 2 then 1 else 0) + F 4 * v 5 = F 4 * v 5
    rw [if_neg (show ¬ (5 : Nat) = 2 by decide), Nat.zero_add]
theorem phi_g (F : Nat → Nat) (v w : Nat → Nat) : phi F (cvg (F 5) (F 6) v w) = (F 3 + F 5 * (phi F v).1 + F 6 * (phi F w).1, F 5 * (phi F v).2.1 + F 6 * (phi F w).2.1, F 5 * (phi F v).2.2 + F 6 * (phi F w).2.2) := by
  unfold phi cvg
  refine Prod.ext ?_ (Prod.ext ?_ ?_)
  · show F 0 * ((if 0 = 3 then 1 else 0) + F 5 * v 0 + F 6 * w 0) + F 1 * ((if 1 = 3 then 1 else 0) + F 5 * v 1 + F 6 * w 1) + F 2 * ((if 2 = 3 then 1 else 0) + F 5 * v 2 + F 6 * w 2) + F 3 * ((if 3 = 3 then 1 else 0) + F 5 * v 3 + F 6 * w 3) = F 3 + F 5 * (F 0 * v 0 + F 1 * v 1 + F 2 * v 2 + F 3 * v 3) + F 6 * (F 0 * w 0 + F 1 * w 1 + F 2 * w 2 + F 3 * w 3)
    rw [if_neg (show ¬ (0 : Nat) = 3 by decide), if_neg (show ¬ (1 : Nat) = 3 by decide), if_neg (show ¬ (2 : Nat) = 3 by decide), if_pos rfl, Nat.zero_add, Nat.zero_add, Nat.zero_add]
    simp only [Nat.mul_add, Nat.mul_one, Nat.mul_left_comm (F 0), Nat.mul_left_comm (F 1), Nat.mul_left_comm (F 2), Nat.mul_left_comm (F 3)]
    omega
  · show (if 4 = 3 then 1 else 0) + F 5 * v 4 + F 6 * w 4 = F 5 * v 4 + F 6 * w 4
    rw [if_neg (show ¬ (4 : Nat) = 3 by decide), Nat.zero_add]
  · show (if 5 = 3 then 1 else 0) + F 5 * v 5 + F 6 * w 5 = F 5 * v 5 + F 6 * w 5
    rw [if_neg (show ¬ (5 : Nat) = 3 by decide), Nat.zero_add]
theorem phi_l (F : Nat → Nat) {c : Int32} (h : VL c) (hw : wn c = 0) : phi F (cvl c) = wl F c := by
  rcases h with rfl | rfl | rfl | rfl | rfl | rfl
  · show (F 0 * 1 + F 1 * 0 + F 2 * 0 + F 3 * 0, 0, 0) = (F 0, 0, 0)
    simp
  · show (F 0 * 0 + F 1 * 1 + F 2 * 0 + F 3 * 0, 0, 0) = (F 1, 0, 0)
    simp
  · cases hw
  · cases hw
  · show (F 0 * 0 + F 1 * 0 + F 2 * 0 + F 3 * 0, 1, 0) = (0, 1, 0)
    simp
  · show (F 0 * 0 + F 1 * 0 + F 2 * 0 + F 3 * 0, 0, 1) = (0, 0, 1)
    simp
/-- with few letters the remainder does nothing -/
theorem wst_cv {F : Nat → Nat} (hF : ∀ i, i < 7 → F i ≤ 3) : ∀ (t : List Int32), t.length ≤ 12 → VLs t → wst3 F t = (cvs (F 4) (F 5) (F 6) t).map (phi F)
  | [], _, _ => rfl
  | c :: cs, h12, hv => by
    rw [List.length_cons] at h12
    have ih := wst_cv hF cs (by omega) (fun x hx => hv x (List.mem_cons_of_mem _ hx))
    have hb : ∀ i, smi i (cvs (F 4) (F 5) (F 6) (c :: cs)) ≤ 16777216 := by
      intro i
      have h1 := cvs_sum (hF 4 (by decide)) (hF 5 (by decide)) (hF 6 (by decide)) i (c :: cs)
      have h2 : 4 ^ (c :: cs).length ≤ 4 ^ 12 := Nat.pow_le_pow_right (by decide) (by rw [List.length_cons]; omega)
      omega
    unfold wst3 cvs at ih
    unfold cvs at hb
    unfold wst3 cvs
    rcases wn_3 c with ⟨h1, h2⟩ | ⟨h1, h2⟩ | ⟨_, _, h2⟩
    · subst h1
      cases hs : stk cvl (cvf (F 4)) (cvg (F 5) (F 6)) cs with
      | nil =>
        rw [hs] at ih
        have e1 : stk cvl (cvf (F 4)) (cvg (F 5) (F 6)) (102 :: cs) = [] := by
          conv => lhs; unfold stk
          rw [if_pos rfl, hs]
        have e2 : stk (wl F) (wf1 F) (wg2 F) (102 :: cs) = [] := by
          conv => lhs; unfold stk
          rw [if_pos rfl, ih]
          rfl
        rw [e1, e2]
        rfl
      | cons a s =>
        rw [hs] at ih
        rw [stk_f hs] at hb ⊢
        have hl := phi_lt hF (v := cvf (F 4) a) (fun i => Nat.le_trans (smi_mem _ _ List.mem_cons_self) (hb i))
        rw [stk_f ih]
        show wf1 F (phi F a) :: s.map (phi F) = phi F (cvf (F 4) a) :: s.map (phi F)
        rw [phi_f] at hl ⊢
        unfold wf1
        rw [Nat.mod_eq_of_lt hl.1, Nat.mod_eq_of_lt hl.2.1, Nat.mod_eq_of_lt hl.2.2]
    · subst h1
      cases hs : stk cvl (cvf (F 4)) (cvg (F 5) (F 6)) cs with
      | nil =>
        rw [hs] at ih
        have e1 : stk cvl (cvf (F 4)) (cvg (F 5) (F 6)) (103 :: cs) = [] := by
          conv => lhs; unfold stk
          rw [if_neg (by decide), if_pos rfl, hs]
        have e2 : stk (wl F) (wf1 F) (wg2 F) (103 :: cs) = [] := by
          conv => lhs; unfold stk
          rw [if_neg (by decide), if_pos rfl, ih]
          rfl
        rw [e1, e2]
        rfl
      | cons a s =>
        cases s with
        | nil =>
          rw [hs] at ih
          have e1 : stk cvl (cvf (F 4)) (cvg (F 5) (F 6)) (103 :: cs) = [] := by
            conv => lhs; unfold stk
            rw [if_neg (by decide), if_pos rfl, hs]
          have e2 : stk (wl F) (wf1 F) (wg2 F) (103 :: cs) = [] := by
            conv => lhs; unfold stk
            rw [if_neg (by decide), if_pos rfl, ih]
            rfl
          rw [e1, e2]
          rfl
        | cons b s =>
          rw [hs] at ih
          rw [stk_g hs] at hb ⊢
          have hl := phi_lt hF (v := cvg (F 5) (F 6) a b) (fun i => Nat.le_trans (smi_mem _ _ List.mem_cons_self) (hb i))
          rw [stk_g ih]
          show wg2 F (phi F a) (phi F b) :: s.map (phi F) = phi F (cvg (F 5) (F 6) a b) :: s.map (phi F)
          rw [phi_g] at hl ⊢
          unfold wg2
          rw [Nat.mod_eq_of_lt hl.1, Nat.mod_eq_of_lt hl.2.1, Nat.mod_eq_of_lt hl.2.2]
    · rw [stk_l h2, stk_l h2, ih, List.map_cons, phi_l F (hv c List.mem_cons_self) h2]
