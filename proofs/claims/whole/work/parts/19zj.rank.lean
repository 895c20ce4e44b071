/-! ===== the least weights: the trials in their order ===== -/
def dg (B lo k : Nat) : Nat → Nat := fun i => if i = 0 then k / 27 / B / B / B else if i = 1 then k / 27 / B / B % B else if i = 2 then k / 27 / B % B else if i = 3 then k / 27 % B else if i = 4 then k / 9 % 3 + lo else if i = 5 then k / 3 % 3 + lo else k % 3 + lo
theorem dg0 (B lo k : Nat) : dg B lo k 0 = k / 27 / B / B / B := rfl
theorem dg1 (B lo k : Nat) : dg B lo k 1 = k / 27 / B / B % B := rfl
theorem dg2 (B lo k : Nat) : dg B lo k 2 = k / 27 / B % B := rfl
theorem dg3 (B lo k : Nat) : dg B lo k 3 = k / 27 % B := rfl
theorem dg4 (B lo k : Nat) : dg B lo k 4 = k / 9 % 3 + lo := rfl
theorem dg5 (B lo k : Nat) : dg B lo k 5 = k / 3 % 3 + lo := rfl
theorem dg6 (B lo k : Nat) : dg B lo k 6 = k % 3 + lo := rfl
def cfg (B lo T : Nat) : Prop := (B = 4 ∧ lo = 1 ∧ T = 6912) ∨ (B = 3 ∧ lo = 0 ∧ T = 2187)
def nF (F : Nat → Nat) : Nat := 1000 * nm (F 0) (F 1) (F 2) (F 3) + (100 * F 4 + 10 * F 5 + F 6)
theorem dg_le {B lo T k : Nat} (h : cfg B lo T) (hk : k < T) : ∀ i, i < 7 → dg B lo k i ≤ lo + 2 := by
  intro i hi
  rcases h with ⟨rfl, rfl, rfl⟩ | ⟨rfl, rfl, rfl⟩
  · rcases (show i = 0 ∨ i = 1 ∨ i = 2 ∨ i = 3 ∨ i = 4 ∨ i = 5 ∨ i = 6 by omega) with rfl | rfl | rfl | rfl | rfl | rfl | rfl
    · rw [dg0]; omega
    · rw [dg1]; omega
    · rw [dg2]; omega
    · rw [dg3]; omega
    · rw [dg4]; omega
    · rw [dg5]; omega
    · rw [dg6]; omega
  · rcases (show i = 0 ∨ i = 1 ∨ i = 2 ∨ i = 3 ∨ i = 4 ∨ i = 5 ∨ i = 6 by omega) with rfl | rfl | rfl | rfl | rfl | rfl | rfl
    · rw [dg0]; omega
    · rw [dg1]; omega
    · rw [dg2]; omega
    · rw [dg3]; omega
    · rw [dg4]; omega
    · rw [dg5]; omega
    · rw [dg6]; omega
/-- the digits, from the last: which is the first that can still grow -/
def wD (lo : Nat) (j : Nat) : Nat := if 4 ≤ j then lo else 0
def nxD (D : Nat → Nat) (lo i : Nat) (j : Nat) : Nat := if j < i then D j else if j = i then D j + 1 else wD lo j
theorem go_L {hi lo : Nat} {D : Nat → Nat} (hlo : lo ≤ 1) (hhi : hi = lo + 2) (hD : ∀ i, i < 7 → D i ≤ hi) :
    ∀ (i n : Nat) (I : mI), i < n → i ≤ 7 → (∀ j, j < 7 → I 8 j = nI (if j < i then D j else wD lo j)) → (∀ j, i ≤ j → j < 7 → D j = hi) →
      ∃ i' I', f_X11_goesOn_L3 n 0 (nI lo) (nI hi) (nI i + (-1)) I R1M = some (nI i' + (-1), I') ∧ i' ≤ i ∧ (∀ j, i' ≤ j → j < 7 → D j = hi) ∧ (i' = 0 ∨ D (i' - 1) < hi) ∧ (∀ j, j < 7 → I' 8 j = nI (if j < i' then D j else wD lo j)) ∧ ∀ a, a ≠ 8 → I' a = I a := by
  intro i
  induction i with
  | zero =>
    intro n I g1 g2 g3 g4
    obtain ⟨n, rfl⟩ : ∃ x, n = x + 1 := ⟨n - 1, by omega⟩
    rw [f_X11_goesOn_L3, if_pos (show nI 0 + (-1) < 0 by decide)]
    exact ⟨0, I, rfl, Nat.le_refl _, g4, Or.inl rfl, g3, fun _ _ => rfl⟩
  | succ i ih =>
    intro n I g1 g2 g3 g4
    obtain ⟨n, rfl⟩ : ∃ x, n = x + 1 := ⟨n - 1, by omega⟩
    have hd := hD i (by omega)
    rw [f_X11_goesOn_L3, pk_m1, if_neg (nI_pos (by omega)), mr12, lm8, if_pos (inb_nI (by omega) (by omega)), nI_clamp (by omega), g3 i (by omega), if_pos (show i < i + 1 by omega)]
    by_cases hc : D i = hi
    · rw [if_pos (by rw [hc])]
      have hw : (if (4 : Int32) ≤ nI i then nI lo else (0 : Int32)) = nI (wD lo i) := by
        unfold wD
        by_cases w : 4 ≤ i
        · rw [if_pos w, if_pos (show (4 : Int32) ≤ nI i from nI_le (a := 4) w (by omega))]
        · rw [if_neg w, if_neg (show ¬ (4 : Int32) ≤ nI i from nI_ge (b := 4) (by omega) (by omega))]
          rfl
      obtain ⟨i', I', e1, e2, e3, e4, e5, e6⟩ := ih n (u2 I 8 i (nI (wD lo i))) (by omega) (by omega) (fun j hj => by
        by_cases w : j = i
        · rw [w, u2_e, if_neg (by omega)]
        · rw [u2_o _ _ _ w, g3 j hj]
          by_cases w2 : j < i
          · rw [if_pos (by omega), if_pos w2]
          · rw [if_neg (by omega), if_neg w2]) (fun j k1 k2 => by
        by_cases w : j = i
        · rw [w]; exact hc
        · exact g4 j (by omega) k2)
      refine ⟨i', I', ?_, by omega, e3, e4, e5, fun a ha => by rw [e6 a ha, u2_n _ _ _ ha]⟩
      rw [← e1, ← hw]
      simp only [bnd_e]
      by_cases w : (4 : Int32) ≤ nI i
      · rw [if_pos w, if_pos w]
      · rw [if_neg w, if_neg w]
    · rw [if_neg (fun q => hc (nI_inj (by omega) (by omega) q))]
      exact ⟨i + 1, I, by rw [pk_m1], Nat.le_refl _, g4, Or.inr (by show D i < hi; omega), g3, fun _ _ => rfl⟩
theorem go_ok {hi lo : Nat} {D : Nat → Nat} (hlo : lo ≤ 1) (hhi : hi = lo + 2) (hD : ∀ i, i < 7 → D i ≤ hi) {I : mI} (g : ∀ j, j < 7 → I 8 j = nI (D j)) :
    ∃ I', (∀ a, a ≠ 8 → I' a = I a) ∧ ((f_X11_goesOn 0 (nI lo) (nI hi) I R1M = some (0, I') ∧ ∀ j, j < 7 → D j = hi) ∨ ∃ i, i < 7 ∧ f_X11_goesOn 0 (nI lo) (nI hi) I R1M = some (1, I') ∧ (∀ j, i < j → j < 7 → D j = hi) ∧ D i < hi ∧ ∀ j, j < 7 → I' 8 j = nI (nxD D lo i j)) := by
  obtain ⟨i', I', e1, e2, e3, e4, e5, e6⟩ := go_L hlo hhi hD 7 FU I (by rw [FU_eq]; omega) (Nat.le_refl _) (fun j hj => by rw [if_pos hj]; exact g j hj) (fun j k1 k2 => by omega)
  rw [show nI 7 + (-1) = (6 : Int32) by decide] at e1
  unfold f_X11_goesOn
  rw [e1, bd2_s]
  cases i' with
  | zero =>
    rw [if_neg (show ¬ (0 : Int32) ≤ nI 0 + (-1) by decide)]
    exact ⟨I', e6, Or.inl ⟨rfl, fun j hj => e3 j (Nat.zero_le _) hj⟩⟩
  | succ i =>
    have hd : D i < hi := by
      rcases e4 with w | w
      · cases w
      · exact w
    rw [pk_m1, if_pos (show (0 : Int32) ≤ nI i from nI_le (a := 0) (by omega) (by omega)), mr12, lm8, if_pos (inb_nI (by omega) (by omega)), nI_clamp (by omega), e5 i (by omega), if_pos (show i < i + 1 by omega)]
    simp only [bnd_e]
    refine ⟨_, ?_, Or.inr ⟨i, by omega, rfl, fun j k1 k2 => e3 j (by omega) k2, hd, fun j hj => ?_⟩⟩
    · intro a ha
      rw [u2_n _ _ _ ha, e6 a ha]
    · unfold nxD
      by_cases w : j = i
      · rw [w, u2_e, if_neg (by omega), if_pos rfl, nI_1 (D i)]
      · rw [u2_o _ _ _ w, e5 j hj]
        by_cases w2 : j < i
        · rw [if_pos (by omega), if_pos w2]
        · rw [if_neg (by omega), if_neg w2, if_neg w]
theorem nx0 {D : Nat → Nat} {lo i j : Nat} (h : j < i) : nxD D lo i j = D j := if_pos h
theorem nx1 {D : Nat → Nat} {lo i : Nat} : nxD D lo i i = D i + 1 := by unfold nxD; rw [if_neg (by omega), if_pos rfl]
theorem nx2 {D : Nat → Nat} {lo i j : Nat} (h : i < j) (h4 : 4 ≤ j) : nxD D lo i j = lo := by unfold nxD wD; rw [if_neg (by omega), if_neg (by omega), if_pos h4]
theorem nx3 {D : Nat → Nat} {lo i j : Nat} (h : i < j) (h4 : j < 4) : nxD D lo i j = 0 := by unfold nxD wD; rw [if_neg (by omega), if_neg (by omega), if_neg (by omega)]
theorem dg_next4 {k i : Nat} (hk : k < 6912) (hi : i < 7) (h1 : ∀ j, i < j → j < 7 → dg 4 1 k j = 3) (h2 : dg 4 1 k i < 3) : k + 1 < 6912 ∧ ∀ j, j < 7 → nxD (dg 4 1 k) 1 i j = dg 4 1 (k + 1) j := by
  rcases (show i = 0 ∨ i = 1 ∨ i = 2 ∨ i = 3 ∨ i = 4 ∨ i = 5 ∨ i = 6 by omega) with rfl | rfl | rfl | rfl | rfl | rfl | rfl
  · rw [dg0] at h2
    have a1 := h1 1 (by omega) (by omega)
    rw [dg1] at a1
    have a2 := h1 2 (by omega) (by omega)
    rw [dg2] at a2
    have a3 := h1 3 (by omega) (by omega)
    rw [dg3] at a3
    have a4 := h1 4 (by omega) (by omega)
    rw [dg4] at a4
    have a5 := h1 5 (by omega) (by omega)
    rw [dg5] at a5
    have a6 := h1 6 (by omega) (by omega)
    rw [dg6] at a6
    refine ⟨by omega, fun j hj => ?_⟩
    rcases (show j = 0 ∨ j = 1 ∨ j = 2 ∨ j = 3 ∨ j = 4 ∨ j = 5 ∨ j = 6 by omega) with rfl | rfl | rfl | rfl | rfl | rfl | rfl
    · rw [nx1, dg0, dg0]; omega
    · rw [nx3 (by omega) (by omega), dg1]; omega
    · rw [nx3 (by omega) (by omega), dg2]; omega
    · rw [nx3 (by omega) (by omega), dg3]; omega
    · rw [nx2 (by omega) (by omega), dg4]; omega
    · rw [nx2 (by omega) (by omega), dg5]; omega
    · rw [nx2 (by omega) (by omega), dg6]; omega
  · rw [dg1] at h2
    have a2 := h1 2 (by omega) (by omega)
    rw [dg2] at a2
    have a3 := h1 3 (by omega) (by omega)
    rw [dg3] at a3
    have a4 := h1 4 (by omega) (by omega)
    rw [dg4] at a4
    have a5 := h1 5 (by omega) (by omega)
    rw [dg5] at a5
    have a6 := h1 6 (by omega) (by omega)
    rw [dg6] at a6
    refine ⟨by omega, fun j hj => ?_⟩
    rcases (show j = 0 ∨ j = 1 ∨ j = 2 ∨ j = 3 ∨ j = 4 ∨ j = 5 ∨ j = 6 by omega) with rfl | rfl | rfl | rfl | rfl | rfl | rfl
    · rw [nx0 (by omega), dg0, dg0]; omega
    · rw [nx1, dg1, dg1]; omega
    · rw [nx3 (by omega) (by omega), dg2]; omega
    · rw [nx3 (by omega) (by omega), dg3]; omega
    · rw [nx2 (by omega) (by omega), dg4]; omega
    · rw [nx2 (by omega) (by omega), dg5]; omega
    · rw [nx2 (by omega) (by omega), dg6]; omega
  · rw [dg2] at h2
    have a3 := h1 3 (by omega) (by omega)
    rw [dg3] at a3
    have a4 := h1 4 (by omega) (by omega)
    rw [dg4] at a4
    have a5 := h1 5 (by omega) (by omega)
    rw [dg5] at a5
    have a6 := h1 6 (by omega) (by omega)
    rw [dg6] at a6
    refine ⟨by omega, fun j hj => ?_⟩
    rcases (show j = 0 ∨ j = 1 ∨ j = 2 ∨ j = 3 ∨ j = 4 ∨ j = 5 ∨ j = 6 by omega) with rfl | rfl | rfl | rfl | rfl | rfl | rfl
    · rw [nx0 (by omega), dg0, dg0]; omega
    · rw [nx0 (by omega), dg1, dg1]; omega
    · rw [nx1, dg2, dg2]; omega
    · rw [nx3 (by omega) (by omega), dg3]; omega
    · rw [nx2 (by omega) (by omega), dg4]; omega
    · rw [nx2 (by omega) (by omega), dg5]; omega
    · rw [nx2 (by omega) (by omega), dg6]; omega
  · rw [dg3] at h2
    have a4 := h1 4 (by omega) (by omega)
    rw [dg4] at a4
    have a5 := h1 5 (by omega) (by omega)
    rw [dg5] at a5
    have a6 := h1 6 (by omega) (by omega)
    rw [dg6] at a6
    refine ⟨by omega, fun j hj => ?_⟩
    rcases (show j = 0 ∨ j = 1 ∨ j = 2 ∨ j = 3 ∨ j = 4 ∨ j = 5 ∨ j = 6 by omega) with rfl | rfl | rfl | rfl | rfl | rfl | rfl
    · rw [nx0 (by omega), dg0, dg0]; omega
    · rw [nx0 (by omega), dg1, dg1]; omega
    · rw [nx0 (by omega), dg2, dg2]; omega
    · rw [nx1, dg3, dg3]; omega
    · rw [nx2 (by omega) (by omega), dg4]; omega
    · rw [nx2 (by omega) (by omega), dg5]; omega
    · rw [nx2 (by omega) (by omega), dg6]; omega
  · rw [dg4] at h2
    have a5 := h1 5 (by omega) (by omega)
    rw [dg5] at a5
    have a6 := h1 6 (by omega) (by omega)
    rw [dg6] at a6
    refine ⟨by omega, fun j hj => ?_⟩
    rcases (show j = 0 ∨ j = 1 ∨ j = 2 ∨ j = 3 ∨ j = 4 ∨ j = 5 ∨ j = 6 by omega) with rfl | rfl | rfl | rfl | rfl | rfl | rfl
    · rw [nx0 (by omega), dg0, dg0]; omega
    · rw [nx0 (by omega), dg1, dg1]; omega
    · rw [nx0 (by omega), dg2, dg2]; omega
    · rw [nx0 (by omega), dg3, dg3]; omega
    · rw [nx1, dg4, dg4]; omega
    · rw [nx2 (by omega) (by omega), dg5]; omega
    · rw [nx2 (by omega) (by omega), dg6]; omega
  · rw [dg5] at h2
    have a6 := h1 6 (by omega) (by omega)
    rw [dg6] at a6
    refine ⟨by omega, fun j hj => ?_⟩
    rcases (show j = 0 ∨ j = 1 ∨ j = 2 ∨ j = 3 ∨ j = 4 ∨ j = 5 ∨ j = 6 by omega) with rfl | rfl | rfl | rfl | rfl | rfl | rfl
    · rw [nx0 (by omega), dg0, dg0]; omega
    · rw [nx0 (by omega), dg1, dg1]; omega
    · rw [nx0 (by omega), dg2, dg2]; omega
    · rw [nx0 (by omega), dg3, dg3]; omega
    · rw [nx0 (by omega), dg4, dg4]; omega
    · rw [nx1, dg5, dg5]; omega
    · rw [nx2 (by omega) (by omega), dg6]; omega
  · rw [dg6] at h2
    refine ⟨by omega, fun j hj => ?_⟩
    rcases (show j = 0 ∨ j = 1 ∨ j = 2 ∨ j = 3 ∨ j = 4 ∨ j = 5 ∨ j = 6 by omega) with rfl | rfl | rfl | rfl | rfl | rfl | rfl
    · rw [nx0 (by omega), dg0, dg0]; omega
    · rw [nx0 (by omega), dg1, dg1]; omega
    · rw [nx0 (by omega), dg2, dg2]; omega
    · rw [nx0 (by omega), dg3, dg3]; omega
    · rw [nx0 (by omega), dg4, dg4]; omega
    · rw [nx0 (by omega), dg5, dg5]; omega
    · rw [nx1, dg6, dg6]; omega
theorem dg_last4 {k : Nat} (hk : k < 6912) (h1 : ∀ j, j < 7 → dg 4 1 k j = 3) : k + 1 = 6912 := by
  have a0 := h1 0 (by omega)
  rw [dg0] at a0
  have a1 := h1 1 (by omega)
  rw [dg1] at a1
  have a2 := h1 2 (by omega)
  rw [dg2] at a2
  have a3 := h1 3 (by omega)
  rw [dg3] at a3
  have a4 := h1 4 (by omega)
  rw [dg4] at a4
  have a5 := h1 5 (by omega)
  rw [dg5] at a5
  have a6 := h1 6 (by omega)
  rw [dg6] at a6
  omega
theorem dg_next3 {k i : Nat} (hk : k < 2187) (hi : i < 7) (h1 : ∀ j, i < j → j < 7 → dg 3 0 k j = 2) (h2 : dg 3 0 k i < 2) : k + 1 < 2187 ∧ ∀ j, j < 7 → nxD (dg 3 0 k) 0 i j = dg 3 0 (k + 1) j := by
  rcases (show i = 0 ∨ i = 1 ∨ i = 2 ∨ i = 3 ∨ i = 4 ∨ i = 5 ∨ i = 6 by omega) with rfl | rfl | rfl | rfl | rfl | rfl | rfl
  · rw [dg0] at h2
    have a1 := h1 1 (by omega) (by omega)
    rw [dg1] at a1
    have a2 := h1 2 (by omega) (by omega)
    rw [dg2] at a2
    have a3 := h1 3 (by omega) (by omega)
    rw [dg3] at a3
    have a4 := h1 4 (by omega) (by omega)
    rw [dg4] at a4
    have a5 := h1 5 (by omega) (by omega)
    rw [dg5] at a5
    have a6 := h1 6 (by omega) (by omega)
    rw [dg6] at a6
    refine ⟨by omega, fun j hj => ?_⟩
    rcases (show j = 0 ∨ j = 1 ∨ j = 2 ∨ j = 3 ∨ j = 4 ∨ j = 5 ∨ j = 6 by omega) with rfl | rfl | rfl | rfl | rfl | rfl | rfl
    · rw [nx1, dg0, dg0]; omega
    · rw [nx3 (by omega) (by omega), dg1]; omega
    · rw [nx3 (by omega) (by omega), dg2]; omega
    · rw [nx3 (by omega) (by omega), dg3]; omega
    · rw [nx2 (by omega) (by omega), dg4]; omega
    · rw [nx2 (by omega) (by omega), dg5]; omega
    · rw [nx2 (by omega) (by omega), dg6]; omega
  · rw [dg1] at h2
    have a2 := h1 2 (by omega) (by omega)
    rw [dg2] at a2
    have a3 := h1 3 (by omega) (by omega)
    rw [dg3] at a3
    have a4 := h1 4 (by omega) (by omega)
    rw [dg4] at a4
    have a5 := h1 5 (by omega) (by omega)
    rw [dg5] at a5
    have a6 := h1 6 (by omega) (by omega)
    rw [dg6] at a6
    refine ⟨by omega, fun j hj => ?_⟩
    rcases (show j = 0 ∨ j = 1 ∨ j = 2 ∨ j = 3 ∨ j = 4 ∨ j = 5 ∨ j = 6 by omega) with rfl | rfl | rfl | rfl | rfl | rfl | rfl
    · rw [nx0 (by omega), dg0, dg0]; omega
    · rw [nx1, dg1, dg1]; omega
    · rw [nx3 (by omega) (by omega), dg2]; omega
    · rw [nx3 (by omega) (by omega), dg3]; omega
    · rw [nx2 (by omega) (by omega), dg4]; omega
    · rw [nx2 (by omega) (by omega), dg5]; omega
    · rw [nx2 (by omega) (by omega), dg6]; omega
  · rw [dg2] at h2
    have a3 := h1 3 (by omega) (by omega)
    rw [dg3] at a3
    have a4 := h1 4 (by omega) (by omega)
    rw [dg4] at a4
    have a5 := h1 5 (by omega) (by omega)
    rw [dg5] at a5
    have a6 := h1 6 (by omega) (by omega)
    rw [dg6] at a6
    refine ⟨by omega, fun j hj => ?_⟩
    rcases (show j = 0 ∨ j = 1 ∨ j = 2 ∨ j = 3 ∨ j = 4 ∨ j = 5 ∨ j = 6 by omega) with rfl | rfl | rfl | rfl | rfl | rfl | rfl
    · rw [nx0 (by omega), dg0, dg0]; omega
    · rw [nx0 (by omega), dg1, dg1]; omega
    · rw [nx1, dg2, dg2]; omega
    · rw [nx3 (by omega) (by omega), dg3]; omega
    · rw [nx2 (by omega) (by omega), dg4]; omega
    · rw [nx2 (by omega) (by omega), dg5]; omega
    · rw [nx2 (by omega) (by omega), dg6]; omega
  · rw [dg3] at h2
    have a4 := h1 4 (by omega) (by omega)
    rw [dg4] at a4
    have a5 := h1 5 (by omega) (by omega)
    rw [dg5] at a5
    have a6 := h1 6 (by omega) (by omega)
    rw [dg6] at a6
    refine ⟨by omega, fun j hj => ?_⟩
    rcases (show j = 0 ∨ j = 1 ∨ j = 2 ∨ j = 3 ∨ j = 4 ∨ j = 5 ∨ j = 6 by omega) with rfl | rfl | rfl | rfl | rfl | rfl | rfl
    · rw [nx0 (by omega), dg0, dg0]; omega
    · rw [nx0 (by omega), dg1, dg1]; omega
    · rw [nx0 (by omega), dg2, dg2]; omega
    · rw [nx1, dg3, dg3]; omega
    · rw [nx2 (by omega) (by omega), dg4]; omega
    · rw [nx2 (by omega) (by omega), dg5]; omega
    · rw [nx2 (by omega) (by omega), dg6]; omega
  · rw [dg4] at h2
    have a5 := h1 5 (by omega) (by omega)
    rw [dg5] at a5
    have a6 := h1 6 (by omega) (by omega)
    rw [dg6] at a6
    refine ⟨by omega, fun j hj => ?_⟩
    rcases (show j = 0 ∨ j = 1 ∨ j = 2 ∨ j = 3 ∨ j = 4 ∨ j = 5 ∨ j = 6 by omega) with rfl | rfl | rfl | rfl | rfl | rfl | rfl
    · rw [nx0 (by omega), dg0, dg0]; omega
    · rw [nx0 (by omega), dg1, dg1]; omega
    · rw [nx0 (by omega), dg2, dg2]; omega
    · rw [nx0 (by omega), dg3, dg3]; omega
    · rw [nx1, dg4, dg4]; omega
    · rw [nx2 (by omega) (by omega), dg5]; omega
    · rw [nx2 (by omega) (by omega), dg6]; omega
  · rw [dg5] at h2
    have a6 := h1 6 (by omega) (by omega)
    rw [dg6] at a6
    refine ⟨by omega, fun j hj => ?_⟩
    rcases (show j = 0 ∨ j = 1 ∨ j = 2 ∨ j = 3 ∨ j = 4 ∨ j = 5 ∨ j = 6 by omega) with rfl | rfl | rfl | rfl | rfl | rfl | rfl
    · rw [nx0 (by omega), dg0, dg0]; omega
    · rw [nx0 (by omega), dg1, dg1]; omega
    · rw [nx0 (by omega), dg2, dg2]; omega
    · rw [nx0 (by omega), dg3, dg3]; omega
    · rw [nx0 (by omega), dg4, dg4]; omega
    · rw [nx1, dg5, dg5]; omega
    · rw [nx2 (by omega) (by omega), dg6]; omega
  · rw [dg6] at h2
    refine ⟨by omega, fun j hj => ?_⟩
    rcases (show j = 0 ∨ j = 1 ∨ j = 2 ∨ j = 3 ∨ j = 4 ∨ j = 5 ∨ j = 6 by omega) with rfl | rfl | rfl | rfl | rfl | rfl | rfl
    · rw [nx0 (by omega), dg0, dg0]; omega
    · rw [nx0 (by omega), dg1, dg1]; omega
    · rw [nx0 (by omega), dg2, dg2]; omega
    · rw [nx0 (by omega), dg3, dg3]; omega
    · rw [nx0 (by omega), dg4, dg4]; omega
    · rw [nx0 (by omega), dg5, dg5]; omega
    · rw [nx1, dg6, dg6]; omega
theorem dg_last3 {k : Nat} (hk : k < 2187) (h1 : ∀ j, j < 7 → dg 3 0 k j = 2) : k + 1 = 2187 := by
  have a0 := h1 0 (by omega)
  rw [dg0] at a0
  have a1 := h1 1 (by omega)
  rw [dg1] at a1
  have a2 := h1 2 (by omega)
  rw [dg2] at a2
  have a3 := h1 3 (by omega)
  rw [dg3] at a3
  have a4 := h1 4 (by omega)
  rw [dg4] at a4
  have a5 := h1 5 (by omega)
  rw [dg5] at a5
  have a6 := h1 6 (by omega)
  rw [dg6] at a6
  omega
theorem dg_next {B lo T k i : Nat} (h : cfg B lo T) (hk : k < T) (hi : i < 7) (h1 : ∀ j, i < j → j < 7 → dg B lo k j = lo + 2) (h2 : dg B lo k i < lo + 2) : k + 1 < T ∧ ∀ j, j < 7 → nxD (dg B lo k) lo i j = dg B lo (k + 1) j := by
  rcases h with ⟨rfl, rfl, rfl⟩ | ⟨rfl, rfl, rfl⟩
  · exact dg_next4 hk hi h1 h2
  · exact dg_next3 hk hi h1 h2
theorem dg_last {B lo T k : Nat} (h : cfg B lo T) (hk : k < T) (h1 : ∀ j, j < 7 → dg B lo k j = lo + 2) : k + 1 = T := by
  rcases h with ⟨rfl, rfl, rfl⟩ | ⟨rfl, rfl, rfl⟩
  · exact dg_last4 hk h1
  · exact dg_last3 hk h1
theorem nF_e (F : Nat → Nat) : nF F = 1000000 * F 0 + 100000 * F 1 + 10000 * F 2 + 1000 * F 3 + 100 * F 4 + 10 * F 5 + F 6 := by unfold nF nm; omega
theorem nF_nx {D : Nat → Nat} {lo i : Nat} (hi : i < 7) (hlo : lo ≤ 1) (hD : ∀ j, j < 7 → D j ≤ lo + 2) : nF D < nF (nxD D lo i) := by
  have d0 := hD 0 (by omega)
  have d1 := hD 1 (by omega)
  have d2 := hD 2 (by omega)
  have d3 := hD 3 (by omega)
  have d4 := hD 4 (by omega)
  have d5 := hD 5 (by omega)
  have d6 := hD 6 (by omega)
  rcases (show i = 0 ∨ i = 1 ∨ i = 2 ∨ i = 3 ∨ i = 4 ∨ i = 5 ∨ i = 6 by omega) with rfl | rfl | rfl | rfl | rfl | rfl | rfl
  · rw [nF_e, nF_e, show nxD D lo 0 0 = D 0 + 1 from nx1, show nxD D lo 0 1 = 0 from nx3 (by omega) (by omega), show nxD D lo 0 2 = 0 from nx3 (by omega) (by omega), show nxD D lo 0 3 = 0 from nx3 (by omega) (by omega), show nxD D lo 0 4 = lo from nx2 (by omega) (by omega), show nxD D lo 0 5 = lo from nx2 (by omega) (by omega), show nxD D lo 0 6 = lo from nx2 (by omega) (by omega)]; omega
  · rw [nF_e, nF_e, show nxD D lo 1 0 = D 0 from nx0 (by omega), show nxD D lo 1 1 = D 1 + 1 from nx1, show nxD D lo 1 2 = 0 from nx3 (by omega) (by omega), show nxD D lo 1 3 = 0 from nx3 (by omega) (by omega), show nxD D lo 1 4 = lo from nx2 (by omega) (by omega), show nxD D lo 1 5 = lo from nx2 (by omega) (by omega), show nxD D lo 1 6 = lo from nx2 (by omega) (by omega)]; omega
  · rw [nF_e, nF_e, show nxD D lo 2 0 = D 0 from nx0 (by omega), show nxD D lo 2 1 = D 1 from nx0 (by omega), show nxD D lo 2 2 = D 2 + 1 from nx1, show nxD D lo 2 3 = 0 from nx3 (by omega) (by omega), show nxD D lo 2 4 = lo from nx2 (by omega) (by omega), show nxD D lo 2 5 = lo from nx2 (by omega) (by omega), show nxD D lo 2 6 = lo from nx2 (by omega) (by omega)]; omega
  · rw [nF_e, nF_e, show nxD D lo 3 0 = D 0 from nx0 (by omega), show nxD D lo 3 1 = D 1 from nx0 (by omega), show nxD D lo 3 2 = D 2 from nx0 (by omega), show nxD D lo 3 3 = D 3 + 1 from nx1, show nxD D lo 3 4 = lo from nx2 (by omega) (by omega), show nxD D lo 3 5 = lo from nx2 (by omega) (by omega), show nxD D lo 3 6 = lo from nx2 (by omega) (by omega)]; omega
  · rw [nF_e, nF_e, show nxD D lo 4 0 = D 0 from nx0 (by omega), show nxD D lo 4 1 = D 1 from nx0 (by omega), show nxD D lo 4 2 = D 2 from nx0 (by omega), show nxD D lo 4 3 = D 3 from nx0 (by omega), show nxD D lo 4 4 = D 4 + 1 from nx1, show nxD D lo 4 5 = lo from nx2 (by omega) (by omega), show nxD D lo 4 6 = lo from nx2 (by omega) (by omega)]; omega
  · rw [nF_e, nF_e, show nxD D lo 5 0 = D 0 from nx0 (by omega), show nxD D lo 5 1 = D 1 from nx0 (by omega), show nxD D lo 5 2 = D 2 from nx0 (by omega), show nxD D lo 5 3 = D 3 from nx0 (by omega), show nxD D lo 5 4 = D 4 from nx0 (by omega), show nxD D lo 5 5 = D 5 + 1 from nx1, show nxD D lo 5 6 = lo from nx2 (by omega) (by omega)]; omega
  · rw [nF_e, nF_e, show nxD D lo 6 0 = D 0 from nx0 (by omega), show nxD D lo 6 1 = D 1 from nx0 (by omega), show nxD D lo 6 2 = D 2 from nx0 (by omega), show nxD D lo 6 3 = D 3 from nx0 (by omega), show nxD D lo 6 4 = D 4 from nx0 (by omega), show nxD D lo 6 5 = D 5 from nx0 (by omega), show nxD D lo 6 6 = D 6 + 1 from nx1]; omega
theorem nF_cong {F G : Nat → Nat} (h : ∀ j, j < 7 → F j = G j) : nF F = nF G := by
  rw [nF_e, nF_e, h 0 (by omega), h 1 (by omega), h 2 (by omega), h 3 (by omega), h 4 (by omega), h 5 (by omega), h 6 (by omega)]
theorem cfg.lo {B lo T : Nat} (h : cfg B lo T) : lo ≤ 1 := by
  rcases h with ⟨rfl, rfl, rfl⟩ | ⟨rfl, rfl, rfl⟩ <;> omega
theorem nF_lt {B lo T k : Nat} (h : cfg B lo T) (hk : k + 1 < T) : nF (dg B lo k) < nF (dg B lo (k + 1)) := by
  have hD := dg_le h (show k < T by omega)
  obtain ⟨_, _, (⟨_, w⟩ | ⟨i, hi, _, h1, h2, _⟩)⟩ := go_ok h.lo rfl hD (I := fun _ j => nI (dg B lo k j)) (fun j _ => rfl)
  · have := dg_last h (by omega) w; omega
  · rw [← nF_cong (dg_next h (by omega) hi h1 h2).2]
    exact nF_nx hi h.lo hD
theorem nF_mono {B lo T : Nat} (h : cfg B lo T) : ∀ (d k : Nat), k + d < T → nF (dg B lo k) + d ≤ nF (dg B lo (k + d))
  | 0, k, _ => Nat.le_refl _
  | d + 1, k, hk => by
    have h1 := nF_mono h d k (by omega)
    have h2 := nF_lt h (k := k + d) (by omega)
    rw [show k + (d + 1) = k + d + 1 by omega]
    omega
theorem noM_ok {F : Nat → Nat} {I : mI} (hf : ∀ i, i < 7 → I 8 i = nI (F i)) : f_X11_numberOf 0 I R1M = some (nI (nF F)) := by
  unfold f_X11_numberOf
  rw [show FU = 99992 + 1 + 1 + 1 + 1 + 1 + 1 + 1 + 1 from rfl]
  rw [f_X11_numberOf_L4, if_neg (by decide), mr12, lm8, if_pos (by decide)]
  rw [f_X11_numberOf_L4, if_neg (by decide), mr12, lm8, if_pos (by decide)]
  rw [f_X11_numberOf_L4, if_neg (by decide), mr12, lm8, if_pos (by decide)]
  rw [f_X11_numberOf_L4, if_neg (by decide), mr12, lm8, if_pos (by decide)]
  rw [f_X11_numberOf_L4, if_neg (by decide), mr12, lm8, if_pos (by decide)]
  rw [f_X11_numberOf_L4, if_neg (by decide), mr12, lm8, if_pos (by decide)]
  rw [f_X11_numberOf_L4, if_neg (by decide), mr12, lm8, if_pos (by decide)]
  rw [f_X11_numberOf_L4, if_pos (by decide)]
  rw [bd1_s, show Int32.toNatClampNeg 0 = 0 from rfl, show ((0 : Int32) + 1).toNatClampNeg = 1 from rfl, show ((0 : Int32) + 1 + 1).toNatClampNeg = 2 from rfl, show ((0 : Int32) + 1 + 1 + 1).toNatClampNeg = 3 from rfl, show ((0 : Int32) + 1 + 1 + 1 + 1).toNatClampNeg = 4 from rfl, show ((0 : Int32) + 1 + 1 + 1 + 1 + 1).toNatClampNeg = 5 from rfl, show ((0 : Int32) + 1 + 1 + 1 + 1 + 1 + 1).toNatClampNeg = 6 from rfl, hf 0 (by omega), hf 1 (by omega), hf 2 (by omega), hf 3 (by omega), hf 4 (by omega), hf 5 (by omega), hf 6 (by omega), ← nI0, show (10 : Int32) = nI 10 from rfl, pk_mul, nI_add, pk_mul, nI_add, pk_mul, nI_add, pk_mul, nI_add, pk_mul, nI_add, pk_mul, nI_add, pk_mul, nI_add, nF_e]
  congr 2
  omega
