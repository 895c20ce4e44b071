/-! ===== the weight of the term: the class ===== -/
def vA (F : Nat → Nat) (l : List Int32) (p : Nat) : Nat × Nat × Nat := vAt d3 (wl F) (wf1 F) (wg2 F) l p
theorem vA_sm {F : Nat → Nat} (hF : ∀ i, i < 7 → F i ≤ 9) (l : List Int32) (p : Nat) : Sm3 (vA F l p) := by
  unfold vA vAt
  have h := sm_mem hF (l.drop p)
  unfold wst3 at h
  cases hs : stk (wl F) (wf1 F) (wg2 F) (l.drop p) with
  | nil => exact ⟨by decide, by decide, by decide⟩
  | cons x t => rw [hs] at h; exact h x List.mem_cons_self
theorem lc262 : lnC 262 = 60 := rfl
theorem lc271 : lnC 271 = 7 := rfl
theorem toC {R : mR} {t p : Nat} {l : List Int32} {I : mI} {L : mL} (hR : R 256 3 = 262) (h2 : I t 2 = nI l.length) (hl : l.length ≤ 60) (hp : p < l.length) : f_X4_totalAt 256 t (nI p) I L R = some (L 262 p) := by
  unfold f_X4_totalAt
  simp only [bnd]
  rw [if_neg (nI_pos (by omega)), h2, if_neg (nI_ge hp (by omega)), hR, lc262, if_pos (inb_nI (by omega) (by omega)), nI_clamp (by omega)]
theorem wlC_L {R : mR} {t : Nat} {l : List Int32} {F : Nat → Nat} {I : mI} (hR : R 256 3 = 262) (hT : TO R t 60) (hl60 : l.length ≤ 60) (hl : Tm l) (h1 : TmC I t l) (hF : ∀ i, i < 7 → F i ≤ 9) (hf : ∀ i, i < 7 → I 271 i = nI (F i)) :
    ∀ (k n : Nat) (L : mL), k < n → k ≤ l.length → (∀ j, k ≤ j → j < l.length → L 262 j = lN (vA F l j).1) → ∃ L', f_X4_weightLeftOver_L7 n 256 t 271 (nI k + (-1)) I L R = some L' ∧ (∀ j, j < l.length → L' 262 j = lN (vA F l j).1) ∧ ∀ a, a ≠ 262 → L' a = L a := by
  obtain ⟨r0, r1, r2, r3, r4⟩ := hT
  have q4 : (4 : Int32).toNatClampNeg = 4 := rfl
  have q5 : (5 : Int32).toNatClampNeg = 5 := rfl
  have q6 : (6 : Int32).toNatClampNeg = 6 := rfl
  have q3 : (3 : Int32).toNatClampNeg = 3 := rfl
  have hc : ∀ i, i < 7 → (I 271 i).toInt64 = lN (F i) := fun i hi => by
    have := hF i hi
    rw [hf i hi, i2l (by omega)]
  have hF0 := hF 0 (by decide)
  have hF1 := hF 1 (by decide)
  have hF2 := hF 2 (by decide)
  have hF3 := hF 3 (by decide)
  have hF4 := hF 4 (by decide)
  have hF5 := hF 5 (by decide)
  have hF6 := hF 6 (by decide)
  have mul : ∀ {f v : Nat}, f ≤ 9 → v < PR → f * v ≤ 9 * 1000000006 := fun {f v} h h' => Nat.mul_le_mul h (by unfold PR at h'; omega)
  have small : ∀ {v : Nat}, v ≤ 9 → v % PR = v := fun {v} h => Nat.mod_eq_of_lt (by unfold PR; omega)
  intro k
  induction k with
  | zero =>
    intro n L g1 g2 g3
    obtain ⟨n, rfl⟩ : ∃ x, n = x + 1 := ⟨n - 1, by omega⟩
    refine ⟨L, ?_, fun j hj => g3 j (by omega) hj, fun _ _ => rfl⟩
    rw [f_X4_weightLeftOver_L7, if_pos (show nI 0 + (-1) < 0 by decide)]
  | succ k ih =>
    intro n L g1 g2 g3
    obtain ⟨n, rfl⟩ : ∃ x, n = x + 1 := ⟨n - 1, by omega⟩
    have hk : k < l.length := by omega
    obtain ⟨m, hm⟩ := wfb_drop l 1 k hl.1 hk
    have hm2 := hm
    rw [drop_c hk, wfb_cons] at hm2
    rw [f_X4_weightLeftOver_L7]
    simp only [bnd]
    rw [pk_m1, if_neg (nI_pos (by omega)), r0, r2, if_pos (inb_nI (by omega) (by omega)), nI_clamp (show k < 2 ^ 31 by omega), h1.2.1 k hk, hR, lc262, lc271, if_pos (inb_nI (show k < 60 by omega) (by omega))]
    have fin : ∀ v, v = lN (vA F l k).1 → ∃ L', f_X4_weightLeftOver_L7 n 256 t 271 (nI k + (-1)) I (u2 L 262 k v) R = some L' ∧ (∀ j, j < l.length → L' 262 j = lN (vA F l j).1) ∧ ∀ a, a ≠ 262 → L' a = L a := by
      intro v hv
      obtain ⟨L', e1, e2, e3⟩ := ih n (u2 L 262 k v) (by omega) (by omega) (fun j hj hj2 => by
        by_cases he : j = k
        · rw [he, u2_e, hv]
        · rw [u2_o _ _ _ he]; exact g3 j (by omega) hj2)
      exact ⟨L', e1, e2, fun a ha => by rw [e3 a ha, u2_n _ _ _ ha]⟩
    have hleaf : ∀ w, w ≤ 9 → wn (l.getD k 0) = 0 → (wl F (l.getD k 0)).1 = w → lN w - lN w / (1000000007 : Int64) * (1000000007 : Int64) = lN (vA F l k).1 := by
      intro w h9 h0 hw
      rw [rem_P (by omega), small h9]
      unfold vA
      rw [vAt_l hk h0, hw]
    rcases VLs_get hl.2 hk with e | e | e | e | e | e
    · rw [e, show f_X10_slotOf 97 = some 0 from rfl, bd1_s, if_neg (show ¬ (0 : Int32) < 0 by decide), if_neg (show ¬ (4 : Int32) ≤ 0 by decide), if_pos (show inb 0 7 = true from rfl), i0, hc 0 (by decide), if_neg (show ¬ (97 : Int32) = 102 by decide), if_neg (show ¬ (97 : Int32) = 103 by decide)]
      rw [if_pos (inb_nI (show k < 60 by omega) (by omega))]
      exact fin _ (hleaf (F 0) hF0 (by rw [e]; rfl) (by rw [e]; rfl))
    · rw [e, show f_X10_slotOf 98 = some 1 from rfl, bd1_s, if_neg (show ¬ (1 : Int32) < 0 by decide), if_neg (show ¬ (4 : Int32) ≤ 1 by decide), if_pos (show inb 1 7 = true from rfl), t1, hc 1 (by decide), if_neg (show ¬ (98 : Int32) = 102 by decide), if_neg (show ¬ (98 : Int32) = 103 by decide)]
      rw [if_pos (inb_nI (show k < 60 by omega) (by omega))]
      exact fin _ (hleaf (F 1) hF1 (by rw [e]; rfl) (by rw [e]; rfl))
    · rw [e] at hm2
      have hm3 : wfb (m + 1) (l.drop (k + 1)) = true := hm2
      have hk1 : k + 1 < l.length := by
        have := wfb_pos hm3
        rw [List.length_drop] at this
        omega
      have sm := vA_sm hF l (k + 1)
      have mm := mul hF4 sm.1
      rw [e, show f_X10_slotOf 102 = some 2 from rfl, bd1_s, if_neg (show ¬ (2 : Int32) < 0 by decide), if_neg (show ¬ (4 : Int32) ≤ 2 by decide), if_pos (show inb 2 7 = true from rfl), t2, hc 2 (by decide), if_pos rfl, if_pos (show inb 4 7 = true from rfl), nI_1 k, toC hR h1.1 hl60 hk1, bd1_s, q4, hc 4 (by decide), g3 (k + 1) (by omega) hk1, lN_mul, lN_add, rem_P (by omega)]
      rw [if_pos (inb_nI (show k < 60 by omega) (by omega))]
      refine fin _ ?_
      unfold vA
      rw [vAt_f hk hm3 e]
      rfl
    · rw [e] at hm2
      have hm3 : wfb (m + 2) (l.drop (k + 1)) = true := hm2
      have hk1 : k + 1 < l.length := by
        have := wfb_pos hm3
        rw [List.length_drop] at this
        omega
      have hn2 := (wf_next (a := m + 1) (m := 0) (i := k + 1) (by rw [Nat.add_zero]; exact hm3)).2
      rw [Nat.add_zero] at hn2
      have hk2 : ep l (k + 1) < l.length := by
        have := wfb_pos hn2
        rw [List.length_drop] at this
        omega
      have hgt := ep_gt hk1
      have sm := vA_sm hF l (k + 1)
      have sm' := vA_sm hF l (ep l (k + 1))
      have mm := mul hF5 sm.1
      have mm' := mul hF6 sm'.1
      rw [e, show f_X10_slotOf 103 = some 3 from rfl, bd1_s, if_neg (show ¬ (3 : Int32) < 0 by decide), if_neg (show ¬ (4 : Int32) ≤ 3 by decide), if_pos (show inb 3 7 = true from rfl), q3, hc 3 (by decide), if_neg (show ¬ (103 : Int32) = 102 by decide), if_pos rfl, nI_1 k, h1.1, if_neg (nI_ge hk1 (by omega)), if_pos (show inb 5 7 = true from rfl), toC hR h1.1 hl60 hk1, bd1_s, if_pos (show inb 6 7 = true from rfl), r1, r3, if_pos (inb_nI (by omega) (by omega)), nI_clamp (show k + 1 < 2 ^ 31 by omega), h1.2.2 (k + 1) hk1, toC hR h1.1 hl60 hk2, bd1_s, q5, q6, hc 5 (by decide), hc 6 (by decide), g3 (k + 1) (by omega) hk1, g3 (ep l (k + 1)) (by omega) hk2, lN_mul, lN_mul, lN_add, lN_add, rem_P (by omega)]
      rw [if_pos (inb_nI (show k < 60 by omega) (by omega))]
      refine fin _ ?_
      unfold vA
      rw [vAt_g hk hm3 e]
      rfl
    · rw [e, show f_X10_slotOf 120 = some 4 from rfl, bd1_s, if_neg (show ¬ (4 : Int32) < 0 by decide), if_pos (show (4 : Int32) ≤ 4 by decide), if_neg (show ¬ (120 : Int32) = 102 by decide), if_neg (show ¬ (120 : Int32) = 103 by decide)]
      exact fin _ (hleaf 0 (by omega) (by rw [e]; rfl) (by rw [e]; rfl))
    · rw [e, show f_X10_slotOf 121 = some 5 from rfl, bd1_s, if_neg (show ¬ (5 : Int32) < 0 by decide), if_pos (show (4 : Int32) ≤ 5 by decide), if_neg (show ¬ (121 : Int32) = 102 by decide), if_neg (show ¬ (121 : Int32) = 103 by decide)]
      exact fin _ (hleaf 0 (by omega) (by rw [e]; rfl) (by rw [e]; rfl))
theorem wlC_ok {R : mR} {t : Nat} {l : List Int32} {F : Nat → Nat} {I : mI} {L : mL} (hR : R 256 3 = 262) (hT : TO R t 60) (hl60 : l.length ≤ 60) (hl : Tm l) (h1 : TmC I t l) (hF : ∀ i, i < 7 → F i ≤ 9) (hf : ∀ i, i < 7 → I 271 i = nI (F i)) :
    ∃ L', f_X4_weightLeftOver 256 t 271 I L R = some ((lN (vA F l 0).1).toInt32, L') ∧ ∀ a, a ≠ 262 → L' a = L a := by
  obtain ⟨L', e1, e2, e3⟩ := wlC_L hR hT hl60 hl h1 hF hf l.length FU L (by rw [FU_eq]; omega) (Nat.le_refl _) (fun j hj hj2 => by omega)
  refine ⟨L', ?_, e3⟩
  unfold f_X4_weightLeftOver
  rw [h1.1, nI_m1, e1, bd1_s, hR, lc262, if_pos (show inb 0 60 = true from rfl), i0, e2 0 hl.pos]
