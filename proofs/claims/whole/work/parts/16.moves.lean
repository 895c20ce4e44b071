/-! ===== rules dropped and moved: the class ===== -/
def dropS (rs : List Ru) (r : Nat) : List Ru := rs.take r ++ rs.drop (r + 1)
def firstS (rs : List Ru) (r : Nat) : List Ru := rs.getD r dRu :: dropS rs r
theorem dropS_len {rs : List Ru} {r : Nat} (h : r < rs.length) : (dropS rs r).length = rs.length - 1 := by
  unfold dropS
  rw [List.length_append, List.length_take, List.length_drop]
  omega
theorem firstS_len {rs : List Ru} {r : Nat} (h : r < rs.length) : (firstS rs r).length = rs.length := by
  unfold firstS
  rw [List.length_cons, dropS_len h]
  omega
theorem dropS_l {rs : List Ru} {r i : Nat} (h : r < rs.length) (hi : i < r) : (dropS rs r).getD i dRu = rs.getD i dRu := by
  unfold dropS
  rw [gD_app_l _ (by rw [List.length_take]; omega), List.getD_eq_getElem?_getD, List.getD_eq_getElem?_getD, List.getElem?_take, if_pos hi]
theorem dropS_r {rs : List Ru} {r i : Nat} (h : r < rs.length) (hi : r ≤ i) : (dropS rs r).getD i dRu = rs.getD (i + 1) dRu := by
  unfold dropS
  rw [List.getD_eq_getElem?_getD, List.getElem?_append_right (by rw [List.length_take]; omega), List.length_take, List.getElem?_drop, show r + 1 + (i - min r rs.length) = i + 1 by omega, ← List.getD_eq_getElem?_getD]
theorem getD_mem {rs : List Ru} {i : Nat} (h : i < rs.length) : rs.getD i dRu ∈ rs := by
  rw [List.getD_eq_getElem?_getD, List.getElem?_eq_getElem h]
  exact List.getElem_mem h
theorem RsOK.of_get {rs : List Ru} (h5 : rs.length ≤ 5) (h : ∀ i, i < rs.length → RuOK (rs.getD i dRu)) : RsOK rs := by
  refine ⟨h5, fun u hu => ?_⟩
  obtain ⟨i, hi, e⟩ := List.mem_iff_getElem.mp hu
  have := h i hi
  rw [List.getD_eq_getElem?_getD, List.getElem?_eq_getElem hi, Option.getD_some, e] at this
  exact this
theorem dropS_ok {rs : List Ru} {r : Nat} (h : RsOK rs) (hr : r < rs.length) : RsOK (dropS rs r) := by
  have := h.1
  refine RsOK.of_get (by rw [dropS_len hr]; omega) (fun i hi => ?_)
  rw [dropS_len hr] at hi
  by_cases hir : i < r
  · rw [dropS_l hr hir]; exact h.get (by omega)
  · rw [dropS_r hr (by omega)]; exact h.get (by omega)
theorem firstS_0 {rs : List Ru} {r : Nat} : (firstS rs r).getD 0 dRu = rs.getD r dRu := rfl
theorem firstS_l {rs : List Ru} {r i : Nat} (h : r < rs.length) (h0 : 0 < i) (hi : i ≤ r) : (firstS rs r).getD i dRu = rs.getD (i - 1) dRu := by
  obtain ⟨j, rfl⟩ : ∃ j, i = j + 1 := ⟨i - 1, by omega⟩
  unfold firstS
  rw [List.getD_cons_succ, dropS_l h (by omega)]
  rfl
theorem firstS_r {rs : List Ru} {r i : Nat} (h : r < rs.length) (hi : r < i) : (firstS rs r).getD i dRu = rs.getD i dRu := by
  obtain ⟨j, rfl⟩ : ∃ j, i = j + 1 := ⟨i - 1, by omega⟩
  unfold firstS
  rw [List.getD_cons_succ, dropS_r h (by omega)]
theorem firstS_ok {rs : List Ru} {r : Nat} (h : RsOK rs) (hr : r < rs.length) : RsOK (firstS rs r) := by
  have := h.1
  refine RsOK.of_get (by rw [firstS_len hr]; omega) (fun i hi => ?_)
  rw [firstS_len hr] at hi
  by_cases h0 : i = 0
  · rw [h0, firstS_0]; exact h.get hr
  · by_cases hir : i ≤ r
    · rw [firstS_l hr (by omega) hir]; exact h.get (by omega)
    · rw [firstS_r hr (by omega)]; exact h.get (by omega)
theorem remC_L {m r : Nat} {x2 : Nat} {I : mI} (hI : I 1 2 = nI m) (hm : m ≤ 5) (hr : r < m) :
    ∀ (q n k : Nat) (R : mR), m - 1 - k = q → q < n → r ≤ k → k < m → R 1 0 = 2 → ∃ R', f_X7_removeRule_L9 n 1 x2 (nI k) I R = some R' ∧ (∀ a, a ≠ 2 → R' a = R a) ∧ (∀ i, k ≤ i → i < m - 1 → R' 2 i = R 2 (i + 1)) ∧ ∀ i, (i < k ∨ m - 1 ≤ i) → R' 2 i = R 2 i := by
  intro q
  induction q with
  | zero =>
    intro n k R h1 h2 h3 h4 h5
    obtain ⟨n, rfl⟩ : ∃ q, n = q + 1 := ⟨n - 1, by omega⟩
    refine ⟨R, ?_, fun _ _ => rfl, fun i hi hi2 => by omega, fun _ _ => rfl⟩
    rw [f_X7_removeRule_L9, hI, nI_1 k, if_pos (nI_le (by omega) (by omega))]
  | succ q ih =>
    intro n k R h1 h2 h3 h4 h5
    obtain ⟨n, rfl⟩ : ∃ q, n = q + 1 := ⟨n - 1, by omega⟩
    rw [f_X7_removeRule_L9]
    simp only [bnd]
    rw [hI, nI_1 k, if_neg (nI_ge (by omega) (by omega)), h5, show lnC 2 = 5 from rfl, if_pos (inb_nI (by omega) (by omega)), if_pos (inb_nI (by omega) (by omega)), nI_clamp (show k < 2 ^ 31 by omega), nI_clamp (show k + 1 < 2 ^ 31 by omega)]
    obtain ⟨R', e1, e2, e3, e4⟩ := ih n (k + 1) (u2 R 2 k (R 2 (k + 1))) (by omega) (by omega) (by omega) (by omega) (by rw [u2_n _ _ _ (by decide)]; exact h5)
    refine ⟨R', e1, fun a ha => by rw [e2 a ha, u2_n _ _ _ ha], fun i hi hi2 => ?_, fun i hi => ?_⟩
    · by_cases hk : i = k
      · rw [hk, e4 k (by omega), u2_e]
      · rw [e3 i (by omega) hi2, u2_o _ _ _ (by omega)]
    · rw [e4 i (by omega), u2_o _ _ _ (by omega)]
theorem remC_ok {I : mI} {R : mR} {sn : Sn} {r : Nat} (hR : RO R) (h : SnC I R 1 sn) (hs : SnOK sn) (hr : r < sn.1.length) : ∃ R', f_X7_removeRule 1 (nI r) I R = some (u2 I 1 2 (nI (sn.1.length - 1)), R') ∧ RO R' ∧ (∀ a, a ≠ 2 → R' a = R a) ∧ SnC (u2 I 1 2 (nI (sn.1.length - 1))) R' 1 (dropS sn.1 r, sn.2) := by
  have h5 := hs.1.1
  have h10 : R 1 0 = 2 := hR.2.1.1
  obtain ⟨R1, e1, e2, e3, e4⟩ := remC_L (x2 := R 2 r) h.1.1 h5 hr (sn.1.length - 1 - r) FU r R rfl (by rw [FU_eq]; omega) (Nat.le_refl _) hr h10
  have o1 : ∀ a, a ≠ 2 → u2 R1 2 (sn.1.length - 1) (R 2 r) a = R a := fun a ha => by rw [u2_n _ _ _ ha, e2 a ha]
  have hval : ∀ i, i < 5 → u2 R1 2 (sn.1.length - 1) (R 2 r) 2 i = R 2 (if i < r then i else if i + 1 < sn.1.length then i + 1 else if i = sn.1.length - 1 then r else i) := by
    intro i hi
    by_cases c1 : i < r
    · rw [if_pos c1, u2_o _ _ _ (by omega), e4 i (by omega)]
    · rw [if_neg c1]
      by_cases c2 : i + 1 < sn.1.length
      · rw [if_pos c2, u2_o _ _ _ (by omega), e3 i (by omega) (by omega)]
      · rw [if_neg c2]
        by_cases c3 : i = sn.1.length - 1
        · rw [if_pos c3, c3, u2_e]
        · rw [if_neg c3, u2_o _ _ _ c3, e4 i (by omega)]
  have hRO : RO (u2 R1 2 (sn.1.length - 1) (R 2 r)) := hR.up2 o1 (fun i => if i < r then i else if i + 1 < sn.1.length then i + 1 else if i = sn.1.length - 1 then r else i) (fun i hi => by
      show (if i < r then i else if i + 1 < sn.1.length then i + 1 else if i = sn.1.length - 1 then r else i) < 5
      split
      · omega
      · split
        · omega
        · split <;> omega) (fun i j hi hj hn => by
      show (if i < r then i else if i + 1 < sn.1.length then i + 1 else if i = sn.1.length - 1 then r else i) ≠ (if j < r then j else if j + 1 < sn.1.length then j + 1 else if j = sn.1.length - 1 then r else j)
      (repeat' split) <;> omega) hval
  refine ⟨_, ?_, hRO, o1, ⟨⟨by rw [u2_e, dropS_len hr], fun i hi => ?_⟩, h.2.cong (by rw [u2_n _ _ _ (by decide)]) (by rw [u2_n _ _ _ (by decide)]) (by rw [u2_n _ _ _ (by decide)])⟩⟩
  · unfold f_X7_removeRule
    simp only [bnd]
    rw [h10, show lnC 2 = 5 from rfl, if_pos (inb_nI (by omega) (by omega)), nI_clamp (by omega), e1, bd1_s, h.1.1, show (1 : Int32) = nI 1 from rfl, nI_sub (by omega), e2 1 (by decide), h10, show lnC 2 = 5 from rfl, if_pos (inb_nI (by omega) (by omega)), nI_clamp (by omega)]
  · rw [dropS_len hr] at hi
    rw [show 1 + 1 = 2 from rfl, hval i (by omega)]
    have go : ∀ j, j < sn.1.length → RuC (u2 I 1 2 (nI (sn.1.length - 1))) (R 2 j) (sn.1.getD j dRu) := fun j hj => by
      have := (hR.2.1.2.2.2.2.2.1 j (by omega)).2.1
      exact (h.1.2 j hj).cong (fun a x y => by rw [u2_n _ _ _ (by omega)])
    by_cases c1 : i < r
    · rw [if_pos c1, dropS_l hr c1]; exact go i (by omega)
    · rw [if_neg c1, if_pos (by omega), dropS_r hr (by omega)]; exact go (i + 1) (by omega)
theorem frC_L {x2 : Nat} : ∀ (k n : Nat) (R : mR), k < n → k < 5 → R 1 0 = 2 → ∃ R', f_X7_moveToFront_L9 n 1 x2 (nI k) R = some R' ∧ (∀ a, a ≠ 2 → R' a = R a) ∧ (∀ i, 0 < i → i ≤ k → R' 2 i = R 2 (i - 1)) ∧ ∀ i, (i = 0 ∨ k < i) → R' 2 i = R 2 i := by
  intro k
  induction k with
  | zero =>
    intro n R h1 h2 h3
    obtain ⟨n, rfl⟩ : ∃ q, n = q + 1 := ⟨n - 1, by omega⟩
    refine ⟨R, ?_, fun _ _ => rfl, fun i hi hi2 => by omega, fun _ _ => rfl⟩
    rw [f_X7_moveToFront_L9, if_pos (by decide)]
  | succ k ih =>
    intro n R h1 h2 h3
    obtain ⟨n, rfl⟩ : ∃ q, n = q + 1 := ⟨n - 1, by omega⟩
    rw [f_X7_moveToFront_L9]
    simp only [bnd]
    rw [if_neg (nI_nle (by omega) (by omega)), nI_m1, pk_m1, h3, show lnC 2 = 5 from rfl, if_pos (inb_nI (by omega) (by omega)), if_pos (inb_nI (by omega) (by omega)), nI_clamp (show k < 2 ^ 31 by omega), nI_clamp (show k + 1 < 2 ^ 31 by omega)]
    obtain ⟨R', e1, e2, e3, e4⟩ := ih n (u2 R 2 (k + 1) (R 2 k)) (by omega) (by omega) (by rw [u2_n _ _ _ (by decide)]; exact h3)
    refine ⟨R', e1, fun a ha => by rw [e2 a ha, u2_n _ _ _ ha], fun i hi hi2 => ?_, fun i hi => ?_⟩
    · by_cases hk : i = k + 1
      · rw [hk, e4 (k + 1) (by omega), u2_e]
        rfl
      · rw [e3 i (by omega) (by omega), u2_o _ _ _ (by omega)]
    · rw [e4 i (by omega), u2_o _ _ _ (by omega)]
theorem frC_ok {I : mI} {R : mR} {sn : Sn} {r : Nat} (hR : RO R) (h : SnC I R 1 sn) (hs : SnOK sn) (hr : r < sn.1.length) : ∃ R', f_X7_moveToFront 1 (nI r) R = some R' ∧ RO R' ∧ (∀ a, a ≠ 2 → R' a = R a) ∧ SnC I R' 1 (firstS sn.1 r, sn.2) := by
  have h5 := hs.1.1
  have h10 : R 1 0 = 2 := hR.2.1.1
  obtain ⟨R1, e1, e2, e3, e4⟩ := frC_L (x2 := R 2 r) r FU R (by rw [FU_eq]; omega) (by omega) h10
  have o1 : ∀ a, a ≠ 2 → u2 R1 2 0 (R 2 r) a = R a := fun a ha => by rw [u2_n _ _ _ ha, e2 a ha]
  have hval : ∀ i, i < 5 → u2 R1 2 0 (R 2 r) 2 i = R 2 (if i = 0 then r else if i ≤ r then i - 1 else i) := by
    intro i hi
    by_cases c1 : i = 0
    · rw [if_pos c1, c1, u2_e]
    · rw [if_neg c1, u2_o _ _ _ c1]
      by_cases c2 : i ≤ r
      · rw [if_pos c2, e3 i (by omega) c2]
      · rw [if_neg c2, e4 i (by omega)]
  have hRO : RO (u2 R1 2 0 (R 2 r)) := hR.up2 o1 (fun i => if i = 0 then r else if i ≤ r then i - 1 else i) (fun i hi => by
      show (if i = 0 then r else if i ≤ r then i - 1 else i) < 5
      split
      · omega
      · split <;> omega) (fun i j hi hj hn => by
      show (if i = 0 then r else if i ≤ r then i - 1 else i) ≠ (if j = 0 then r else if j ≤ r then j - 1 else j)
      (repeat' split) <;> omega) hval
  refine ⟨_, ?_, hRO, o1, ⟨⟨by rw [firstS_len hr]; exact h.1.1, fun i hi => ?_⟩, h.2⟩⟩
  · unfold f_X7_moveToFront
    simp only [bnd]
    rw [h10, show lnC 2 = 5 from rfl, if_pos (inb_nI (by omega) (by omega)), nI_clamp (by omega), e1, bd1_s, e2 1 (by decide), h10, show lnC 2 = 5 from rfl, if_pos (show inb 0 5 = true from rfl), i0]
  · rw [firstS_len hr] at hi
    rw [show 1 + 1 = 2 from rfl, hval i (by omega)]
    by_cases c1 : i = 0
    · rw [if_pos c1, c1, firstS_0]; exact h.1.2 r hr
    · rw [if_neg c1]
      by_cases c2 : i ≤ r
      · rw [if_pos c2, firstS_l hr (by omega) c2]; exact h.1.2 (i - 1) (by omega)
      · rw [if_neg c2, firstS_r hr (by omega)]; exact h.1.2 i (by omega)
