/-! ===== the first memory, and the claim ===== -/
theorem init_SO1 : (R1C 1 0 = 2 ∧ R1C 1 1 = 3 ∧ lnC 2 = 5 ∧ TO R1C 3 60) ∧ (∀ r, r < 5 → QO R1C (R1C 2 r) ∧ 6 ≤ R1C 2 r ∧ R1C 2 r + 6 ≤ 40) ∧ ∀ r, r < 5 → ∀ r', r' < 5 → r ≠ r' → R1C 2 r + 7 ≤ R1C 2 r' ∨ R1C 2 r' + 7 ≤ R1C 2 r := by
  unfold QO TO
  decide +kernel
theorem init_SOa : ∀ j, j < 5 → (R1C (43 + 40 * j) 0 = 44 + 40 * j ∧ R1C (43 + 40 * j) 1 = 45 + 40 * j ∧ lnC (43 + 40 * j + 1) = 5 ∧ TO R1C (43 + 40 * j + 2) 60) := by
  unfold TO
  decide +kernel
theorem init_SOb : ∀ j, j < 5 → ∀ r, r < 5 → QO R1C (R1C (43 + 40 * j + 1) r) := by
  unfold QO TO
  decide +kernel
theorem init_SOc : ∀ j, j < 5 → ∀ r, r < 5 → 43 + 40 * j + 5 ≤ R1C (43 + 40 * j + 1) r ∧ R1C (43 + 40 * j + 1) r + 6 ≤ 43 + 40 * j + 39 := by
  decide +kernel
theorem init_SOd : ∀ j, j < 5 → ∀ r, r < 5 → ∀ r', r' < 5 → r ≠ r' → R1C (43 + 40 * j + 1) r + 7 ≤ R1C (43 + 40 * j + 1) r' ∨ R1C (43 + 40 * j + 1) r' + 7 ≤ R1C (43 + 40 * j + 1) r := by
  decide +kernel
theorem init_K : ∀ i, i < 5 → R1C 42 i = 43 + 40 * i := by decide +kernel
theorem init_RO : RO R1C := by
  refine ⟨by decide +kernel, ?_, ?_, ?_, ?_⟩
  · obtain ⟨⟨h1, h2, h3, h4⟩, h5, h6⟩ := init_SO1
    exact ⟨h1, h2, h3, h4, by decide, h5, fun r r' x y => h6 r x r' y⟩
  · intro j hj
    obtain ⟨h1, h2, h3, h4⟩ := init_SOa j hj
    exact ⟨by rw [h1]; omega, by rw [h2]; omega, h3, h4, by omega, fun r hr => ⟨init_SOb j hj r hr, init_SOc j hj r hr⟩, fun r r' x y => init_SOd j hj r x r' y⟩
  · intro i hi
    exact ⟨i, hi, init_K i hi⟩
  · intro i i' h1 h2 h3
    rw [init_K i h1, init_K i' h2]
    omega
theorem init_now : SnC I1C R1C 1 ([], [97]) := by
  refine ⟨⟨by decide +kernel, fun r hr => by cases hr⟩, by decide +kernel, ?_, ?_⟩
  · intro k hk
    have hk' : k < 1 := hk
    rw [show k = 0 by omega]
    decide +kernel
  · intro k hk
    have hk' : k < 1 := hk
    rw [show k = 0 by omega]
    decide +kernel
theorem init_inv : Inv I1C L0 R1C I1M L0 R1M := by
  refine ⟨rfl, ([], [97]), [], [], 0, 0, 0, ⟨⟨⟨by decide, fun u hu => by cases hu⟩, ⟨by decide, fun c hc => ?_⟩, by decide⟩, ⟨by decide, fun i hi => by cases hi⟩, by decide⟩, ⟨init_RO, init_now, ⟨by decide +kernel, fun i hi => by cases hi⟩, ⟨by decide +kernel, fun i hi => by cases hi⟩, ⟨by decide +kernel, by decide +kernel, by decide +kernel⟩, fgC (by decide +kernel) (by decide +kernel) (by decide +kernel)⟩, ⟨⟨⟨by decide +kernel, fun r hr => by cases hr⟩, by decide +kernel, fun k hk => ?_⟩, ⟨by decide +kernel, fun i hi => by cases hi⟩, ⟨by decide +kernel, fun i hi => by cases hi⟩, by decide +kernel, by decide +kernel, by decide +kernel⟩⟩
  · rw [List.mem_singleton] at hc
    rw [hc]
    exact Or.inl rfl
  · have hk' : k < 1 := hk
    rw [show k = 0 by omega]
    decide +kernel
