/-! ===== the first memory, and the claim ===== -/
theorem init_RO : RO R1C := by
  refine ⟨by decide +kernel, ?_, ?_, ?_, ?_⟩
  · unfold SO QO TO
    decide +kernel
  · unfold SO QO TO
    decide +kernel
  · intro i hi
    have : ∀ i, i < 5 → R1C 42 i = 43 + 40 * i := by decide +kernel
    exact ⟨i, hi, this i hi⟩
  · decide +kernel
theorem init_now : SnC I1C R1C 1 ([], [97]) := by
  refine ⟨⟨by decide +kernel, fun r hr => by cases hr⟩, by decide +kernel, ?_, ?_⟩
  · intro k hk
    have hk' : k < 1 := hk
    rw [show k = 0 by omega]
    decide +kernel
  · intro k hk
    have hk' : k < 1 := hk
    rw [show k = 0 by omega]
    decide +kernel
theorem init_inv : Inv I1C L0 R1C I1M L0 R1M := by
  refine ⟨rfl, ([], [97]), [], [], 0, 0, 0, ⟨⟨⟨by decide, fun u hu => by cases hu⟩, ⟨by decide, fun c hc => ?_⟩, by decide⟩, ⟨by decide, fun i hi => by cases hi⟩, by decide⟩, ⟨init_RO, init_now, ⟨by decide +kernel, fun i hi => by cases hi⟩, ⟨by decide +kernel, fun i hi => by cases hi⟩, ⟨by decide +kernel, by decide +kernel, by decide +kernel⟩, fgC (by decide +kernel) (by decide +kernel) (by decide +kernel)⟩, ⟨⟨⟨by decide +kernel, fun r hr => by cases hr⟩, by decide +kernel, fun k hk => ?_⟩, ⟨by decide +kernel, fun i hi => by cases hi⟩, ⟨by decide +kernel, fun i hi => by cases hi⟩, by decide +kernel, by decide +kernel, by decide +kernel⟩⟩
  · rw [List.mem_singleton] at hc
    rw [hc]
    exact Or.inl rfl
  · have hk' : k < 1 := hk
    rw [show k = 0 by omega]
    decide +kernel
