/-! ===== links: fields, calls, constants, by their places in the tables ===== -/
theorem fk0_0 : FI 0 0 1 RX0 TX0 11 := ⟨inGX0, rfl, rfl, Nat.le_of_ble_eq_true rfl⟩
theorem fk0_1 : FI 0 1 1 RX0 TX0 11 := ⟨inGX0, rfl, rfl, Nat.le_of_ble_eq_true rfl⟩
theorem fk0_2 : FI 0 2 1 RX0 TX0 11 := ⟨inGX0, rfl, rfl, Nat.le_of_ble_eq_true rfl⟩
theorem fk0_3 : FI 0 3 2 RX0 TX0 11 := ⟨inGX0, rfl, rfl, Nat.le_of_ble_eq_true rfl⟩
theorem fk0_4 : FI 0 4 2 RX0 TX0 11 := ⟨inGX0, rfl, rfl, Nat.le_of_ble_eq_true rfl⟩
theorem fk0_5 : FI 0 5 2 RX0 TX0 11 := ⟨inGX0, rfl, rfl, Nat.le_of_ble_eq_true rfl⟩
theorem fk0_6 : FI 0 6 1 RX0 TX0 11 := ⟨inGX0, rfl, rfl, Nat.le_of_ble_eq_true rfl⟩
theorem fk0_7 : FI 0 7 100 RX0 TX0 11 := ⟨inGX0, rfl, rfl, Nat.le_of_ble_eq_true rfl⟩
theorem fk0_8 : FI 0 8 100 RX0 TX0 11 := ⟨inGX0, rfl, rfl, Nat.le_of_ble_eq_true rfl⟩
theorem fk0_9 : FI 0 9 100 RX0 TX0 11 := ⟨inGX0, rfl, rfl, Nat.le_of_ble_eq_true rfl⟩
theorem fk0_10 : FI 0 10 101 RX0 TX0 11 := ⟨inGX0, rfl, rfl, Nat.le_of_ble_eq_true rfl⟩
theorem fk1_0 : FI 1 0 5 RX1 TX1 2 := ⟨inGX1, rfl, rfl, Nat.le_of_ble_eq_true rfl⟩
theorem fk1_1 : FI 1 1 100 RX1 TX1 2 := ⟨inGX1, rfl, rfl, Nat.le_of_ble_eq_true rfl⟩
theorem fk2_0 : FI 2 0 1 RX2 TX2 5 := ⟨inGX2, rfl, rfl, Nat.le_of_ble_eq_true rfl⟩
theorem fk2_1 : FI 2 1 1 RX2 TX2 5 := ⟨inGX2, rfl, rfl, Nat.le_of_ble_eq_true rfl⟩
theorem fk2_2 : FI 2 2 100 RX2 TX2 5 := ⟨inGX2, rfl, rfl, Nat.le_of_ble_eq_true rfl⟩
theorem fk2_3 : FI 2 3 100 RX2 TX2 5 := ⟨inGX2, rfl, rfl, Nat.le_of_ble_eq_true rfl⟩
theorem fk2_4 : FI 2 4 100 RX2 TX2 5 := ⟨inGX2, rfl, rfl, Nat.le_of_ble_eq_true rfl⟩
theorem fk3_0 : FI 3 0 14 RX3 TX3 2 := ⟨inGX3, rfl, rfl, Nat.le_of_ble_eq_true rfl⟩
theorem fk3_1 : FI 3 1 14 RX3 TX3 2 := ⟨inGX3, rfl, rfl, Nat.le_of_ble_eq_true rfl⟩
theorem fk4_0 : FI 4 0 12 RX4 TX4 5 := ⟨inGX4, rfl, rfl, Nat.le_of_ble_eq_true rfl⟩
theorem fk4_1 : FI 4 1 12 RX4 TX4 5 := ⟨inGX4, rfl, rfl, Nat.le_of_ble_eq_true rfl⟩
theorem fk4_2 : FI 4 2 1 RX4 TX4 5 := ⟨inGX4, rfl, rfl, Nat.le_of_ble_eq_true rfl⟩
theorem fk4_3 : FI 4 3 2 RX4 TX4 5 := ⟨inGX4, rfl, rfl, Nat.le_of_ble_eq_true rfl⟩
theorem fk4_4 : FI 4 4 100 RX4 TX4 5 := ⟨inGX4, rfl, rfl, Nat.le_of_ble_eq_true rfl⟩
theorem fk5_0 : FI 5 0 1 RX5 TX5 2 := ⟨inGX5, rfl, rfl, Nat.le_of_ble_eq_true rfl⟩
theorem fk5_1 : FI 5 1 100 RX5 TX5 2 := ⟨inGX5, rfl, rfl, Nat.le_of_ble_eq_true rfl⟩
theorem fk6_0 : FI 6 0 1 RX6 TX6 1 := ⟨inGX6, rfl, rfl, Nat.le_of_ble_eq_true rfl⟩
theorem fk7_0 : FI 7 0 4 RX7 TX7 3 := ⟨inGX7, rfl, rfl, Nat.le_of_ble_eq_true rfl⟩
theorem fk7_1 : FI 7 1 14 RX7 TX7 3 := ⟨inGX7, rfl, rfl, Nat.le_of_ble_eq_true rfl⟩
theorem fk7_2 : FI 7 2 100 RX7 TX7 3 := ⟨inGX7, rfl, rfl, Nat.le_of_ble_eq_true rfl⟩
theorem fk8_0 : FI 8 0 1 RX8 TX8 3 := ⟨inGX8, rfl, rfl, Nat.le_of_ble_eq_true rfl⟩
theorem fk8_1 : FI 8 1 1 RX8 TX8 3 := ⟨inGX8, rfl, rfl, Nat.le_of_ble_eq_true rfl⟩
theorem fk8_2 : FI 8 2 100 RX8 TX8 3 := ⟨inGX8, rfl, rfl, Nat.le_of_ble_eq_true rfl⟩
theorem fk9_0 : FI 9 0 14 RX9 TX9 4 := ⟨inGX9, rfl, rfl, Nat.le_of_ble_eq_true rfl⟩
theorem fk9_1 : FI 9 1 1 RX9 TX9 4 := ⟨inGX9, rfl, rfl, Nat.le_of_ble_eq_true rfl⟩
theorem fk9_2 : FI 9 2 100 RX9 TX9 4 := ⟨inGX9, rfl, rfl, Nat.le_of_ble_eq_true rfl⟩
theorem fk9_3 : FI 9 3 100 RX9 TX9 4 := ⟨inGX9, rfl, rfl, Nat.le_of_ble_eq_true rfl⟩
theorem fk10_0 : FI 10 0 13 RX10 TX10 15 := ⟨inGX10, rfl, rfl, Nat.le_of_ble_eq_true rfl⟩
theorem fk10_1 : FI 10 1 7 RX10 TX10 15 := ⟨inGX10, rfl, rfl, Nat.le_of_ble_eq_true rfl⟩
theorem fk10_2 : FI 10 2 8 RX10 TX10 15 := ⟨inGX10, rfl, rfl, Nat.le_of_ble_eq_true rfl⟩
theorem fk10_3 : FI 10 3 11 RX10 TX10 15 := ⟨inGX10, rfl, rfl, Nat.le_of_ble_eq_true rfl⟩
theorem fk10_4 : FI 10 4 6 RX10 TX10 15 := ⟨inGX10, rfl, rfl, Nat.le_of_ble_eq_true rfl⟩
theorem fk10_5 : FI 10 5 10 RX10 TX10 15 := ⟨inGX10, rfl, rfl, Nat.le_of_ble_eq_true rfl⟩
theorem fk10_6 : FI 10 6 15 RX10 TX10 15 := ⟨inGX10, rfl, rfl, Nat.le_of_ble_eq_true rfl⟩
theorem fk10_7 : FI 10 7 14 RX10 TX10 15 := ⟨inGX10, rfl, rfl, Nat.le_of_ble_eq_true rfl⟩
theorem fk10_8 : FI 10 8 1 RX10 TX10 15 := ⟨inGX10, rfl, rfl, Nat.le_of_ble_eq_true rfl⟩
theorem fk10_9 : FI 10 9 101 RX10 TX10 15 := ⟨inGX10, rfl, rfl, Nat.le_of_ble_eq_true rfl⟩
theorem fk10_10 : FI 10 10 101 RX10 TX10 15 := ⟨inGX10, rfl, rfl, Nat.le_of_ble_eq_true rfl⟩
theorem fk10_11 : FI 10 11 100 RX10 TX10 15 := ⟨inGX10, rfl, rfl, Nat.le_of_ble_eq_true rfl⟩
theorem fk10_12 : FI 10 12 100 RX10 TX10 15 := ⟨inGX10, rfl, rfl, Nat.le_of_ble_eq_true rfl⟩
theorem fk10_13 : FI 10 13 100 RX10 TX10 15 := ⟨inGX10, rfl, rfl, Nat.le_of_ble_eq_true rfl⟩
theorem fk10_14 : FI 10 14 100 RX10 TX10 15 := ⟨inGX10, rfl, rfl, Nat.le_of_ble_eq_true rfl⟩
theorem fk11_0 : FI 11 0 1 RX11 TX11 32 := ⟨inGX11, rfl, rfl, Nat.le_of_ble_eq_true rfl⟩
theorem fk11_1 : FI 11 1 1 RX11 TX11 32 := ⟨inGX11, rfl, rfl, Nat.le_of_ble_eq_true rfl⟩
theorem fk11_2 : FI 11 2 1 RX11 TX11 32 := ⟨inGX11, rfl, rfl, Nat.le_of_ble_eq_true rfl⟩
theorem fk11_3 : FI 11 3 100 RX11 TX11 32 := ⟨inGX11, rfl, rfl, Nat.le_of_ble_eq_true rfl⟩
theorem fk11_4 : FI 11 4 1 RX11 TX11 32 := ⟨inGX11, rfl, rfl, Nat.le_of_ble_eq_true rfl⟩
theorem fk11_5 : FI 11 5 1 RX11 TX11 32 := ⟨inGX11, rfl, rfl, Nat.le_of_ble_eq_true rfl⟩
theorem fk11_6 : FI 11 6 100 RX11 TX11 32 := ⟨inGX11, rfl, rfl, Nat.le_of_ble_eq_true rfl⟩
theorem fk11_7 : FI 11 7 100 RX11 TX11 32 := ⟨inGX11, rfl, rfl, Nat.le_of_ble_eq_true rfl⟩
theorem fk11_8 : FI 11 8 1 RX11 TX11 32 := ⟨inGX11, rfl, rfl, Nat.le_of_ble_eq_true rfl⟩
theorem fk11_9 : FI 11 9 100 RX11 TX11 32 := ⟨inGX11, rfl, rfl, Nat.le_of_ble_eq_true rfl⟩
theorem fk11_10 : FI 11 10 1 RX11 TX11 32 := ⟨inGX11, rfl, rfl, Nat.le_of_ble_eq_true rfl⟩
theorem fk11_11 : FI 11 11 100 RX11 TX11 32 := ⟨inGX11, rfl, rfl, Nat.le_of_ble_eq_true rfl⟩
theorem fk11_12 : FI 11 12 1 RX11 TX11 32 := ⟨inGX11, rfl, rfl, Nat.le_of_ble_eq_true rfl⟩
theorem fk11_13 : FI 11 13 2 RX11 TX11 32 := ⟨inGX11, rfl, rfl, Nat.le_of_ble_eq_true rfl⟩
theorem fk11_14 : FI 11 14 2 RX11 TX11 32 := ⟨inGX11, rfl, rfl, Nat.le_of_ble_eq_true rfl⟩
theorem fk11_15 : FI 11 15 2 RX11 TX11 32 := ⟨inGX11, rfl, rfl, Nat.le_of_ble_eq_true rfl⟩
theorem fk11_16 : FI 11 16 1 RX11 TX11 32 := ⟨inGX11, rfl, rfl, Nat.le_of_ble_eq_true rfl⟩
theorem fk11_17 : FI 11 17 1 RX11 TX11 32 := ⟨inGX11, rfl, rfl, Nat.le_of_ble_eq_true rfl⟩
theorem fk11_18 : FI 11 18 100 RX11 TX11 32 := ⟨inGX11, rfl, rfl, Nat.le_of_ble_eq_true rfl⟩
theorem fk11_19 : FI 11 19 3 RX11 TX11 32 := ⟨inGX11, rfl, rfl, Nat.le_of_ble_eq_true rfl⟩
theorem fk11_20 : FI 11 20 3 RX11 TX11 32 := ⟨inGX11, rfl, rfl, Nat.le_of_ble_eq_true rfl⟩
theorem fk11_21 : FI 11 21 1 RX11 TX11 32 := ⟨inGX11, rfl, rfl, Nat.le_of_ble_eq_true rfl⟩
theorem fk11_22 : FI 11 22 100 RX11 TX11 32 := ⟨inGX11, rfl, rfl, Nat.le_of_ble_eq_true rfl⟩
theorem fk11_23 : FI 11 23 1 RX11 TX11 32 := ⟨inGX11, rfl, rfl, Nat.le_of_ble_eq_true rfl⟩
theorem fk11_24 : FI 11 24 100 RX11 TX11 32 := ⟨inGX11, rfl, rfl, Nat.le_of_ble_eq_true rfl⟩
theorem fk11_25 : FI 11 25 1 RX11 TX11 32 := ⟨inGX11, rfl, rfl, Nat.le_of_ble_eq_true rfl⟩
theorem fk11_26 : FI 11 26 1 RX11 TX11 32 := ⟨inGX11, rfl, rfl, Nat.le_of_ble_eq_true rfl⟩
theorem fk11_27 : FI 11 27 1 RX11 TX11 32 := ⟨inGX11, rfl, rfl, Nat.le_of_ble_eq_true rfl⟩
theorem fk11_28 : FI 11 28 100 RX11 TX11 32 := ⟨inGX11, rfl, rfl, Nat.le_of_ble_eq_true rfl⟩
theorem fk11_29 : FI 11 29 100 RX11 TX11 32 := ⟨inGX11, rfl, rfl, Nat.le_of_ble_eq_true rfl⟩
theorem fk11_30 : FI 11 30 100 RX11 TX11 32 := ⟨inGX11, rfl, rfl, Nat.le_of_ble_eq_true rfl⟩
theorem fk11_31 : FI 11 31 102 RX11 TX11 32 := ⟨inGX11, rfl, rfl, Nat.le_of_ble_eq_true rfl⟩
theorem fw0_7 : FWr 7 TX0 11 tyX0 .int := ⟨tyX0_ok, nmX0, rfl, tyX0_ok 7 (by decide)⟩
theorem fw0_8 : FWr 8 TX0 11 tyX0 .int := ⟨tyX0_ok, nmX0, rfl, tyX0_ok 8 (by decide)⟩
theorem fw0_9 : FWr 9 TX0 11 tyX0 .int := ⟨tyX0_ok, nmX0, rfl, tyX0_ok 9 (by decide)⟩
theorem fw0_10 : FWr 10 TX0 11 tyX0 .boolean := ⟨tyX0_ok, nmX0, rfl, tyX0_ok 10 (by decide)⟩
theorem fw1_1 : FWr 1 TX1 2 tyX1 .int := ⟨tyX1_ok, nmX1, rfl, tyX1_ok 1 (by decide)⟩
theorem fw2_2 : FWr 2 TX2 5 tyX2 .int := ⟨tyX2_ok, nmX2, rfl, tyX2_ok 2 (by decide)⟩
theorem fw2_3 : FWr 3 TX2 5 tyX2 .int := ⟨tyX2_ok, nmX2, rfl, tyX2_ok 3 (by decide)⟩
theorem fw2_4 : FWr 4 TX2 5 tyX2 .int := ⟨tyX2_ok, nmX2, rfl, tyX2_ok 4 (by decide)⟩
theorem fw4_4 : FWr 4 TX4 5 tyX4 .int := ⟨tyX4_ok, nmX4, rfl, tyX4_ok 4 (by decide)⟩
theorem fw5_1 : FWr 1 TX5 2 tyX5 .int := ⟨tyX5_ok, nmX5, rfl, tyX5_ok 1 (by decide)⟩
theorem fw7_2 : FWr 2 TX7 3 tyX7 .int := ⟨tyX7_ok, nmX7, rfl, tyX7_ok 2 (by decide)⟩
theorem fw8_2 : FWr 2 TX8 3 tyX8 .int := ⟨tyX8_ok, nmX8, rfl, tyX8_ok 2 (by decide)⟩
theorem fw9_2 : FWr 2 TX9 4 tyX9 .int := ⟨tyX9_ok, nmX9, rfl, tyX9_ok 2 (by decide)⟩
theorem fw9_3 : FWr 3 TX9 4 tyX9 .int := ⟨tyX9_ok, nmX9, rfl, tyX9_ok 3 (by decide)⟩
theorem fw10_9 : FWr 9 TX10 15 tyX10 .boolean := ⟨tyX10_ok, nmX10, rfl, tyX10_ok 9 (by decide)⟩
theorem fw10_10 : FWr 10 TX10 15 tyX10 .boolean := ⟨tyX10_ok, nmX10, rfl, tyX10_ok 10 (by decide)⟩
theorem fw10_11 : FWr 11 TX10 15 tyX10 .int := ⟨tyX10_ok, nmX10, rfl, tyX10_ok 11 (by decide)⟩
theorem fw10_12 : FWr 12 TX10 15 tyX10 .int := ⟨tyX10_ok, nmX10, rfl, tyX10_ok 12 (by decide)⟩
theorem fw10_13 : FWr 13 TX10 15 tyX10 .int := ⟨tyX10_ok, nmX10, rfl, tyX10_ok 13 (by decide)⟩
theorem fw10_14 : FWr 14 TX10 15 tyX10 .int := ⟨tyX10_ok, nmX10, rfl, tyX10_ok 14 (by decide)⟩
theorem fw11_3 : FWr 3 TX11 32 tyX11 .int := ⟨tyX11_ok, nmX11, rfl, tyX11_ok 3 (by decide)⟩
theorem fw11_6 : FWr 6 TX11 32 tyX11 .int := ⟨tyX11_ok, nmX11, rfl, tyX11_ok 6 (by decide)⟩
theorem fw11_7 : FWr 7 TX11 32 tyX11 .int := ⟨tyX11_ok, nmX11, rfl, tyX11_ok 7 (by decide)⟩
theorem fw11_9 : FWr 9 TX11 32 tyX11 .int := ⟨tyX11_ok, nmX11, rfl, tyX11_ok 9 (by decide)⟩
theorem fw11_11 : FWr 11 TX11 32 tyX11 .int := ⟨tyX11_ok, nmX11, rfl, tyX11_ok 11 (by decide)⟩
theorem fw11_18 : FWr 18 TX11 32 tyX11 .int := ⟨tyX11_ok, nmX11, rfl, tyX11_ok 18 (by decide)⟩
theorem fw11_22 : FWr 22 TX11 32 tyX11 .int := ⟨tyX11_ok, nmX11, rfl, tyX11_ok 22 (by decide)⟩
theorem fw11_24 : FWr 24 TX11 32 tyX11 .int := ⟨tyX11_ok, nmX11, rfl, tyX11_ok 24 (by decide)⟩
theorem fw11_28 : FWr 28 TX11 32 tyX11 .int := ⟨tyX11_ok, nmX11, rfl, tyX11_ok 28 (by decide)⟩
theorem fw11_29 : FWr 29 TX11 32 tyX11 .int := ⟨tyX11_ok, nmX11, rfl, tyX11_ok 29 (by decide)⟩
theorem fw11_30 : FWr 30 TX11 32 tyX11 .int := ⟨tyX11_ok, nmX11, rfl, tyX11_ok 30 (by decide)⟩
theorem fw11_31 : FWr 31 TX11 32 tyX11 .long := ⟨tyX11_ok, nmX11, rfl, tyX11_ok 31 (by decide)⟩
theorem lkX0_9 : Cond.fieldLink RX0 9 (TX0 0).1 (TX0 0).2.1 (TX0 0).2.2.1 ∈ GW := inGW (List.mem_of_getElem? (i := 259) (by decide +kernel)) (by decide +kernel)
theorem lkX0_15 : Cond.fieldLink RX0 15 (TX0 1).1 (TX0 1).2.1 (TX0 1).2.2.1 ∈ GW := inGW (List.mem_of_getElem? (i := 262) (by decide +kernel)) (by decide +kernel)
theorem lkX0_18 : Cond.fieldLink RX0 18 (TX0 2).1 (TX0 2).2.1 (TX0 2).2.2.1 ∈ GW := inGW (List.mem_of_getElem? (i := 264) (by decide +kernel)) (by decide +kernel)
theorem lkX0_21 : Cond.fieldLink RX0 21 (TX0 3).1 (TX0 3).2.1 (TX0 3).2.2.1 ∈ GW := inGW (List.mem_of_getElem? (i := 267) (by decide +kernel)) (by decide +kernel)
theorem lkX0_25 : Cond.fieldLink RX0 25 (TX0 4).1 (TX0 4).2.1 (TX0 4).2.2.1 ∈ GW := inGW (List.mem_of_getElem? (i := 269) (by decide +kernel)) (by decide +kernel)
theorem lkX0_28 : Cond.fieldLink RX0 28 (TX0 5).1 (TX0 5).2.1 (TX0 5).2.2.1 ∈ GW := inGW (List.mem_of_getElem? (i := 270) (by decide +kernel)) (by decide +kernel)
theorem lkX0_34 : Cond.fieldLink RX0 34 (TX0 8).1 (TX0 8).2.1 (TX0 8).2.2.1 ∈ GW := inGW (List.mem_of_getElem? (i := 275) (by decide +kernel)) (by decide +kernel)
theorem lkX0_38 : Cond.fieldLink RX0 38 (TX7 0).1 (TX7 0).2.1 (TX7 0).2.2.1 ∈ GW := inGW (List.mem_of_getElem? (i := 178) (by decide +kernel)) (by decide +kernel)
theorem lkX0_44 : Cond.fieldLink RX0 44 (TX3 1).1 (TX3 1).2.1 (TX3 1).2.2.1 ∈ GW := inGW (List.mem_of_getElem? (i := 167) (by decide +kernel)) (by decide +kernel)
theorem lkX0_73 : Cond.fieldLink RX0 73 (TX0 7).1 (TX0 7).2.1 (TX0 7).2.2.1 ∈ GW := inGW (List.mem_of_getElem? (i := 274) (by decide +kernel)) (by decide +kernel)
theorem lkX0_76 : Cond.fieldLink RX0 76 (TX7 2).1 (TX7 2).2.1 (TX7 2).2.2.1 ∈ GW := inGW (List.mem_of_getElem? (i := 188) (by decide +kernel)) (by decide +kernel)
theorem lkX0_77 : Cond.fieldLink RX0 77 (TX3 0).1 (TX3 0).2.1 (TX3 0).2.2.1 ∈ GW := inGW (List.mem_of_getElem? (i := 162) (by decide +kernel)) (by decide +kernel)
theorem lkX0_80 : Cond.fieldLink RX0 80 (TX8 0).1 (TX8 0).2.1 (TX8 0).2.2.1 ∈ GW := inGW (List.mem_of_getElem? (i := 125) (by decide +kernel)) (by decide +kernel)
theorem lkX0_83 : Cond.fieldLink RX0 83 (TX8 2).1 (TX8 2).2.1 (TX8 2).2.2.1 ∈ GW := inGW (List.mem_of_getElem? (i := 141) (by decide +kernel)) (by decide +kernel)
theorem lkX0_94 : Cond.fieldLink RX0 94 (TX8 1).1 (TX8 1).2.1 (TX8 1).2.2.1 ∈ GW := inGW (List.mem_of_getElem? (i := 133) (by decide +kernel)) (by decide +kernel)
theorem lkX0_104 : Cond.fieldLink RX0 104 (TX0 9).1 (TX0 9).2.1 (TX0 9).2.2.1 ∈ GW := inGW (List.mem_of_getElem? (i := 278) (by decide +kernel)) (by decide +kernel)
theorem lkX1_11 : Cond.fieldLink RX1 11 (TX1 0).1 (TX1 0).2.1 (TX1 0).2.2.1 ∈ GW := inGW (List.mem_of_getElem? (i := 206) (by decide +kernel)) (by decide +kernel)
theorem lkX1_18 : Cond.fieldLink RX1 18 (TX1 1).1 (TX1 1).2.1 (TX1 1).2.2.1 ∈ GW := inGW (List.mem_of_getElem? (i := 207) (by decide +kernel)) (by decide +kernel)
theorem lkX10_10 : Cond.fieldLink RX10 10 (TX10 0).1 (TX10 0).2.1 (TX10 0).2.2.1 ∈ GW := inGW (List.mem_of_getElem? (i := 378) (by decide +kernel)) (by decide +kernel)
theorem lkX10_19 : Cond.fieldLink RX10 19 (TX10 1).1 (TX10 1).2.1 (TX10 1).2.2.1 ∈ GW := inGW (List.mem_of_getElem? (i := 379) (by decide +kernel)) (by decide +kernel)
theorem lkX10_26 : Cond.fieldLink RX10 26 (TX10 2).1 (TX10 2).2.1 (TX10 2).2.2.1 ∈ GW := inGW (List.mem_of_getElem? (i := 380) (by decide +kernel)) (by decide +kernel)
theorem lkX10_33 : Cond.fieldLink RX10 33 (TX10 3).1 (TX10 3).2.1 (TX10 3).2.2.1 ∈ GW := inGW (List.mem_of_getElem? (i := 381) (by decide +kernel)) (by decide +kernel)
theorem lkX10_40 : Cond.fieldLink RX10 40 (TX10 4).1 (TX10 4).2.1 (TX10 4).2.2.1 ∈ GW := inGW (List.mem_of_getElem? (i := 382) (by decide +kernel)) (by decide +kernel)
theorem lkX10_47 : Cond.fieldLink RX10 47 (TX10 5).1 (TX10 5).2.1 (TX10 5).2.2.1 ∈ GW := inGW (List.mem_of_getElem? (i := 383) (by decide +kernel)) (by decide +kernel)
theorem lkX10_54 : Cond.fieldLink RX10 54 (TX10 6).1 (TX10 6).2.1 (TX10 6).2.2.1 ∈ GW := inGW (List.mem_of_getElem? (i := 384) (by decide +kernel)) (by decide +kernel)
theorem lkX10_63 : Cond.fieldLink RX10 63 (TX10 7).1 (TX10 7).2.1 (TX10 7).2.2.1 ∈ GW := inGW (List.mem_of_getElem? (i := 385) (by decide +kernel)) (by decide +kernel)
theorem lkX10_67 : Cond.fieldLink RX10 67 (TX10 8).1 (TX10 8).2.1 (TX10 8).2.2.1 ∈ GW := inGW (List.mem_of_getElem? (i := 386) (by decide +kernel)) (by decide +kernel)
theorem lkX10_71 : Cond.fieldLink RX10 71 (TX10 11).1 (TX10 11).2.1 (TX10 11).2.2.1 ∈ GW := inGW (List.mem_of_getElem? (i := 389) (by decide +kernel)) (by decide +kernel)
theorem lkX10_75 : Cond.fieldLink RX10 75 (TX7 1).1 (TX7 1).2.1 (TX7 1).2.2.1 ∈ GW := inGW (List.mem_of_getElem? (i := 183) (by decide +kernel)) (by decide +kernel)
theorem lkX10_85 : Cond.fieldLink RX10 85 (TX2 2).1 (TX2 2).2.1 (TX2 2).2.2.1 ∈ GW := inGW (List.mem_of_getElem? (i := 223) (by decide +kernel)) (by decide +kernel)
theorem lkX10_88 : Cond.fieldLink RX10 88 (TX10 14).1 (TX10 14).2.1 (TX10 14).2.2.1 ∈ GW := inGW (List.mem_of_getElem? (i := 392) (by decide +kernel)) (by decide +kernel)
theorem lkX10_98 : Cond.fieldLink RX10 98 (TX2 3).1 (TX2 3).2.1 (TX2 3).2.2.1 ∈ GW := inGW (List.mem_of_getElem? (i := 225) (by decide +kernel)) (by decide +kernel)
theorem lkX10_105 : Cond.fieldLink RX10 105 (TX7 2).1 (TX7 2).2.1 (TX7 2).2.2.1 ∈ GW := inGW (List.mem_of_getElem? (i := 187) (by decide +kernel)) (by decide +kernel)
theorem lkX10_119 : Cond.fieldLink RX10 119 (TX8 2).1 (TX8 2).2.1 (TX8 2).2.2.1 ∈ GW := inGW (List.mem_of_getElem? (i := 139) (by decide +kernel)) (by decide +kernel)
theorem lkX10_132 : Cond.fieldLink RX10 132 (TX7 0).1 (TX7 0).2.1 (TX7 0).2.2.1 ∈ GW := inGW (List.mem_of_getElem? (i := 181) (by decide +kernel)) (by decide +kernel)
theorem lkX10_136 : Cond.fieldLink RX10 136 (TX3 0).1 (TX3 0).2.1 (TX3 0).2.2.1 ∈ GW := inGW (List.mem_of_getElem? (i := 163) (by decide +kernel)) (by decide +kernel)
theorem lkX10_141 : Cond.fieldLink RX10 141 (TX3 1).1 (TX3 1).2.1 (TX3 1).2.2.1 ∈ GW := inGW (List.mem_of_getElem? (i := 170) (by decide +kernel)) (by decide +kernel)
theorem lkX10_144 : Cond.fieldLink RX10 144 (TX8 0).1 (TX8 0).2.1 (TX8 0).2.2.1 ∈ GW := inGW (List.mem_of_getElem? (i := 127) (by decide +kernel)) (by decide +kernel)
theorem lkX10_153 : Cond.fieldLink RX10 153 (TX0 5).1 (TX0 5).2.1 (TX0 5).2.2.1 ∈ GW := inGW (List.mem_of_getElem? (i := 271) (by decide +kernel)) (by decide +kernel)
theorem lkX10_167 : Cond.fieldLink RX10 167 (TX5 1).1 (TX5 1).2.1 (TX5 1).2.2.1 ∈ GW := inGW (List.mem_of_getElem? (i := 247) (by decide +kernel)) (by decide +kernel)
theorem lkX10_168 : Cond.fieldLink RX10 168 (TX5 0).1 (TX5 0).2.1 (TX5 0).2.2.1 ∈ GW := inGW (List.mem_of_getElem? (i := 245) (by decide +kernel)) (by decide +kernel)
theorem lkX10_186 : Cond.fieldLink RX10 186 (TX0 8).1 (TX0 8).2.1 (TX0 8).2.2.1 ∈ GW := inGW (List.mem_of_getElem? (i := 277) (by decide +kernel)) (by decide +kernel)
theorem lkX10_187 : Cond.fieldLink RX10 187 (TX0 9).1 (TX0 9).2.1 (TX0 9).2.2.1 ∈ GW := inGW (List.mem_of_getElem? (i := 279) (by decide +kernel)) (by decide +kernel)
theorem lkX10_193 : Cond.fieldLink RX10 193 (TX0 10).1 (TX0 10).2.1 (TX0 10).2.2.1 ∈ GW := inGW (List.mem_of_getElem? (i := 280) (by decide +kernel)) (by decide +kernel)
theorem lkX10_200 : Cond.fieldLink RX10 200 (TX0 0).1 (TX0 0).2.1 (TX0 0).2.2.1 ∈ GW := inGW (List.mem_of_getElem? (i := 261) (by decide +kernel)) (by decide +kernel)
theorem lkX10_207 : Cond.fieldLink RX10 207 (TX0 2).1 (TX0 2).2.1 (TX0 2).2.2.1 ∈ GW := inGW (List.mem_of_getElem? (i := 266) (by decide +kernel)) (by decide +kernel)
theorem lkX10_210 : Cond.fieldLink RX10 210 (TX0 3).1 (TX0 3).2.1 (TX0 3).2.2.1 ∈ GW := inGW (List.mem_of_getElem? (i := 268) (by decide +kernel)) (by decide +kernel)
theorem lkX10_217 : Cond.fieldLink RX10 217 (TX0 6).1 (TX0 6).2.1 (TX0 6).2.2.1 ∈ GW := inGW (List.mem_of_getElem? (i := 273) (by decide +kernel)) (by decide +kernel)
theorem lkX10_228 : Cond.fieldLink RX10 228 (TX9 3).1 (TX9 3).2.1 (TX9 3).2.2.1 ∈ GW := inGW (List.mem_of_getElem? (i := 351) (by decide +kernel)) (by decide +kernel)
theorem lkX10_231 : Cond.fieldLink RX10 231 (TX9 2).1 (TX9 2).2.1 (TX9 2).2.2.1 ∈ GW := inGW (List.mem_of_getElem? (i := 349) (by decide +kernel)) (by decide +kernel)
theorem lkX10_232 : Cond.fieldLink RX10 232 (TX1 1).1 (TX1 1).2.1 (TX1 1).2.2.1 ∈ GW := inGW (List.mem_of_getElem? (i := 208) (by decide +kernel)) (by decide +kernel)
theorem lkX10_233 : Cond.fieldLink RX10 233 (TX10 13).1 (TX10 13).2.1 (TX10 13).2.2.1 ∈ GW := inGW (List.mem_of_getElem? (i := 391) (by decide +kernel)) (by decide +kernel)
theorem lkX10_239 : Cond.fieldLink RX10 239 (TX10 12).1 (TX10 12).2.1 (TX10 12).2.2.1 ∈ GW := inGW (List.mem_of_getElem? (i := 390) (by decide +kernel)) (by decide +kernel)
theorem lkX10_273 : Cond.fieldLink RX10 273 (TX10 9).1 (TX10 9).2.1 (TX10 9).2.2.1 ∈ GW := inGW (List.mem_of_getElem? (i := 387) (by decide +kernel)) (by decide +kernel)
theorem lkX10_276 : Cond.fieldLink RX10 276 (TX10 10).1 (TX10 10).2.1 (TX10 10).2.2.1 ∈ GW := inGW (List.mem_of_getElem? (i := 388) (by decide +kernel)) (by decide +kernel)
theorem lkX11_7 : Cond.fieldLink RX11 7 (TX11 0).1 (TX11 0).2.1 (TX11 0).2.2.1 ∈ GW := inGW (List.mem_of_getElem? (i := 816) (by decide +kernel)) (by decide +kernel)
theorem lkX11_13 : Cond.fieldLink RX11 13 (TX11 1).1 (TX11 1).2.1 (TX11 1).2.2.1 ∈ GW := inGW (List.mem_of_getElem? (i := 817) (by decide +kernel)) (by decide +kernel)
theorem lkX11_16 : Cond.fieldLink RX11 16 (TX11 2).1 (TX11 2).2.1 (TX11 2).2.2.1 ∈ GW := inGW (List.mem_of_getElem? (i := 818) (by decide +kernel)) (by decide +kernel)
theorem lkX11_19 : Cond.fieldLink RX11 19 (TX11 4).1 (TX11 4).2.1 (TX11 4).2.2.1 ∈ GW := inGW (List.mem_of_getElem? (i := 820) (by decide +kernel)) (by decide +kernel)
theorem lkX11_22 : Cond.fieldLink RX11 22 (TX11 5).1 (TX11 5).2.1 (TX11 5).2.2.1 ∈ GW := inGW (List.mem_of_getElem? (i := 821) (by decide +kernel)) (by decide +kernel)
theorem lkX11_25 : Cond.fieldLink RX11 25 (TX11 8).1 (TX11 8).2.1 (TX11 8).2.2.1 ∈ GW := inGW (List.mem_of_getElem? (i := 824) (by decide +kernel)) (by decide +kernel)
theorem lkX11_28 : Cond.fieldLink RX11 28 (TX11 10).1 (TX11 10).2.1 (TX11 10).2.2.1 ∈ GW := inGW (List.mem_of_getElem? (i := 826) (by decide +kernel)) (by decide +kernel)
theorem lkX11_31 : Cond.fieldLink RX11 31 (TX11 12).1 (TX11 12).2.1 (TX11 12).2.2.1 ∈ GW := inGW (List.mem_of_getElem? (i := 828) (by decide +kernel)) (by decide +kernel)
theorem lkX11_34 : Cond.fieldLink RX11 34 (TX11 13).1 (TX11 13).2.1 (TX11 13).2.2.1 ∈ GW := inGW (List.mem_of_getElem? (i := 829) (by decide +kernel)) (by decide +kernel)
theorem lkX11_38 : Cond.fieldLink RX11 38 (TX11 14).1 (TX11 14).2.1 (TX11 14).2.2.1 ∈ GW := inGW (List.mem_of_getElem? (i := 830) (by decide +kernel)) (by decide +kernel)
theorem lkX11_41 : Cond.fieldLink RX11 41 (TX11 15).1 (TX11 15).2.1 (TX11 15).2.2.1 ∈ GW := inGW (List.mem_of_getElem? (i := 831) (by decide +kernel)) (by decide +kernel)
theorem lkX11_44 : Cond.fieldLink RX11 44 (TX11 16).1 (TX11 16).2.1 (TX11 16).2.2.1 ∈ GW := inGW (List.mem_of_getElem? (i := 832) (by decide +kernel)) (by decide +kernel)
theorem lkX11_47 : Cond.fieldLink RX11 47 (TX11 17).1 (TX11 17).2.1 (TX11 17).2.2.1 ∈ GW := inGW (List.mem_of_getElem? (i := 833) (by decide +kernel)) (by decide +kernel)
theorem lkX11_50 : Cond.fieldLink RX11 50 (TX11 19).1 (TX11 19).2.1 (TX11 19).2.2.1 ∈ GW := inGW (List.mem_of_getElem? (i := 835) (by decide +kernel)) (by decide +kernel)
theorem lkX11_54 : Cond.fieldLink RX11 54 (TX11 20).1 (TX11 20).2.1 (TX11 20).2.2.1 ∈ GW := inGW (List.mem_of_getElem? (i := 836) (by decide +kernel)) (by decide +kernel)
theorem lkX11_57 : Cond.fieldLink RX11 57 (TX11 21).1 (TX11 21).2.1 (TX11 21).2.2.1 ∈ GW := inGW (List.mem_of_getElem? (i := 837) (by decide +kernel)) (by decide +kernel)
theorem lkX11_60 : Cond.fieldLink RX11 60 (TX11 23).1 (TX11 23).2.1 (TX11 23).2.2.1 ∈ GW := inGW (List.mem_of_getElem? (i := 839) (by decide +kernel)) (by decide +kernel)
theorem lkX11_63 : Cond.fieldLink RX11 63 (TX11 25).1 (TX11 25).2.1 (TX11 25).2.2.1 ∈ GW := inGW (List.mem_of_getElem? (i := 841) (by decide +kernel)) (by decide +kernel)
theorem lkX11_66 : Cond.fieldLink RX11 66 (TX11 26).1 (TX11 26).2.1 (TX11 26).2.2.1 ∈ GW := inGW (List.mem_of_getElem? (i := 842) (by decide +kernel)) (by decide +kernel)
theorem lkX11_69 : Cond.fieldLink RX11 69 (TX11 27).1 (TX11 27).2.1 (TX11 27).2.2.1 ∈ GW := inGW (List.mem_of_getElem? (i := 843) (by decide +kernel)) (by decide +kernel)
theorem lkX11_72 : Cond.fieldLink RX11 72 (TX11 3).1 (TX11 3).2.1 (TX11 3).2.2.1 ∈ GW := inGW (List.mem_of_getElem? (i := 819) (by decide +kernel)) (by decide +kernel)
theorem lkX11_87 : Cond.fieldLink RX11 87 (TX11 9).1 (TX11 9).2.1 (TX11 9).2.2.1 ∈ GW := inGW (List.mem_of_getElem? (i := 825) (by decide +kernel)) (by decide +kernel)
theorem lkX11_90 : Cond.fieldLink RX11 90 (TX11 7).1 (TX11 7).2.1 (TX11 7).2.2.1 ∈ GW := inGW (List.mem_of_getElem? (i := 823) (by decide +kernel)) (by decide +kernel)
theorem lkX11_93 : Cond.fieldLink RX11 93 (TX11 6).1 (TX11 6).2.1 (TX11 6).2.2.1 ∈ GW := inGW (List.mem_of_getElem? (i := 822) (by decide +kernel)) (by decide +kernel)
theorem lkX11_172 : Cond.fieldLink RX11 172 (TX11 11).1 (TX11 11).2.1 (TX11 11).2.2.1 ∈ GW := inGW (List.mem_of_getElem? (i := 827) (by decide +kernel)) (by decide +kernel)
theorem lkX11_210 : Cond.fieldLink RX11 210 (TX11 22).1 (TX11 22).2.1 (TX11 22).2.2.1 ∈ GW := inGW (List.mem_of_getElem? (i := 838) (by decide +kernel)) (by decide +kernel)
theorem lkX11_213 : Cond.fieldLink RX11 213 (TX11 18).1 (TX11 18).2.1 (TX11 18).2.2.1 ∈ GW := inGW (List.mem_of_getElem? (i := 834) (by decide +kernel)) (by decide +kernel)
theorem lkX11_237 : Cond.fieldLink RX11 237 (TX11 24).1 (TX11 24).2.1 (TX11 24).2.2.1 ∈ GW := inGW (List.mem_of_getElem? (i := 840) (by decide +kernel)) (by decide +kernel)
theorem lkX11_249 : Cond.fieldLink RX11 249 (TX11 28).1 (TX11 28).2.1 (TX11 28).2.2.1 ∈ GW := inGW (List.mem_of_getElem? (i := 844) (by decide +kernel)) (by decide +kernel)
theorem lkX11_252 : Cond.fieldLink RX11 252 (TX11 29).1 (TX11 29).2.1 (TX11 29).2.2.1 ∈ GW := inGW (List.mem_of_getElem? (i := 845) (by decide +kernel)) (by decide +kernel)
theorem lkX11_255 : Cond.fieldLink RX11 255 (TX11 30).1 (TX11 30).2.1 (TX11 30).2.2.1 ∈ GW := inGW (List.mem_of_getElem? (i := 846) (by decide +kernel)) (by decide +kernel)
theorem lkX11_281 : Cond.fieldLink RX11 281 (TX11 31).1 (TX11 31).2.1 (TX11 31).2.2.1 ∈ GW := inGW (List.mem_of_getElem? (i := 847) (by decide +kernel)) (by decide +kernel)
theorem lkX2_9 : Cond.fieldLink RX2 9 (TX2 0).1 (TX2 0).2.1 (TX2 0).2.2.1 ∈ GW := inGW (List.mem_of_getElem? (i := 220) (by decide +kernel)) (by decide +kernel)
theorem lkX2_15 : Cond.fieldLink RX2 15 (TX2 1).1 (TX2 1).2.1 (TX2 1).2.2.1 ∈ GW := inGW (List.mem_of_getElem? (i := 221) (by decide +kernel)) (by decide +kernel)
theorem lkX2_18 : Cond.fieldLink RX2 18 (TX2 2).1 (TX2 2).2.1 (TX2 2).2.2.1 ∈ GW := inGW (List.mem_of_getElem? (i := 222) (by decide +kernel)) (by decide +kernel)
theorem lkX2_22 : Cond.fieldLink RX2 22 (TX2 3).1 (TX2 3).2.1 (TX2 3).2.2.1 ∈ GW := inGW (List.mem_of_getElem? (i := 224) (by decide +kernel)) (by decide +kernel)
theorem lkX2_25 : Cond.fieldLink RX2 25 (TX7 2).1 (TX7 2).2.1 (TX7 2).2.2.1 ∈ GW := inGW (List.mem_of_getElem? (i := 185) (by decide +kernel)) (by decide +kernel)
theorem lkX2_30 : Cond.fieldLink RX2 30 (TX7 0).1 (TX7 0).2.1 (TX7 0).2.2.1 ∈ GW := inGW (List.mem_of_getElem? (i := 179) (by decide +kernel)) (by decide +kernel)
theorem lkX2_45 : Cond.fieldLink RX2 45 (TX3 0).1 (TX3 0).2.1 (TX3 0).2.2.1 ∈ GW := inGW (List.mem_of_getElem? (i := 161) (by decide +kernel)) (by decide +kernel)
theorem lkX2_61 : Cond.fieldLink RX2 61 (TX3 1).1 (TX3 1).2.1 (TX3 1).2.2.1 ∈ GW := inGW (List.mem_of_getElem? (i := 168) (by decide +kernel)) (by decide +kernel)
theorem lkX2_64 : Cond.fieldLink RX2 64 (TX8 2).1 (TX8 2).2.1 (TX8 2).2.2.1 ∈ GW := inGW (List.mem_of_getElem? (i := 140) (by decide +kernel)) (by decide +kernel)
theorem lkX2_67 : Cond.fieldLink RX2 67 (TX2 4).1 (TX2 4).2.1 (TX2 4).2.2.1 ∈ GW := inGW (List.mem_of_getElem? (i := 226) (by decide +kernel)) (by decide +kernel)
theorem lkX2_74 : Cond.fieldLink RX2 74 (TX8 0).1 (TX8 0).2.1 (TX8 0).2.2.1 ∈ GW := inGW (List.mem_of_getElem? (i := 126) (by decide +kernel)) (by decide +kernel)
theorem lkX3_14 : Cond.fieldLink RX3 14 (TX3 0).1 (TX3 0).2.1 (TX3 0).2.2.1 ∈ GW := inGW (List.mem_of_getElem? (i := 157) (by decide +kernel)) (by decide +kernel)
theorem lkX3_20 : Cond.fieldLink RX3 20 (TX3 1).1 (TX3 1).2.1 (TX3 1).2.2.1 ∈ GW := inGW (List.mem_of_getElem? (i := 164) (by decide +kernel)) (by decide +kernel)
theorem lkX4_12 : Cond.fieldLink RX4 12 (TX4 0).1 (TX4 0).2.1 (TX4 0).2.2.1 ∈ GW := inGW (List.mem_of_getElem? (i := 322) (by decide +kernel)) (by decide +kernel)
theorem lkX4_18 : Cond.fieldLink RX4 18 (TX4 1).1 (TX4 1).2.1 (TX4 1).2.2.1 ∈ GW := inGW (List.mem_of_getElem? (i := 323) (by decide +kernel)) (by decide +kernel)
theorem lkX4_21 : Cond.fieldLink RX4 21 (TX4 2).1 (TX4 2).2.1 (TX4 2).2.2.1 ∈ GW := inGW (List.mem_of_getElem? (i := 324) (by decide +kernel)) (by decide +kernel)
theorem lkX4_25 : Cond.fieldLink RX4 25 (TX4 3).1 (TX4 3).2.1 (TX4 3).2.2.1 ∈ GW := inGW (List.mem_of_getElem? (i := 325) (by decide +kernel)) (by decide +kernel)
theorem lkX4_29 : Cond.fieldLink RX4 29 (TX3 0).1 (TX3 0).2.1 (TX3 0).2.2.1 ∈ GW := inGW (List.mem_of_getElem? (i := 158) (by decide +kernel)) (by decide +kernel)
theorem lkX4_38 : Cond.fieldLink RX4 38 (TX3 1).1 (TX3 1).2.1 (TX3 1).2.2.1 ∈ GW := inGW (List.mem_of_getElem? (i := 166) (by decide +kernel)) (by decide +kernel)
theorem lkX4_40 : Cond.fieldLink RX4 40 (TX4 4).1 (TX4 4).2.1 (TX4 4).2.2.1 ∈ GW := inGW (List.mem_of_getElem? (i := 326) (by decide +kernel)) (by decide +kernel)
theorem lkX4_52 : Cond.fieldLink RX4 52 (TX8 2).1 (TX8 2).2.1 (TX8 2).2.2.1 ∈ GW := inGW (List.mem_of_getElem? (i := 136) (by decide +kernel)) (by decide +kernel)
theorem lkX4_57 : Cond.fieldLink RX4 57 (TX8 0).1 (TX8 0).2.1 (TX8 0).2.2.1 ∈ GW := inGW (List.mem_of_getElem? (i := 123) (by decide +kernel)) (by decide +kernel)
theorem lkX4_68 : Cond.fieldLink RX4 68 (TX8 1).1 (TX8 1).2.1 (TX8 1).2.2.1 ∈ GW := inGW (List.mem_of_getElem? (i := 131) (by decide +kernel)) (by decide +kernel)
theorem lkX4_81 : Cond.fieldLink RX4 81 (TX7 2).1 (TX7 2).2.1 (TX7 2).2.2.1 ∈ GW := inGW (List.mem_of_getElem? (i := 189) (by decide +kernel)) (by decide +kernel)
theorem lkX4_86 : Cond.fieldLink RX4 86 (TX7 0).1 (TX7 0).2.1 (TX7 0).2.2.1 ∈ GW := inGW (List.mem_of_getElem? (i := 180) (by decide +kernel)) (by decide +kernel)
theorem lkX4_94 : Cond.fieldLink RX4 94 (TX0 8).1 (TX0 8).2.1 (TX0 8).2.2.1 ∈ GW := inGW (List.mem_of_getElem? (i := 276) (by decide +kernel)) (by decide +kernel)
theorem lkX4_97 : Cond.fieldLink RX4 97 (TX0 0).1 (TX0 0).2.1 (TX0 0).2.2.1 ∈ GW := inGW (List.mem_of_getElem? (i := 260) (by decide +kernel)) (by decide +kernel)
theorem lkX4_100 : Cond.fieldLink RX4 100 (TX0 2).1 (TX0 2).2.1 (TX0 2).2.2.1 ∈ GW := inGW (List.mem_of_getElem? (i := 265) (by decide +kernel)) (by decide +kernel)
theorem lkX4_103 : Cond.fieldLink RX4 103 (TX0 1).1 (TX0 1).2.1 (TX0 1).2.2.1 ∈ GW := inGW (List.mem_of_getElem? (i := 263) (by decide +kernel)) (by decide +kernel)
theorem lkX4_106 : Cond.fieldLink RX4 106 (TX6 0).1 (TX6 0).2.1 (TX6 0).2.2.1 ∈ GW := inGW (List.mem_of_getElem? (i := 318) (by decide +kernel)) (by decide +kernel)
theorem lkX5_9 : Cond.fieldLink RX5 9 (TX5 0).1 (TX5 0).2.1 (TX5 0).2.2.1 ∈ GW := inGW (List.mem_of_getElem? (i := 244) (by decide +kernel)) (by decide +kernel)
theorem lkX5_15 : Cond.fieldLink RX5 15 (TX5 1).1 (TX5 1).2.1 (TX5 1).2.2.1 ∈ GW := inGW (List.mem_of_getElem? (i := 246) (by decide +kernel)) (by decide +kernel)
theorem lkX5_19 : Cond.fieldLink RX5 19 (TX3 0).1 (TX3 0).2.1 (TX3 0).2.2.1 ∈ GW := inGW (List.mem_of_getElem? (i := 159) (by decide +kernel)) (by decide +kernel)
theorem lkX5_33 : Cond.fieldLink RX5 33 (TX3 1).1 (TX3 1).2.1 (TX3 1).2.2.1 ∈ GW := inGW (List.mem_of_getElem? (i := 165) (by decide +kernel)) (by decide +kernel)
theorem lkX5_36 : Cond.fieldLink RX5 36 (TX8 2).1 (TX8 2).2.1 (TX8 2).2.2.1 ∈ GW := inGW (List.mem_of_getElem? (i := 137) (by decide +kernel)) (by decide +kernel)
theorem lkX5_39 : Cond.fieldLink RX5 39 (TX8 0).1 (TX8 0).2.1 (TX8 0).2.2.1 ∈ GW := inGW (List.mem_of_getElem? (i := 122) (by decide +kernel)) (by decide +kernel)
theorem lkX5_50 : Cond.fieldLink RX5 50 (TX8 1).1 (TX8 1).2.1 (TX8 1).2.2.1 ∈ GW := inGW (List.mem_of_getElem? (i := 132) (by decide +kernel)) (by decide +kernel)
theorem lkX6_11 : Cond.fieldLink RX6 11 (TX6 0).1 (TX6 0).2.1 (TX6 0).2.2.1 ∈ GW := inGW (List.mem_of_getElem? (i := 317) (by decide +kernel)) (by decide +kernel)
theorem lkX6_15 : Cond.fieldLink RX6 15 (TX8 2).1 (TX8 2).2.1 (TX8 2).2.2.1 ∈ GW := inGW (List.mem_of_getElem? (i := 134) (by decide +kernel)) (by decide +kernel)
theorem lkX6_21 : Cond.fieldLink RX6 21 (TX8 0).1 (TX8 0).2.1 (TX8 0).2.2.1 ∈ GW := inGW (List.mem_of_getElem? (i := 121) (by decide +kernel)) (by decide +kernel)
theorem lkX6_32 : Cond.fieldLink RX6 32 (TX8 1).1 (TX8 1).2.1 (TX8 1).2.2.1 ∈ GW := inGW (List.mem_of_getElem? (i := 129) (by decide +kernel)) (by decide +kernel)
theorem lkX7_11 : Cond.fieldLink RX7 11 (TX7 0).1 (TX7 0).2.1 (TX7 0).2.2.1 ∈ GW := inGW (List.mem_of_getElem? (i := 176) (by decide +kernel)) (by decide +kernel)
theorem lkX7_22 : Cond.fieldLink RX7 22 (TX7 1).1 (TX7 1).2.1 (TX7 1).2.2.1 ∈ GW := inGW (List.mem_of_getElem? (i := 182) (by decide +kernel)) (by decide +kernel)
theorem lkX7_27 : Cond.fieldLink RX7 27 (TX7 2).1 (TX7 2).2.1 (TX7 2).2.2.1 ∈ GW := inGW (List.mem_of_getElem? (i := 184) (by decide +kernel)) (by decide +kernel)
theorem lkX8_13 : Cond.fieldLink RX8 13 (TX8 0).1 (TX8 0).2.1 (TX8 0).2.2.1 ∈ GW := inGW (List.mem_of_getElem? (i := 120) (by decide +kernel)) (by decide +kernel)
theorem lkX8_19 : Cond.fieldLink RX8 19 (TX8 1).1 (TX8 1).2.1 (TX8 1).2.2.1 ∈ GW := inGW (List.mem_of_getElem? (i := 128) (by decide +kernel)) (by decide +kernel)
theorem lkX8_22 : Cond.fieldLink RX8 22 (TX8 2).1 (TX8 2).2.1 (TX8 2).2.2.1 ∈ GW := inGW (List.mem_of_getElem? (i := 135) (by decide +kernel)) (by decide +kernel)
theorem lkX9_14 : Cond.fieldLink RX9 14 (TX9 0).1 (TX9 0).2.1 (TX9 0).2.2.1 ∈ GW := inGW (List.mem_of_getElem? (i := 346) (by decide +kernel)) (by decide +kernel)
theorem lkX9_20 : Cond.fieldLink RX9 20 (TX9 1).1 (TX9 1).2.1 (TX9 1).2.2.1 ∈ GW := inGW (List.mem_of_getElem? (i := 347) (by decide +kernel)) (by decide +kernel)
theorem lkX9_28 : Cond.fieldLink RX9 28 (TX7 0).1 (TX7 0).2.1 (TX7 0).2.2.1 ∈ GW := inGW (List.mem_of_getElem? (i := 177) (by decide +kernel)) (by decide +kernel)
theorem lkX9_34 : Cond.fieldLink RX9 34 (TX9 3).1 (TX9 3).2.1 (TX9 3).2.2.1 ∈ GW := inGW (List.mem_of_getElem? (i := 350) (by decide +kernel)) (by decide +kernel)
theorem lkX9_46 : Cond.fieldLink RX9 46 (TX9 2).1 (TX9 2).2.1 (TX9 2).2.2.1 ∈ GW := inGW (List.mem_of_getElem? (i := 348) (by decide +kernel)) (by decide +kernel)
theorem lkX9_49 : Cond.fieldLink RX9 49 (TX8 2).1 (TX8 2).2.1 (TX8 2).2.2.1 ∈ GW := inGW (List.mem_of_getElem? (i := 138) (by decide +kernel)) (by decide +kernel)
theorem lkX9_52 : Cond.fieldLink RX9 52 (TX8 1).1 (TX8 1).2.1 (TX8 1).2.2.1 ∈ GW := inGW (List.mem_of_getElem? (i := 130) (by decide +kernel)) (by decide +kernel)
theorem lkX9_59 : Cond.fieldLink RX9 59 (TX7 2).1 (TX7 2).2.1 (TX7 2).2.2.1 ∈ GW := inGW (List.mem_of_getElem? (i := 186) (by decide +kernel)) (by decide +kernel)
theorem lkX9_62 : Cond.fieldLink RX9 62 (TX3 0).1 (TX3 0).2.1 (TX3 0).2.2.1 ∈ GW := inGW (List.mem_of_getElem? (i := 160) (by decide +kernel)) (by decide +kernel)
theorem lkX9_71 : Cond.fieldLink RX9 71 (TX8 0).1 (TX8 0).2.1 (TX8 0).2.2.1 ∈ GW := inGW (List.mem_of_getElem? (i := 124) (by decide +kernel)) (by decide +kernel)
theorem lkX9_82 : Cond.fieldLink RX9 82 (TX3 1).1 (TX3 1).2.1 (TX3 1).2.2.1 ∈ GW := inGW (List.mem_of_getElem? (i := 169) (by decide +kernel)) (by decide +kernel)
theorem q715 : Cond.methodLink RX0 50 yX8_partSize ∈ GW := inGW (List.mem_of_getElem? (i := 715) (by decide +kernel)) (by decide +kernel)
theorem q716 : Cond.instanceMethod yX8_partSize ∈ GW := inGW (List.mem_of_getElem? (i := 716) (by decide +kernel)) (by decide +kernel)
theorem q717 : Cond.selects RX8 yX8_partSize yX8_partSize ∈ GW := inGW (List.mem_of_getElem? (i := 717) (by decide +kernel)) (by decide +kernel)
theorem q82 : Cond.initialized RX8 ∈ GW := inGW (List.mem_of_getElem? (i := 82) (by decide +kernel)) (by decide +kernel)
set_option maxRecDepth 30000 in
theorem q718 : Cond.code yX8_partSize cX8_partSize 2 (some .int) ∈ GW := inGW (List.mem_of_getElem? (i := 718) rfl) (by decide +kernel)
theorem vkX0_50 : VOK RX0 50 yX8_partSize cX8_partSize 2 (some .int) 1 := vok_mk q715 q716 q717 q82 q718 (by decide +kernel)
theorem q563 : Cond.methodLink RX0 56 yX0_findHeads ∈ GW := inGW (List.mem_of_getElem? (i := 563) (by decide +kernel)) (by decide +kernel)
theorem q565 : Cond.instanceMethod yX0_findHeads ∈ GW := inGW (List.mem_of_getElem? (i := 565) (by decide +kernel)) (by decide +kernel)
theorem q12 : Cond.selects RX0 yX0_findHeads yX0_findHeads ∈ GW := inGW (List.mem_of_getElem? (i := 12) (by decide +kernel)) (by decide +kernel)
theorem q88 : Cond.initialized RX0 ∈ GW := inGW (List.mem_of_getElem? (i := 88) (by decide +kernel)) (by decide +kernel)
set_option maxRecDepth 30000 in
theorem q566 : Cond.code yX0_findHeads cX0_findHeads 3 none ∈ GW := inGW (List.mem_of_getElem? (i := 566) rfl) (by decide +kernel)
theorem vkX0_56 : VOK RX0 56 yX0_findHeads cX0_findHeads 3 none 1 := vok_mk q563 q565 q12 q88 q566 (by decide +kernel)
theorem q567 : Cond.methodLink RX0 60 yX0_collect ∈ GW := inGW (List.mem_of_getElem? (i := 567) (by decide +kernel)) (by decide +kernel)
theorem q569 : Cond.instanceMethod yX0_collect ∈ GW := inGW (List.mem_of_getElem? (i := 569) (by decide +kernel)) (by decide +kernel)
theorem q13 : Cond.selects RX0 yX0_collect yX0_collect ∈ GW := inGW (List.mem_of_getElem? (i := 13) (by decide +kernel)) (by decide +kernel)
set_option maxRecDepth 30000 in
theorem q570 : Cond.code yX0_collect cX0_collect 5 none ∈ GW := inGW (List.mem_of_getElem? (i := 570) rfl) (by decide +kernel)
theorem vkX0_60 : VOK RX0 60 yX0_collect cX0_collect 5 none 1 := vok_mk q567 q569 q13 q88 q570 (by decide +kernel)
theorem q575 : Cond.methodLink RX0 63 yX0_followersOf ∈ GW := inGW (List.mem_of_getElem? (i := 575) (by decide +kernel)) (by decide +kernel)
theorem q577 : Cond.instanceMethod yX0_followersOf ∈ GW := inGW (List.mem_of_getElem? (i := 577) (by decide +kernel)) (by decide +kernel)
theorem q15 : Cond.selects RX0 yX0_followersOf yX0_followersOf ∈ GW := inGW (List.mem_of_getElem? (i := 15) (by decide +kernel)) (by decide +kernel)
set_option maxRecDepth 30000 in
theorem q578 : Cond.code yX0_followersOf cX0_followersOf 7 (some .long) ∈ GW := inGW (List.mem_of_getElem? (i := 578) rfl) (by decide +kernel)
theorem vkX0_63 : VOK RX0 63 yX0_followersOf cX0_followersOf 7 (some .long) 2 := vok_mk q575 q577 q15 q88 q578 (by decide +kernel)
theorem q586 : Cond.methodLink RX0 67 yX0_reachOn ∈ GW := inGW (List.mem_of_getElem? (i := 586) (by decide +kernel)) (by decide +kernel)
theorem q588 : Cond.instanceMethod yX0_reachOn ∈ GW := inGW (List.mem_of_getElem? (i := 588) (by decide +kernel)) (by decide +kernel)
theorem q17 : Cond.selects RX0 yX0_reachOn yX0_reachOn ∈ GW := inGW (List.mem_of_getElem? (i := 17) (by decide +kernel)) (by decide +kernel)
set_option maxRecDepth 30000 in
theorem q589 : Cond.code yX0_reachOn cX0_reachOn 3 none ∈ GW := inGW (List.mem_of_getElem? (i := 589) rfl) (by decide +kernel)
theorem vkX0_67 : VOK RX0 67 yX0_reachOn cX0_reachOn 3 none 0 := vok_mk q586 q588 q17 q88 q589 (by decide +kernel)
theorem q593 : Cond.methodLink RX0 70 yX0_findRings ∈ GW := inGW (List.mem_of_getElem? (i := 593) (by decide +kernel)) (by decide +kernel)
theorem q595 : Cond.instanceMethod yX0_findRings ∈ GW := inGW (List.mem_of_getElem? (i := 595) (by decide +kernel)) (by decide +kernel)
theorem q18 : Cond.selects RX0 yX0_findRings yX0_findRings ∈ GW := inGW (List.mem_of_getElem? (i := 18) (by decide +kernel)) (by decide +kernel)
set_option maxRecDepth 30000 in
theorem q596 : Cond.code yX0_findRings cX0_findRings 2 none ∈ GW := inGW (List.mem_of_getElem? (i := 596) rfl) (by decide +kernel)
theorem vkX0_70 : VOK RX0 70 yX0_findRings cX0_findRings 2 none 0 := vok_mk q593 q595 q18 q88 q596 (by decide +kernel)
theorem q571 : Cond.methodLink RX0 86 yX0_isHead ∈ GW := inGW (List.mem_of_getElem? (i := 571) (by decide +kernel)) (by decide +kernel)
theorem q573 : Cond.instanceMethod yX0_isHead ∈ GW := inGW (List.mem_of_getElem? (i := 573) (by decide +kernel)) (by decide +kernel)
theorem q14 : Cond.selects RX0 yX0_isHead yX0_isHead ∈ GW := inGW (List.mem_of_getElem? (i := 14) (by decide +kernel)) (by decide +kernel)
set_option maxRecDepth 30000 in
theorem q574 : Cond.code yX0_isHead cX0_isHead 2 (some .boolean) ∈ GW := inGW (List.mem_of_getElem? (i := 574) rfl) (by decide +kernel)
theorem vkX0_86 : VOK RX0 86 yX0_isHead cX0_isHead 2 (some .boolean) 1 := vok_mk q571 q573 q14 q88 q574 (by decide +kernel)
theorem q579 : Cond.methodLink RX0 90 yX0_comesTo ∈ GW := inGW (List.mem_of_getElem? (i := 579) (by decide +kernel)) (by decide +kernel)
theorem q581 : Cond.instanceMethod yX0_comesTo ∈ GW := inGW (List.mem_of_getElem? (i := 581) (by decide +kernel)) (by decide +kernel)
theorem q16 : Cond.selects RX0 yX0_comesTo yX0_comesTo ∈ GW := inGW (List.mem_of_getElem? (i := 16) (by decide +kernel)) (by decide +kernel)
set_option maxRecDepth 30000 in
theorem q582 : Cond.code yX0_comesTo cX0_comesTo 10 (some .boolean) ∈ GW := inGW (List.mem_of_getElem? (i := 582) rfl) (by decide +kernel)
theorem vkX0_90 : VOK RX0 90 yX0_comesTo cX0_comesTo 10 (some .boolean) 3 := vok_mk q579 q581 q16 q88 q582 (by decide +kernel)
theorem q597 : Cond.methodLink RX0 107 yX0_nameRing ∈ GW := inGW (List.mem_of_getElem? (i := 597) (by decide +kernel)) (by decide +kernel)
theorem q599 : Cond.instanceMethod yX0_nameRing ∈ GW := inGW (List.mem_of_getElem? (i := 599) (by decide +kernel)) (by decide +kernel)
theorem q19 : Cond.selects RX0 yX0_nameRing yX0_nameRing ∈ GW := inGW (List.mem_of_getElem? (i := 19) (by decide +kernel)) (by decide +kernel)
set_option maxRecDepth 30000 in
theorem q600 : Cond.code yX0_nameRing cX0_nameRing 3 none ∈ GW := inGW (List.mem_of_getElem? (i := 600) rfl) (by decide +kernel)
theorem vkX0_107 : VOK RX0 107 yX0_nameRing cX0_nameRing 3 none 1 := vok_mk q597 q599 q19 q88 q600 (by decide +kernel)
theorem q494 : Cond.methodLink RX1 22 yX1_loseOldest ∈ GW := inGW (List.mem_of_getElem? (i := 494) (by decide +kernel)) (by decide +kernel)
theorem q496 : Cond.instanceMethod yX1_loseOldest ∈ GW := inGW (List.mem_of_getElem? (i := 496) (by decide +kernel)) (by decide +kernel)
theorem q8 : Cond.selects RX1 yX1_loseOldest yX1_loseOldest ∈ GW := inGW (List.mem_of_getElem? (i := 8) (by decide +kernel)) (by decide +kernel)
theorem q85 : Cond.initialized RX1 ∈ GW := inGW (List.mem_of_getElem? (i := 85) (by decide +kernel)) (by decide +kernel)
set_option maxRecDepth 30000 in
theorem q497 : Cond.code yX1_loseOldest cX1_loseOldest 3 none ∈ GW := inGW (List.mem_of_getElem? (i := 497) rfl) (by decide +kernel)
theorem vkX1_22 : VOK RX1 22 yX1_loseOldest cX1_loseOldest 3 none 0 := vok_mk q494 q496 q8 q85 q497 (by decide +kernel)
theorem q498 : Cond.methodLink RX1 25 yX7_copyFrom ∈ GW := inGW (List.mem_of_getElem? (i := 498) (by decide +kernel)) (by decide +kernel)
theorem q499 : Cond.instanceMethod yX7_copyFrom ∈ GW := inGW (List.mem_of_getElem? (i := 499) (by decide +kernel)) (by decide +kernel)
theorem q500 : Cond.selects RX7 yX7_copyFrom yX7_copyFrom ∈ GW := inGW (List.mem_of_getElem? (i := 500) (by decide +kernel)) (by decide +kernel)
theorem q81 : Cond.initialized RX7 ∈ GW := inGW (List.mem_of_getElem? (i := 81) (by decide +kernel)) (by decide +kernel)
set_option maxRecDepth 30000 in
theorem q501 : Cond.code yX7_copyFrom cX7_copyFrom 3 none ∈ GW := inGW (List.mem_of_getElem? (i := 501) rfl) (by decide +kernel)
theorem vkX1_25 : VOK RX1 25 yX7_copyFrom cX7_copyFrom 3 none 1 := vok_mk q498 q499 q500 q81 q501 (by decide +kernel)
theorem q428 : Cond.methodLink RX10 81 yX10_refuseBad ∈ GW := inGW (List.mem_of_getElem? (i := 428) (by decide +kernel)) (by decide +kernel)
theorem q430 : Cond.instanceMethod yX10_refuseBad ∈ GW := inGW (List.mem_of_getElem? (i := 430) (by decide +kernel)) (by decide +kernel)
theorem q0 : Cond.selects RX10 yX10_refuseBad yX10_refuseBad ∈ GW := inGW (List.mem_of_getElem? (i := 0) (by decide +kernel)) (by decide +kernel)
theorem q80 : Cond.initialized RX10 ∈ GW := inGW (List.mem_of_getElem? (i := 80) (by decide +kernel)) (by decide +kernel)
set_option maxRecDepth 30000 in
theorem q431 : Cond.code yX10_refuseBad cX10_refuseBad 1 (some .int) ∈ GW := inGW (List.mem_of_getElem? (i := 431) rfl) (by decide +kernel)
theorem vkX10_81 : VOK RX10 81 yX10_refuseBad cX10_refuseBad 1 (some .int) 0 := vok_mk q428 q430 q0 q80 q431 (by decide +kernel)
theorem q432 : Cond.methodLink RX10 91 yX2_append ∈ GW := inGW (List.mem_of_getElem? (i := 432) (by decide +kernel)) (by decide +kernel)
theorem q433 : Cond.instanceMethod yX2_append ∈ GW := inGW (List.mem_of_getElem? (i := 433) (by decide +kernel)) (by decide +kernel)
theorem q434 : Cond.selects RX2 yX2_append yX2_append ∈ GW := inGW (List.mem_of_getElem? (i := 434) (by decide +kernel)) (by decide +kernel)
theorem q86 : Cond.initialized RX2 ∈ GW := inGW (List.mem_of_getElem? (i := 86) (by decide +kernel)) (by decide +kernel)
set_option maxRecDepth 30000 in
theorem q435 : Cond.code yX2_append cX2_append 2 none ∈ GW := inGW (List.mem_of_getElem? (i := 435) rfl) (by decide +kernel)
theorem vkX10_91 : VOK RX10 91 yX2_append cX2_append 2 none 1 := vok_mk q432 q433 q434 q86 q435 (by decide +kernel)
theorem q444 : Cond.methodLink RX10 94 yX2_readRules ∈ GW := inGW (List.mem_of_getElem? (i := 444) (by decide +kernel)) (by decide +kernel)
theorem q445 : Cond.instanceMethod yX2_readRules ∈ GW := inGW (List.mem_of_getElem? (i := 445) (by decide +kernel)) (by decide +kernel)
theorem q446 : Cond.selects RX2 yX2_readRules yX2_readRules ∈ GW := inGW (List.mem_of_getElem? (i := 446) (by decide +kernel)) (by decide +kernel)
set_option maxRecDepth 30000 in
theorem q447 : Cond.code yX2_readRules cX2_readRules 3 (some .int) ∈ GW := inGW (List.mem_of_getElem? (i := 447) rfl) (by decide +kernel)
theorem vkX10_94 : VOK RX10 94 yX2_readRules cX2_readRules 3 (some .int) 1 := vok_mk q444 q445 q446 q86 q447 (by decide +kernel)
theorem q490 : Cond.methodLink RX10 101 yX1_keep ∈ GW := inGW (List.mem_of_getElem? (i := 490) (by decide +kernel)) (by decide +kernel)
theorem q491 : Cond.instanceMethod yX1_keep ∈ GW := inGW (List.mem_of_getElem? (i := 491) (by decide +kernel)) (by decide +kernel)
theorem q492 : Cond.selects RX1 yX1_keep yX1_keep ∈ GW := inGW (List.mem_of_getElem? (i := 492) (by decide +kernel)) (by decide +kernel)
set_option maxRecDepth 30000 in
theorem q493 : Cond.code yX1_keep cX1_keep 2 none ∈ GW := inGW (List.mem_of_getElem? (i := 493) rfl) (by decide +kernel)
theorem vkX10_101 : VOK RX10 101 yX1_keep cX1_keep 2 none 1 := vok_mk q490 q491 q492 q85 q493 (by decide +kernel)
theorem q517 : Cond.methodLink RX10 108 yX10_forgetFindings ∈ GW := inGW (List.mem_of_getElem? (i := 517) (by decide +kernel)) (by decide +kernel)
theorem q519 : Cond.instanceMethod yX10_forgetFindings ∈ GW := inGW (List.mem_of_getElem? (i := 519) (by decide +kernel)) (by decide +kernel)
theorem q9 : Cond.selects RX10 yX10_forgetFindings yX10_forgetFindings ∈ GW := inGW (List.mem_of_getElem? (i := 9) (by decide +kernel)) (by decide +kernel)
set_option maxRecDepth 30000 in
theorem q520 : Cond.code yX10_forgetFindings cX10_forgetFindings 1 none ∈ GW := inGW (List.mem_of_getElem? (i := 520) rfl) (by decide +kernel)
theorem vkX10_108 : VOK RX10 108 yX10_forgetFindings cX10_forgetFindings 1 none 0 := vok_mk q517 q519 q9 q80 q520 (by decide +kernel)
theorem q525 : Cond.methodLink RX10 111 yX2_readWhole ∈ GW := inGW (List.mem_of_getElem? (i := 525) (by decide +kernel)) (by decide +kernel)
theorem q526 : Cond.instanceMethod yX2_readWhole ∈ GW := inGW (List.mem_of_getElem? (i := 526) (by decide +kernel)) (by decide +kernel)
theorem q527 : Cond.selects RX2 yX2_readWhole yX2_readWhole ∈ GW := inGW (List.mem_of_getElem? (i := 527) (by decide +kernel)) (by decide +kernel)
set_option maxRecDepth 30000 in
theorem q528 : Cond.code yX2_readWhole cX2_readWhole 2 (some .boolean) ∈ GW := inGW (List.mem_of_getElem? (i := 528) rfl) (by decide +kernel)
theorem vkX10_111 : VOK RX10 111 yX2_readWhole cX2_readWhole 2 (some .boolean) 1 := vok_mk q525 q526 q527 q86 q528 (by decide +kernel)
theorem q529 : Cond.methodLink RX10 115 yX8_copyFrom ∈ GW := inGW (List.mem_of_getElem? (i := 529) (by decide +kernel)) (by decide +kernel)
theorem q507 : Cond.instanceMethod yX8_copyFrom ∈ GW := inGW (List.mem_of_getElem? (i := 507) (by decide +kernel)) (by decide +kernel)
theorem q508 : Cond.selects RX8 yX8_copyFrom yX8_copyFrom ∈ GW := inGW (List.mem_of_getElem? (i := 508) (by decide +kernel)) (by decide +kernel)
set_option maxRecDepth 30000 in
theorem q509 : Cond.code yX8_copyFrom cX8_copyFrom 2 none ∈ GW := inGW (List.mem_of_getElem? (i := 509) rfl) (by decide +kernel)
theorem vkX10_115 : VOK RX10 115 yX8_copyFrom cX8_copyFrom 2 none 1 := vok_mk q529 q507 q508 q82 q509 (by decide +kernel)
theorem q534 : Cond.methodLink RX10 122 yX10_isRule ∈ GW := inGW (List.mem_of_getElem? (i := 534) (by decide +kernel)) (by decide +kernel)
theorem q536 : Cond.instanceMethod yX10_isRule ∈ GW := inGW (List.mem_of_getElem? (i := 536) (by decide +kernel)) (by decide +kernel)
theorem q10 : Cond.selects RX10 yX10_isRule yX10_isRule ∈ GW := inGW (List.mem_of_getElem? (i := 10) (by decide +kernel)) (by decide +kernel)
set_option maxRecDepth 30000 in
theorem q537 : Cond.code yX10_isRule cX10_isRule 2 (some .boolean) ∈ GW := inGW (List.mem_of_getElem? (i := 537) rfl) (by decide +kernel)
theorem vkX10_122 : VOK RX10 122 yX10_isRule cX10_isRule 2 (some .boolean) 1 := vok_mk q534 q536 q10 q80 q537 (by decide +kernel)
theorem q538 : Cond.methodLink RX10 126 yX7_removeRule ∈ GW := inGW (List.mem_of_getElem? (i := 538) (by decide +kernel)) (by decide +kernel)
theorem q539 : Cond.instanceMethod yX7_removeRule ∈ GW := inGW (List.mem_of_getElem? (i := 539) (by decide +kernel)) (by decide +kernel)
theorem q540 : Cond.selects RX7 yX7_removeRule yX7_removeRule ∈ GW := inGW (List.mem_of_getElem? (i := 540) (by decide +kernel)) (by decide +kernel)
set_option maxRecDepth 30000 in
theorem q541 : Cond.code yX7_removeRule cX7_removeRule 4 none ∈ GW := inGW (List.mem_of_getElem? (i := 541) rfl) (by decide +kernel)
theorem vkX10_126 : VOK RX10 126 yX7_removeRule cX7_removeRule 4 none 1 := vok_mk q538 q539 q540 q81 q541 (by decide +kernel)
theorem q546 : Cond.methodLink RX10 129 yX7_moveToFront ∈ GW := inGW (List.mem_of_getElem? (i := 546) (by decide +kernel)) (by decide +kernel)
theorem q547 : Cond.instanceMethod yX7_moveToFront ∈ GW := inGW (List.mem_of_getElem? (i := 547) (by decide +kernel)) (by decide +kernel)
theorem q548 : Cond.selects RX7 yX7_moveToFront yX7_moveToFront ∈ GW := inGW (List.mem_of_getElem? (i := 548) (by decide +kernel)) (by decide +kernel)
set_option maxRecDepth 30000 in
theorem q549 : Cond.code yX7_moveToFront cX7_moveToFront 4 none ∈ GW := inGW (List.mem_of_getElem? (i := 549) rfl) (by decide +kernel)
theorem vkX10_129 : VOK RX10 129 yX7_moveToFront cX7_moveToFront 4 none 1 := vok_mk q546 q547 q548 q81 q549 (by decide +kernel)
theorem q554 : Cond.methodLink RX10 147 yX8_unknowns ∈ GW := inGW (List.mem_of_getElem? (i := 554) (by decide +kernel)) (by decide +kernel)
theorem q486 : Cond.instanceMethod yX8_unknowns ∈ GW := inGW (List.mem_of_getElem? (i := 486) (by decide +kernel)) (by decide +kernel)
theorem q487 : Cond.selects RX8 yX8_unknowns yX8_unknowns ∈ GW := inGW (List.mem_of_getElem? (i := 487) (by decide +kernel)) (by decide +kernel)
set_option maxRecDepth 30000 in
theorem q488 : Cond.code yX8_unknowns cX8_unknowns 3 (some .int) ∈ GW := inGW (List.mem_of_getElem? (i := 488) rfl) (by decide +kernel)
theorem vkX10_147 : VOK RX10 147 yX8_unknowns cX8_unknowns 3 (some .int) 0 := vok_mk q554 q486 q487 q82 q488 (by decide +kernel)
theorem q555 : Cond.methodLink RX10 150 yX10_keepBookRight ∈ GW := inGW (List.mem_of_getElem? (i := 555) (by decide +kernel)) (by decide +kernel)
theorem q557 : Cond.instanceMethod yX10_keepBookRight ∈ GW := inGW (List.mem_of_getElem? (i := 557) (by decide +kernel)) (by decide +kernel)
theorem q11 : Cond.selects RX10 yX10_keepBookRight yX10_keepBookRight ∈ GW := inGW (List.mem_of_getElem? (i := 11) (by decide +kernel)) (by decide +kernel)
set_option maxRecDepth 30000 in
theorem q558 : Cond.code yX10_keepBookRight cX10_keepBookRight 1 none ∈ GW := inGW (List.mem_of_getElem? (i := 558) rfl) (by decide +kernel)
theorem vkX10_150 : VOK RX10 150 yX10_keepBookRight cX10_keepBookRight 1 none 0 := vok_mk q555 q557 q11 q80 q558 (by decide +kernel)
theorem q611 : Cond.methodLink RX10 163 yX5_writeRule ∈ GW := inGW (List.mem_of_getElem? (i := 611) (by decide +kernel)) (by decide +kernel)
theorem q612 : Cond.instanceMethod yX5_writeRule ∈ GW := inGW (List.mem_of_getElem? (i := 612) (by decide +kernel)) (by decide +kernel)
theorem q613 : Cond.selects RX5 yX5_writeRule yX5_writeRule ∈ GW := inGW (List.mem_of_getElem? (i := 613) (by decide +kernel)) (by decide +kernel)
theorem q87 : Cond.initialized RX5 ∈ GW := inGW (List.mem_of_getElem? (i := 87) (by decide +kernel)) (by decide +kernel)
set_option maxRecDepth 30000 in
theorem q614 : Cond.code yX5_writeRule cX5_writeRule 2 none ∈ GW := inGW (List.mem_of_getElem? (i := 614) rfl) (by decide +kernel)
theorem vkX10_163 : VOK RX10 163 yX5_writeRule cX5_writeRule 2 none 1 := vok_mk q611 q612 q613 q87 q614 (by decide +kernel)
theorem q632 : Cond.methodLink RX10 171 yX4_leastWeights ∈ GW := inGW (List.mem_of_getElem? (i := 632) (by decide +kernel)) (by decide +kernel)
theorem q633 : Cond.instanceMethod yX4_leastWeights ∈ GW := inGW (List.mem_of_getElem? (i := 633) (by decide +kernel)) (by decide +kernel)
theorem q634 : Cond.selects RX4 yX4_leastWeights yX4_leastWeights ∈ GW := inGW (List.mem_of_getElem? (i := 634) (by decide +kernel)) (by decide +kernel)
theorem q89 : Cond.initialized RX4 ∈ GW := inGW (List.mem_of_getElem? (i := 89) (by decide +kernel)) (by decide +kernel)
set_option maxRecDepth 30000 in
theorem q635 : Cond.code yX4_leastWeights cX4_leastWeights 10 (some .int) ∈ GW := inGW (List.mem_of_getElem? (i := 635) rfl) (by decide +kernel)
theorem vkX10_171 : VOK RX10 171 yX4_leastWeights cX4_leastWeights 10 (some .int) 3 := vok_mk q632 q633 q634 q89 q635 (by decide +kernel)
theorem q673 : Cond.methodLink RX10 175 yX10_splitFigures ∈ GW := inGW (List.mem_of_getElem? (i := 673) (by decide +kernel)) (by decide +kernel)
theorem q675 : Cond.instanceMethod yX10_splitFigures ∈ GW := inGW (List.mem_of_getElem? (i := 675) (by decide +kernel)) (by decide +kernel)
theorem q30 : Cond.selects RX10 yX10_splitFigures yX10_splitFigures ∈ GW := inGW (List.mem_of_getElem? (i := 30) (by decide +kernel)) (by decide +kernel)
set_option maxRecDepth 30000 in
theorem q676 : Cond.code yX10_splitFigures cX10_splitFigures 4 (some .boolean) ∈ GW := inGW (List.mem_of_getElem? (i := 676) rfl) (by decide +kernel)
theorem vkX10_175 : VOK RX10 175 yX10_splitFigures cX10_splitFigures 4 (some .boolean) 1 := vok_mk q673 q675 q30 q80 q676 (by decide +kernel)
theorem q677 : Cond.methodLink RX10 178 yX4_compareSides ∈ GW := inGW (List.mem_of_getElem? (i := 677) (by decide +kernel)) (by decide +kernel)
theorem q678 : Cond.instanceMethod yX4_compareSides ∈ GW := inGW (List.mem_of_getElem? (i := 678) (by decide +kernel)) (by decide +kernel)
theorem q679 : Cond.selects RX4 yX4_compareSides yX4_compareSides ∈ GW := inGW (List.mem_of_getElem? (i := 679) (by decide +kernel)) (by decide +kernel)
set_option maxRecDepth 30000 in
theorem q680 : Cond.code yX4_compareSides cX4_compareSides 4 (some .int) ∈ GW := inGW (List.mem_of_getElem? (i := 680) rfl) (by decide +kernel)
theorem vkX10_178 : VOK RX10 178 yX4_compareSides cX4_compareSides 4 (some .int) 2 := vok_mk q677 q678 q679 q89 q680 (by decide +kernel)
theorem q685 : Cond.methodLink RX10 182 yX4_weightLeftOver ∈ GW := inGW (List.mem_of_getElem? (i := 685) (by decide +kernel)) (by decide +kernel)
theorem q686 : Cond.instanceMethod yX4_weightLeftOver ∈ GW := inGW (List.mem_of_getElem? (i := 686) (by decide +kernel)) (by decide +kernel)
theorem q687 : Cond.selects RX4 yX4_weightLeftOver yX4_weightLeftOver ∈ GW := inGW (List.mem_of_getElem? (i := 687) (by decide +kernel)) (by decide +kernel)
set_option maxRecDepth 30000 in
theorem q688 : Cond.code yX4_weightLeftOver cX4_weightLeftOver 7 (some .int) ∈ GW := inGW (List.mem_of_getElem? (i := 688) rfl) (by decide +kernel)
theorem vkX10_182 : VOK RX10 182 yX4_weightLeftOver cX4_weightLeftOver 7 (some .int) 2 := vok_mk q685 q686 q687 q89 q688 (by decide +kernel)
theorem q699 : Cond.methodLink RX10 190 yX10_weighRings ∈ GW := inGW (List.mem_of_getElem? (i := 699) (by decide +kernel)) (by decide +kernel)
theorem q701 : Cond.instanceMethod yX10_weighRings ∈ GW := inGW (List.mem_of_getElem? (i := 701) (by decide +kernel)) (by decide +kernel)
theorem q32 : Cond.selects RX10 yX10_weighRings yX10_weighRings ∈ GW := inGW (List.mem_of_getElem? (i := 32) (by decide +kernel)) (by decide +kernel)
set_option maxRecDepth 30000 in
theorem q702 : Cond.code yX10_weighRings cX10_weighRings 2 none ∈ GW := inGW (List.mem_of_getElem? (i := 702) rfl) (by decide +kernel)
theorem vkX10_190 : VOK RX10 190 yX10_weighRings cX10_weighRings 2 none 0 := vok_mk q699 q701 q32 q80 q702 (by decide +kernel)
theorem q707 : Cond.methodLink RX10 197 yX0_has ∈ GW := inGW (List.mem_of_getElem? (i := 707) (by decide +kernel)) (by decide +kernel)
theorem q708 : Cond.instanceMethod yX0_has ∈ GW := inGW (List.mem_of_getElem? (i := 708) (by decide +kernel)) (by decide +kernel)
theorem q709 : Cond.selects RX0 yX0_has yX0_has ∈ GW := inGW (List.mem_of_getElem? (i := 709) (by decide +kernel)) (by decide +kernel)
set_option maxRecDepth 30000 in
theorem q710 : Cond.code yX0_has cX0_has 2 (some .boolean) ∈ GW := inGW (List.mem_of_getElem? (i := 710) rfl) (by decide +kernel)
theorem vkX10_197 : VOK RX10 197 yX0_has cX0_has 2 (some .boolean) 1 := vok_mk q707 q708 q709 q88 q710 (by decide +kernel)
theorem q711 : Cond.methodLink RX10 203 yX0_partSize ∈ GW := inGW (List.mem_of_getElem? (i := 711) (by decide +kernel)) (by decide +kernel)
theorem q712 : Cond.instanceMethod yX0_partSize ∈ GW := inGW (List.mem_of_getElem? (i := 712) (by decide +kernel)) (by decide +kernel)
theorem q713 : Cond.selects RX0 yX0_partSize yX0_partSize ∈ GW := inGW (List.mem_of_getElem? (i := 713) (by decide +kernel)) (by decide +kernel)
set_option maxRecDepth 30000 in
theorem q714 : Cond.code yX0_partSize cX0_partSize 3 (some .int) ∈ GW := inGW (List.mem_of_getElem? (i := 714) rfl) (by decide +kernel)
theorem vkX10_203 : VOK RX10 203 yX0_partSize cX0_partSize 3 (some .int) 2 := vok_mk q711 q712 q713 q88 q714 (by decide +kernel)
theorem q732 : Cond.methodLink RX10 220 yX9_turnMany ∈ GW := inGW (List.mem_of_getElem? (i := 732) (by decide +kernel)) (by decide +kernel)
theorem q733 : Cond.instanceMethod yX9_turnMany ∈ GW := inGW (List.mem_of_getElem? (i := 733) (by decide +kernel)) (by decide +kernel)
theorem q734 : Cond.selects RX9 yX9_turnMany yX9_turnMany ∈ GW := inGW (List.mem_of_getElem? (i := 734) (by decide +kernel)) (by decide +kernel)
theorem q91 : Cond.initialized RX9 ∈ GW := inGW (List.mem_of_getElem? (i := 91) (by decide +kernel)) (by decide +kernel)
set_option maxRecDepth 30000 in
theorem q735 : Cond.code yX9_turnMany cX9_turnMany 5 (some .int) ∈ GW := inGW (List.mem_of_getElem? (i := 735) rfl) (by decide +kernel)
theorem vkX10_220 : VOK RX10 220 yX9_turnMany cX9_turnMany 5 (some .int) 3 := vok_mk q732 q733 q734 q91 q735 (by decide +kernel)
theorem q774 : Cond.methodLink RX10 224 yX9_seek ∈ GW := inGW (List.mem_of_getElem? (i := 774) (by decide +kernel)) (by decide +kernel)
theorem q737 : Cond.instanceMethod yX9_seek ∈ GW := inGW (List.mem_of_getElem? (i := 737) (by decide +kernel)) (by decide +kernel)
theorem q738 : Cond.selects RX9 yX9_seek yX9_seek ∈ GW := inGW (List.mem_of_getElem? (i := 738) (by decide +kernel)) (by decide +kernel)
set_option maxRecDepth 30000 in
theorem q739 : Cond.code yX9_seek cX9_seek 5 (some .boolean) ∈ GW := inGW (List.mem_of_getElem? (i := 739) rfl) (by decide +kernel)
theorem vkX10_224 : VOK RX10 224 yX9_seek cX9_seek 5 (some .boolean) 2 := vok_mk q774 q737 q738 q91 q739 (by decide +kernel)
theorem q787 : Cond.methodLink RX10 236 yX1_giveBack ∈ GW := inGW (List.mem_of_getElem? (i := 787) (by decide +kernel)) (by decide +kernel)
theorem q788 : Cond.instanceMethod yX1_giveBack ∈ GW := inGW (List.mem_of_getElem? (i := 788) (by decide +kernel)) (by decide +kernel)
theorem q789 : Cond.selects RX1 yX1_giveBack yX1_giveBack ∈ GW := inGW (List.mem_of_getElem? (i := 789) (by decide +kernel)) (by decide +kernel)
set_option maxRecDepth 30000 in
theorem q790 : Cond.code yX1_giveBack cX1_giveBack 2 none ∈ GW := inGW (List.mem_of_getElem? (i := 790) rfl) (by decide +kernel)
theorem vkX10_236 : VOK RX10 236 yX1_giveBack cX1_giveBack 2 none 1 := vok_mk q787 q788 q789 q85 q790 (by decide +kernel)
theorem q801 : Cond.methodLink RX10 246 yX10_told ∈ GW := inGW (List.mem_of_getElem? (i := 801) (by decide +kernel)) (by decide +kernel)
theorem q792 : Cond.instanceMethod yX10_told ∈ GW := inGW (List.mem_of_getElem? (i := 792) (by decide +kernel)) (by decide +kernel)
theorem q793 : Cond.selects RX10 yX10_told yX10_told ∈ GW := inGW (List.mem_of_getElem? (i := 793) (by decide +kernel)) (by decide +kernel)
set_option maxRecDepth 30000 in
theorem q794 : Cond.code yX10_told cX10_told 2 (some .int) ∈ GW := inGW (List.mem_of_getElem? (i := 794) rfl) (by decide +kernel)
theorem vkX10_246 : VOK RX10 246 yX10_told cX10_told 2 (some .int) 1 := vok_mk q801 q792 q793 q80 q794 (by decide +kernel)
theorem q802 : Cond.methodLink RX10 250 yX10_of ∈ GW := inGW (List.mem_of_getElem? (i := 802) (by decide +kernel)) (by decide +kernel)
theorem q551 : Cond.instanceMethod yX10_of ∈ GW := inGW (List.mem_of_getElem? (i := 551) (by decide +kernel)) (by decide +kernel)
theorem q552 : Cond.selects RX10 yX10_of yX10_of ∈ GW := inGW (List.mem_of_getElem? (i := 552) (by decide +kernel)) (by decide +kernel)
set_option maxRecDepth 30000 in
theorem q553 : Cond.code yX10_of cX10_of 4 (some .int) ∈ GW := inGW (List.mem_of_getElem? (i := 553) rfl) (by decide +kernel)
theorem vkX10_250 : VOK RX10 250 yX10_of cX10_of 4 (some .int) 2 := vok_mk q802 q551 q552 q80 q553 (by decide +kernel)
theorem q804 : Cond.methodLink RX10 255 yX10_weighs ∈ GW := inGW (List.mem_of_getElem? (i := 804) (by decide +kernel)) (by decide +kernel)
theorem q670 : Cond.instanceMethod yX10_weighs ∈ GW := inGW (List.mem_of_getElem? (i := 670) (by decide +kernel)) (by decide +kernel)
theorem q671 : Cond.selects RX10 yX10_weighs yX10_weighs ∈ GW := inGW (List.mem_of_getElem? (i := 671) (by decide +kernel)) (by decide +kernel)
set_option maxRecDepth 30000 in
theorem q672 : Cond.code yX10_weighs cX10_weighs 3 (some .int) ∈ GW := inGW (List.mem_of_getElem? (i := 672) rfl) (by decide +kernel)
theorem vkX10_255 : VOK RX10 255 yX10_weighs cX10_weighs 3 (some .int) 2 := vok_mk q804 q670 q671 q80 q672 (by decide +kernel)
theorem q805 : Cond.methodLink RX10 258 yX10_fall ∈ GW := inGW (List.mem_of_getElem? (i := 805) (by decide +kernel)) (by decide +kernel)
theorem q629 : Cond.instanceMethod yX10_fall ∈ GW := inGW (List.mem_of_getElem? (i := 629) (by decide +kernel)) (by decide +kernel)
theorem q630 : Cond.selects RX10 yX10_fall yX10_fall ∈ GW := inGW (List.mem_of_getElem? (i := 630) (by decide +kernel)) (by decide +kernel)
set_option maxRecDepth 30000 in
theorem q631 : Cond.code yX10_fall cX10_fall 1 (some .int) ∈ GW := inGW (List.mem_of_getElem? (i := 631) rfl) (by decide +kernel)
theorem vkX10_258 : VOK RX10 258 yX10_fall cX10_fall 1 (some .int) 0 := vok_mk q805 q629 q630 q80 q631 (by decide +kernel)
theorem q806 : Cond.methodLink RX10 261 yX10_calls ∈ GW := inGW (List.mem_of_getElem? (i := 806) (by decide +kernel)) (by decide +kernel)
theorem q696 : Cond.instanceMethod yX10_calls ∈ GW := inGW (List.mem_of_getElem? (i := 696) (by decide +kernel)) (by decide +kernel)
theorem q697 : Cond.selects RX10 yX10_calls yX10_calls ∈ GW := inGW (List.mem_of_getElem? (i := 697) (by decide +kernel)) (by decide +kernel)
set_option maxRecDepth 30000 in
theorem q698 : Cond.code yX10_calls cX10_calls 2 (some .int) ∈ GW := inGW (List.mem_of_getElem? (i := 698) rfl) (by decide +kernel)
theorem vkX10_261 : VOK RX10 261 yX10_calls cX10_calls 2 (some .int) 1 := vok_mk q806 q696 q697 q80 q698 (by decide +kernel)
theorem q807 : Cond.methodLink RX10 264 yX10_call ∈ GW := inGW (List.mem_of_getElem? (i := 807) (by decide +kernel)) (by decide +kernel)
theorem q704 : Cond.instanceMethod yX10_call ∈ GW := inGW (List.mem_of_getElem? (i := 704) (by decide +kernel)) (by decide +kernel)
theorem q705 : Cond.selects RX10 yX10_call yX10_call ∈ GW := inGW (List.mem_of_getElem? (i := 705) (by decide +kernel)) (by decide +kernel)
set_option maxRecDepth 30000 in
theorem q706 : Cond.code yX10_call cX10_call 3 (some .int) ∈ GW := inGW (List.mem_of_getElem? (i := 706) rfl) (by decide +kernel)
theorem vkX10_264 : VOK RX10 264 yX10_call cX10_call 3 (some .int) 2 := vok_mk q807 q704 q705 q80 q706 (by decide +kernel)
theorem q808 : Cond.methodLink RX10 267 yX10_settles ∈ GW := inGW (List.mem_of_getElem? (i := 808) (by decide +kernel)) (by decide +kernel)
theorem q771 : Cond.instanceMethod yX10_settles ∈ GW := inGW (List.mem_of_getElem? (i := 771) (by decide +kernel)) (by decide +kernel)
theorem q772 : Cond.selects RX10 yX10_settles yX10_settles ∈ GW := inGW (List.mem_of_getElem? (i := 772) (by decide +kernel)) (by decide +kernel)
set_option maxRecDepth 30000 in
theorem q773 : Cond.code yX10_settles cX10_settles 2 (some .int) ∈ GW := inGW (List.mem_of_getElem? (i := 773) rfl) (by decide +kernel)
theorem vkX10_267 : VOK RX10 267 yX10_settles cX10_settles 2 (some .int) 0 := vok_mk q808 q771 q772 q80 q773 (by decide +kernel)
theorem q809 : Cond.methodLink RX10 270 yX10_next ∈ GW := inGW (List.mem_of_getElem? (i := 809) (by decide +kernel)) (by decide +kernel)
theorem q776 : Cond.instanceMethod yX10_next ∈ GW := inGW (List.mem_of_getElem? (i := 776) (by decide +kernel)) (by decide +kernel)
theorem q777 : Cond.selects RX10 yX10_next yX10_next ∈ GW := inGW (List.mem_of_getElem? (i := 777) (by decide +kernel)) (by decide +kernel)
set_option maxRecDepth 30000 in
theorem q778 : Cond.code yX10_next cX10_next 2 (some .int) ∈ GW := inGW (List.mem_of_getElem? (i := 778) rfl) (by decide +kernel)
theorem vkX10_270 : VOK RX10 270 yX10_next cX10_next 2 (some .int) 1 := vok_mk q809 q776 q777 q80 q778 (by decide +kernel)
theorem q559 : Cond.methodLink RX10 279 yX0_fillFrom ∈ GW := inGW (List.mem_of_getElem? (i := 559) (by decide +kernel)) (by decide +kernel)
theorem q560 : Cond.instanceMethod yX0_fillFrom ∈ GW := inGW (List.mem_of_getElem? (i := 560) (by decide +kernel)) (by decide +kernel)
theorem q561 : Cond.selects RX0 yX0_fillFrom yX0_fillFrom ∈ GW := inGW (List.mem_of_getElem? (i := 561) (by decide +kernel)) (by decide +kernel)
set_option maxRecDepth 30000 in
theorem q562 : Cond.code yX0_fillFrom cX0_fillFrom 3 none ∈ GW := inGW (List.mem_of_getElem? (i := 562) rfl) (by decide +kernel)
theorem vkX10_279 : VOK RX10 279 yX0_fillFrom cX0_fillFrom 3 none 1 := vok_mk q559 q560 q561 q88 q562 (by decide +kernel)
theorem q918 : Cond.methodLink RX11 80 yX11_refuses ∈ GW := inGW (List.mem_of_getElem? (i := 918) (by decide +kernel)) (by decide +kernel)
theorem q920 : Cond.instanceMethod yX11_refuses ∈ GW := inGW (List.mem_of_getElem? (i := 920) (by decide +kernel)) (by decide +kernel)
theorem q37 : Cond.selects RX11 yX11_refuses yX11_refuses ∈ GW := inGW (List.mem_of_getElem? (i := 37) (by decide +kernel)) (by decide +kernel)
theorem q92 : Cond.initialized RX11 ∈ GW := inGW (List.mem_of_getElem? (i := 92) (by decide +kernel)) (by decide +kernel)
set_option maxRecDepth 30000 in
theorem q921 : Cond.code yX11_refuses cX11_refuses 2 (some .int) ∈ GW := inGW (List.mem_of_getElem? (i := 921) rfl) (by decide +kernel)
theorem vkX11_80 : VOK RX11 80 yX11_refuses cX11_refuses 2 (some .int) 1 := vok_mk q918 q920 q37 q92 q921 (by decide +kernel)
theorem q962 : Cond.methodLink RX11 104 yX11_wantsMore ∈ GW := inGW (List.mem_of_getElem? (i := 962) (by decide +kernel)) (by decide +kernel)
theorem q964 : Cond.instanceMethod yX11_wantsMore ∈ GW := inGW (List.mem_of_getElem? (i := 964) (by decide +kernel)) (by decide +kernel)
theorem q42 : Cond.selects RX11 yX11_wantsMore yX11_wantsMore ∈ GW := inGW (List.mem_of_getElem? (i := 42) (by decide +kernel)) (by decide +kernel)
set_option maxRecDepth 30000 in
theorem q965 : Cond.code yX11_wantsMore cX11_wantsMore 2 none ∈ GW := inGW (List.mem_of_getElem? (i := 965) rfl) (by decide +kernel)
theorem vkX11_104 : VOK RX11 104 yX11_wantsMore cX11_wantsMore 2 none 1 := vok_mk q962 q964 q42 q92 q965 (by decide +kernel)
theorem q944 : Cond.methodLink RX11 108 yX11_blanks ∈ GW := inGW (List.mem_of_getElem? (i := 944) (by decide +kernel)) (by decide +kernel)
theorem q946 : Cond.instanceMethod yX11_blanks ∈ GW := inGW (List.mem_of_getElem? (i := 946) (by decide +kernel)) (by decide +kernel)
theorem q39 : Cond.selects RX11 yX11_blanks yX11_blanks ∈ GW := inGW (List.mem_of_getElem? (i := 39) (by decide +kernel)) (by decide +kernel)
set_option maxRecDepth 30000 in
theorem q947 : Cond.code yX11_blanks cX11_blanks 1 none ∈ GW := inGW (List.mem_of_getElem? (i := 947) rfl) (by decide +kernel)
theorem vkX11_108 : VOK RX11 108 yX11_blanks cX11_blanks 1 none 0 := vok_mk q944 q946 q39 q92 q947 (by decide +kernel)
theorem q969 : Cond.methodLink RX11 114 yX11_opens ∈ GW := inGW (List.mem_of_getElem? (i := 969) (by decide +kernel)) (by decide +kernel)
theorem q971 : Cond.instanceMethod yX11_opens ∈ GW := inGW (List.mem_of_getElem? (i := 971) (by decide +kernel)) (by decide +kernel)
theorem q43 : Cond.selects RX11 yX11_opens yX11_opens ∈ GW := inGW (List.mem_of_getElem? (i := 43) (by decide +kernel)) (by decide +kernel)
set_option maxRecDepth 30000 in
theorem q972 : Cond.code yX11_opens cX11_opens 2 none ∈ GW := inGW (List.mem_of_getElem? (i := 972) rfl) (by decide +kernel)
theorem vkX11_114 : VOK RX11 114 yX11_opens cX11_opens 2 none 1 := vok_mk q969 q971 q43 q92 q972 (by decide +kernel)
theorem q958 : Cond.methodLink RX11 120 yX11_takesTerm ∈ GW := inGW (List.mem_of_getElem? (i := 958) (by decide +kernel)) (by decide +kernel)
theorem q960 : Cond.instanceMethod yX11_takesTerm ∈ GW := inGW (List.mem_of_getElem? (i := 960) (by decide +kernel)) (by decide +kernel)
theorem q41 : Cond.selects RX11 yX11_takesTerm yX11_takesTerm ∈ GW := inGW (List.mem_of_getElem? (i := 41) (by decide +kernel)) (by decide +kernel)
set_option maxRecDepth 30000 in
theorem q961 : Cond.code yX11_takesTerm cX11_takesTerm 7 (some .int) ∈ GW := inGW (List.mem_of_getElem? (i := 961) rfl) (by decide +kernel)
theorem vkX11_120 : VOK RX11 120 yX11_takesTerm cX11_takesTerm 7 (some .int) 3 := vok_mk q958 q960 q41 q92 q961 (by decide +kernel)
theorem q976 : Cond.methodLink RX11 124 yX11_takesSign ∈ GW := inGW (List.mem_of_getElem? (i := 976) (by decide +kernel)) (by decide +kernel)
theorem q978 : Cond.instanceMethod yX11_takesSign ∈ GW := inGW (List.mem_of_getElem? (i := 978) (by decide +kernel)) (by decide +kernel)
theorem q44 : Cond.selects RX11 yX11_takesSign yX11_takesSign ∈ GW := inGW (List.mem_of_getElem? (i := 44) (by decide +kernel)) (by decide +kernel)
set_option maxRecDepth 30000 in
theorem q979 : Cond.code yX11_takesSign cX11_takesSign 3 (some .boolean) ∈ GW := inGW (List.mem_of_getElem? (i := 979) rfl) (by decide +kernel)
theorem vkX11_124 : VOK RX11 124 yX11_takesSign cX11_takesSign 3 (some .boolean) 1 := vok_mk q976 q978 q44 q92 q979 (by decide +kernel)
theorem q948 : Cond.methodLink RX11 134 yX11_takesRule ∈ GW := inGW (List.mem_of_getElem? (i := 948) (by decide +kernel)) (by decide +kernel)
theorem q950 : Cond.instanceMethod yX11_takesRule ∈ GW := inGW (List.mem_of_getElem? (i := 950) (by decide +kernel)) (by decide +kernel)
theorem q40 : Cond.selects RX11 yX11_takesRule yX11_takesRule ∈ GW := inGW (List.mem_of_getElem? (i := 40) (by decide +kernel)) (by decide +kernel)
set_option maxRecDepth 30000 in
theorem q951 : Cond.code yX11_takesRule cX11_takesRule 4 (some .boolean) ∈ GW := inGW (List.mem_of_getElem? (i := 951) rfl) (by decide +kernel)
theorem vkX11_134 : VOK RX11 134 yX11_takesRule cX11_takesRule 4 (some .boolean) 0 := vok_mk q948 q950 q40 q92 q951 (by decide +kernel)
theorem q940 : Cond.methodLink RX11 138 yX11_readsRules ∈ GW := inGW (List.mem_of_getElem? (i := 940) (by decide +kernel)) (by decide +kernel)
theorem q942 : Cond.instanceMethod yX11_readsRules ∈ GW := inGW (List.mem_of_getElem? (i := 942) (by decide +kernel)) (by decide +kernel)
theorem q38 : Cond.selects RX11 yX11_readsRules yX11_readsRules ∈ GW := inGW (List.mem_of_getElem? (i := 38) (by decide +kernel)) (by decide +kernel)
set_option maxRecDepth 30000 in
theorem q943 : Cond.code yX11_readsRules cX11_readsRules 2 (some .int) ∈ GW := inGW (List.mem_of_getElem? (i := 943) rfl) (by decide +kernel)
theorem vkX11_138 : VOK RX11 138 yX11_readsRules cX11_readsRules 2 (some .int) 0 := vok_mk q940 q942 q38 q92 q943 (by decide +kernel)
theorem q986 : Cond.methodLink RX11 142 yX11_remembers ∈ GW := inGW (List.mem_of_getElem? (i := 986) (by decide +kernel)) (by decide +kernel)
theorem q988 : Cond.instanceMethod yX11_remembers ∈ GW := inGW (List.mem_of_getElem? (i := 988) (by decide +kernel)) (by decide +kernel)
theorem q45 : Cond.selects RX11 yX11_remembers yX11_remembers ∈ GW := inGW (List.mem_of_getElem? (i := 45) (by decide +kernel)) (by decide +kernel)
set_option maxRecDepth 30000 in
theorem q989 : Cond.code yX11_remembers cX11_remembers 2 none ∈ GW := inGW (List.mem_of_getElem? (i := 989) rfl) (by decide +kernel)
theorem vkX11_142 : VOK RX11 142 yX11_remembers cX11_remembers 2 none 0 := vok_mk q986 q988 q45 q92 q989 (by decide +kernel)
theorem q994 : Cond.methodLink RX11 145 yX11_readsTerm ∈ GW := inGW (List.mem_of_getElem? (i := 994) (by decide +kernel)) (by decide +kernel)
theorem q996 : Cond.instanceMethod yX11_readsTerm ∈ GW := inGW (List.mem_of_getElem? (i := 996) (by decide +kernel)) (by decide +kernel)
theorem q46 : Cond.selects RX11 yX11_readsTerm yX11_readsTerm ∈ GW := inGW (List.mem_of_getElem? (i := 46) (by decide +kernel)) (by decide +kernel)
set_option maxRecDepth 30000 in
theorem q997 : Cond.code yX11_readsTerm cX11_readsTerm 2 (some .int) ∈ GW := inGW (List.mem_of_getElem? (i := 997) rfl) (by decide +kernel)
theorem vkX11_145 : VOK RX11 145 yX11_readsTerm cX11_readsTerm 2 (some .int) 0 := vok_mk q994 q996 q46 q92 q997 (by decide +kernel)
theorem q1002 : Cond.methodLink RX11 148 yX11_isRule ∈ GW := inGW (List.mem_of_getElem? (i := 1002) (by decide +kernel)) (by decide +kernel)
theorem q1004 : Cond.instanceMethod yX11_isRule ∈ GW := inGW (List.mem_of_getElem? (i := 1004) (by decide +kernel)) (by decide +kernel)
theorem q47 : Cond.selects RX11 yX11_isRule yX11_isRule ∈ GW := inGW (List.mem_of_getElem? (i := 47) (by decide +kernel)) (by decide +kernel)
set_option maxRecDepth 30000 in
theorem q1005 : Cond.code yX11_isRule cX11_isRule 2 (some .boolean) ∈ GW := inGW (List.mem_of_getElem? (i := 1005) rfl) (by decide +kernel)
theorem vkX11_148 : VOK RX11 148 yX11_isRule cX11_isRule 2 (some .boolean) 1 := vok_mk q1002 q1004 q47 q92 q1005 (by decide +kernel)
theorem q1006 : Cond.methodLink RX11 151 yX11_movesRule ∈ GW := inGW (List.mem_of_getElem? (i := 1006) (by decide +kernel)) (by decide +kernel)
theorem q1008 : Cond.instanceMethod yX11_movesRule ∈ GW := inGW (List.mem_of_getElem? (i := 1008) (by decide +kernel)) (by decide +kernel)
theorem q48 : Cond.selects RX11 yX11_movesRule yX11_movesRule ∈ GW := inGW (List.mem_of_getElem? (i := 48) (by decide +kernel)) (by decide +kernel)
set_option maxRecDepth 30000 in
theorem q1009 : Cond.code yX11_movesRule cX11_movesRule 4 none ∈ GW := inGW (List.mem_of_getElem? (i := 1009) rfl) (by decide +kernel)
theorem vkX11_151 : VOK RX11 151 yX11_movesRule cX11_movesRule 4 none 2 := vok_mk q1006 q1008 q48 q92 q1009 (by decide +kernel)
theorem q1032 : Cond.methodLink RX11 155 yX11_heads ∈ GW := inGW (List.mem_of_getElem? (i := 1032) (by decide +kernel)) (by decide +kernel)
theorem q1034 : Cond.instanceMethod yX11_heads ∈ GW := inGW (List.mem_of_getElem? (i := 1034) (by decide +kernel)) (by decide +kernel)
theorem q51 : Cond.selects RX11 yX11_heads yX11_heads ∈ GW := inGW (List.mem_of_getElem? (i := 51) (by decide +kernel)) (by decide +kernel)
set_option maxRecDepth 30000 in
theorem q1035 : Cond.code yX11_heads cX11_heads 3 (some .int) ∈ GW := inGW (List.mem_of_getElem? (i := 1035) rfl) (by decide +kernel)
theorem vkX11_155 : VOK RX11 155 yX11_heads cX11_heads 3 (some .int) 0 := vok_mk q1032 q1034 q51 q92 q1035 (by decide +kernel)
theorem q1028 : Cond.methodLink RX11 165 yX11_isHead ∈ GW := inGW (List.mem_of_getElem? (i := 1028) (by decide +kernel)) (by decide +kernel)
theorem q1030 : Cond.instanceMethod yX11_isHead ∈ GW := inGW (List.mem_of_getElem? (i := 1030) (by decide +kernel)) (by decide +kernel)
theorem q50 : Cond.selects RX11 yX11_isHead yX11_isHead ∈ GW := inGW (List.mem_of_getElem? (i := 50) (by decide +kernel)) (by decide +kernel)
set_option maxRecDepth 30000 in
theorem q1031 : Cond.code yX11_isHead cX11_isHead 2 (some .boolean) ∈ GW := inGW (List.mem_of_getElem? (i := 1031) rfl) (by decide +kernel)
theorem vkX11_165 : VOK RX11 165 yX11_isHead cX11_isHead 2 (some .boolean) 1 := vok_mk q1028 q1030 q50 q92 q1031 (by decide +kernel)
theorem q1018 : Cond.methodLink RX11 168 yX11_ruleTold ∈ GW := inGW (List.mem_of_getElem? (i := 1018) (by decide +kernel)) (by decide +kernel)
theorem q1020 : Cond.instanceMethod yX11_ruleTold ∈ GW := inGW (List.mem_of_getElem? (i := 1020) (by decide +kernel)) (by decide +kernel)
theorem q49 : Cond.selects RX11 yX11_ruleTold yX11_ruleTold ∈ GW := inGW (List.mem_of_getElem? (i := 49) (by decide +kernel)) (by decide +kernel)
set_option maxRecDepth 30000 in
theorem q1021 : Cond.code yX11_ruleTold cX11_ruleTold 5 (some .int) ∈ GW := inGW (List.mem_of_getElem? (i := 1021) rfl) (by decide +kernel)
theorem vkX11_168 : VOK RX11 168 yX11_ruleTold cX11_ruleTold 5 (some .int) 2 := vok_mk q1018 q1020 q49 q92 q1021 (by decide +kernel)
theorem q1044 : Cond.methodLink RX11 175 yX11_writes ∈ GW := inGW (List.mem_of_getElem? (i := 1044) (by decide +kernel)) (by decide +kernel)
theorem q1046 : Cond.instanceMethod yX11_writes ∈ GW := inGW (List.mem_of_getElem? (i := 1046) (by decide +kernel)) (by decide +kernel)
theorem q53 : Cond.selects RX11 yX11_writes yX11_writes ∈ GW := inGW (List.mem_of_getElem? (i := 53) (by decide +kernel)) (by decide +kernel)
set_option maxRecDepth 30000 in
theorem q1047 : Cond.code yX11_writes cX11_writes 2 none ∈ GW := inGW (List.mem_of_getElem? (i := 1047) rfl) (by decide +kernel)
theorem vkX11_175 : VOK RX11 175 yX11_writes cX11_writes 2 none 1 := vok_mk q1044 q1046 q53 q92 q1047 (by decide +kernel)
theorem q1040 : Cond.methodLink RX11 178 yX11_writesTerm ∈ GW := inGW (List.mem_of_getElem? (i := 1040) (by decide +kernel)) (by decide +kernel)
theorem q1042 : Cond.instanceMethod yX11_writesTerm ∈ GW := inGW (List.mem_of_getElem? (i := 1042) (by decide +kernel)) (by decide +kernel)
theorem q52 : Cond.selects RX11 yX11_writesTerm yX11_writesTerm ∈ GW := inGW (List.mem_of_getElem? (i := 52) (by decide +kernel)) (by decide +kernel)
set_option maxRecDepth 30000 in
theorem q1043 : Cond.code yX11_writesTerm cX11_writesTerm 4 none ∈ GW := inGW (List.mem_of_getElem? (i := 1043) rfl) (by decide +kernel)
theorem vkX11_178 : VOK RX11 178 yX11_writesTerm cX11_writesTerm 4 none 2 := vok_mk q1040 q1042 q52 q92 q1043 (by decide +kernel)
theorem q1068 : Cond.methodLink RX11 183 yX11_weighsTerm ∈ GW := inGW (List.mem_of_getElem? (i := 1068) (by decide +kernel)) (by decide +kernel)
theorem q1070 : Cond.instanceMethod yX11_weighsTerm ∈ GW := inGW (List.mem_of_getElem? (i := 1070) (by decide +kernel)) (by decide +kernel)
theorem q58 : Cond.selects RX11 yX11_weighsTerm yX11_weighsTerm ∈ GW := inGW (List.mem_of_getElem? (i := 58) (by decide +kernel)) (by decide +kernel)
set_option maxRecDepth 30000 in
theorem q1071 : Cond.code yX11_weighsTerm cX11_weighsTerm 7 none ∈ GW := inGW (List.mem_of_getElem? (i := 1071) rfl) (by decide +kernel)
theorem vkX11_183 : VOK RX11 183 yX11_weighsTerm cX11_weighsTerm 7 none 3 := vok_mk q1068 q1070 q58 q92 q1071 (by decide +kernel)
theorem q1064 : Cond.methodLink RX11 187 yX11_compares ∈ GW := inGW (List.mem_of_getElem? (i := 1064) (by decide +kernel)) (by decide +kernel)
theorem q1066 : Cond.instanceMethod yX11_compares ∈ GW := inGW (List.mem_of_getElem? (i := 1066) (by decide +kernel)) (by decide +kernel)
theorem q57 : Cond.selects RX11 yX11_compares yX11_compares ∈ GW := inGW (List.mem_of_getElem? (i := 57) (by decide +kernel)) (by decide +kernel)
set_option maxRecDepth 30000 in
theorem q1067 : Cond.code yX11_compares cX11_compares 12 (some .int) ∈ GW := inGW (List.mem_of_getElem? (i := 1067) rfl) (by decide +kernel)
theorem vkX11_187 : VOK RX11 187 yX11_compares cX11_compares 12 (some .int) 4 := vok_mk q1064 q1066 q57 q92 q1067 (by decide +kernel)
theorem q1060 : Cond.methodLink RX11 191 yX11_comparesRule ∈ GW := inGW (List.mem_of_getElem? (i := 1060) (by decide +kernel)) (by decide +kernel)
theorem q1062 : Cond.instanceMethod yX11_comparesRule ∈ GW := inGW (List.mem_of_getElem? (i := 1062) (by decide +kernel)) (by decide +kernel)
theorem q56 : Cond.selects RX11 yX11_comparesRule yX11_comparesRule ∈ GW := inGW (List.mem_of_getElem? (i := 56) (by decide +kernel)) (by decide +kernel)
set_option maxRecDepth 30000 in
theorem q1063 : Cond.code yX11_comparesRule cX11_comparesRule 2 (some .int) ∈ GW := inGW (List.mem_of_getElem? (i := 1063) rfl) (by decide +kernel)
theorem vkX11_191 : VOK RX11 191 yX11_comparesRule cX11_comparesRule 2 (some .int) 1 := vok_mk q1060 q1062 q56 q92 q1063 (by decide +kernel)
theorem q1052 : Cond.methodLink RX11 194 yX11_laysFigures ∈ GW := inGW (List.mem_of_getElem? (i := 1052) (by decide +kernel)) (by decide +kernel)
theorem q1054 : Cond.instanceMethod yX11_laysFigures ∈ GW := inGW (List.mem_of_getElem? (i := 1054) (by decide +kernel)) (by decide +kernel)
theorem q54 : Cond.selects RX11 yX11_laysFigures yX11_laysFigures ∈ GW := inGW (List.mem_of_getElem? (i := 54) (by decide +kernel)) (by decide +kernel)
set_option maxRecDepth 30000 in
theorem q1055 : Cond.code yX11_laysFigures cX11_laysFigures 6 (some .boolean) ∈ GW := inGW (List.mem_of_getElem? (i := 1055) rfl) (by decide +kernel)
theorem vkX11_194 : VOK RX11 194 yX11_laysFigures cX11_laysFigures 6 (some .boolean) 2 := vok_mk q1052 q1054 q54 q92 q1055 (by decide +kernel)
theorem q1056 : Cond.methodLink RX11 198 yX11_areAll ∈ GW := inGW (List.mem_of_getElem? (i := 1056) (by decide +kernel)) (by decide +kernel)
theorem q1058 : Cond.instanceMethod yX11_areAll ∈ GW := inGW (List.mem_of_getElem? (i := 1058) (by decide +kernel)) (by decide +kernel)
theorem q55 : Cond.selects RX11 yX11_areAll yX11_areAll ∈ GW := inGW (List.mem_of_getElem? (i := 55) (by decide +kernel)) (by decide +kernel)
set_option maxRecDepth 30000 in
theorem q1059 : Cond.code yX11_areAll cX11_areAll 4 (some .boolean) ∈ GW := inGW (List.mem_of_getElem? (i := 1059) rfl) (by decide +kernel)
theorem vkX11_198 : VOK RX11 198 yX11_areAll cX11_areAll 4 (some .boolean) 1 := vok_mk q1056 q1058 q55 q92 q1059 (by decide +kernel)
theorem q1073 : Cond.methodLink RX11 201 yX11_numberOf ∈ GW := inGW (List.mem_of_getElem? (i := 1073) (by decide +kernel)) (by decide +kernel)
theorem q1075 : Cond.instanceMethod yX11_numberOf ∈ GW := inGW (List.mem_of_getElem? (i := 1075) (by decide +kernel)) (by decide +kernel)
theorem q59 : Cond.selects RX11 yX11_numberOf yX11_numberOf ∈ GW := inGW (List.mem_of_getElem? (i := 59) (by decide +kernel)) (by decide +kernel)
set_option maxRecDepth 30000 in
theorem q1076 : Cond.code yX11_numberOf cX11_numberOf 3 (some .int) ∈ GW := inGW (List.mem_of_getElem? (i := 1076) rfl) (by decide +kernel)
theorem vkX11_201 : VOK RX11 201 yX11_numberOf cX11_numberOf 3 (some .int) 0 := vok_mk q1073 q1075 q59 q92 q1076 (by decide +kernel)
theorem q1077 : Cond.methodLink RX11 204 yX11_goesOn ∈ GW := inGW (List.mem_of_getElem? (i := 1077) (by decide +kernel)) (by decide +kernel)
theorem q1079 : Cond.instanceMethod yX11_goesOn ∈ GW := inGW (List.mem_of_getElem? (i := 1079) (by decide +kernel)) (by decide +kernel)
theorem q60 : Cond.selects RX11 yX11_goesOn yX11_goesOn ∈ GW := inGW (List.mem_of_getElem? (i := 60) (by decide +kernel)) (by decide +kernel)
set_option maxRecDepth 30000 in
theorem q1080 : Cond.code yX11_goesOn cX11_goesOn 4 (some .boolean) ∈ GW := inGW (List.mem_of_getElem? (i := 1080) rfl) (by decide +kernel)
theorem vkX11_204 : VOK RX11 204 yX11_goesOn cX11_goesOn 4 (some .boolean) 2 := vok_mk q1077 q1079 q60 q92 q1080 (by decide +kernel)
theorem q1097 : Cond.methodLink RX11 216 yX11_mayFollow ∈ GW := inGW (List.mem_of_getElem? (i := 1097) (by decide +kernel)) (by decide +kernel)
theorem q1099 : Cond.instanceMethod yX11_mayFollow ∈ GW := inGW (List.mem_of_getElem? (i := 1099) (by decide +kernel)) (by decide +kernel)
theorem q62 : Cond.selects RX11 yX11_mayFollow yX11_mayFollow ∈ GW := inGW (List.mem_of_getElem? (i := 62) (by decide +kernel)) (by decide +kernel)
set_option maxRecDepth 30000 in
theorem q1100 : Cond.code yX11_mayFollow cX11_mayFollow 6 (some .boolean) ∈ GW := inGW (List.mem_of_getElem? (i := 1100) rfl) (by decide +kernel)
theorem vkX11_216 : VOK RX11 216 yX11_mayFollow cX11_mayFollow 6 (some .boolean) 2 := vok_mk q1097 q1099 q62 q92 q1100 (by decide +kernel)
theorem q1104 : Cond.methodLink RX11 219 yX11_laysRings ∈ GW := inGW (List.mem_of_getElem? (i := 1104) (by decide +kernel)) (by decide +kernel)
theorem q1106 : Cond.instanceMethod yX11_laysRings ∈ GW := inGW (List.mem_of_getElem? (i := 1106) (by decide +kernel)) (by decide +kernel)
theorem q63 : Cond.selects RX11 yX11_laysRings yX11_laysRings ∈ GW := inGW (List.mem_of_getElem? (i := 63) (by decide +kernel)) (by decide +kernel)
set_option maxRecDepth 30000 in
theorem q1107 : Cond.code yX11_laysRings cX11_laysRings 3 none ∈ GW := inGW (List.mem_of_getElem? (i := 1107) rfl) (by decide +kernel)
theorem vkX11_219 : VOK RX11 219 yX11_laysRings cX11_laysRings 3 none 0 := vok_mk q1104 q1106 q63 q92 q1107 (by decide +kernel)
theorem q1116 : Cond.methodLink RX11 222 yX11_isLighter ∈ GW := inGW (List.mem_of_getElem? (i := 1116) (by decide +kernel)) (by decide +kernel)
theorem q1118 : Cond.instanceMethod yX11_isLighter ∈ GW := inGW (List.mem_of_getElem? (i := 1118) (by decide +kernel)) (by decide +kernel)
theorem q66 : Cond.selects RX11 yX11_isLighter yX11_isLighter ∈ GW := inGW (List.mem_of_getElem? (i := 66) (by decide +kernel)) (by decide +kernel)
set_option maxRecDepth 30000 in
theorem q1119 : Cond.code yX11_isLighter cX11_isLighter 5 (some .boolean) ∈ GW := inGW (List.mem_of_getElem? (i := 1119) rfl) (by decide +kernel)
theorem vkX11_222 : VOK RX11 222 yX11_isLighter cX11_isLighter 5 (some .boolean) 1 := vok_mk q1116 q1118 q66 q92 q1119 (by decide +kernel)
theorem q1112 : Cond.methodLink RX11 225 yX11_lighterOf ∈ GW := inGW (List.mem_of_getElem? (i := 1112) (by decide +kernel)) (by decide +kernel)
theorem q1114 : Cond.instanceMethod yX11_lighterOf ∈ GW := inGW (List.mem_of_getElem? (i := 1114) (by decide +kernel)) (by decide +kernel)
theorem q65 : Cond.selects RX11 yX11_lighterOf yX11_lighterOf ∈ GW := inGW (List.mem_of_getElem? (i := 65) (by decide +kernel)) (by decide +kernel)
set_option maxRecDepth 30000 in
theorem q1115 : Cond.code yX11_lighterOf cX11_lighterOf 3 (some .int) ∈ GW := inGW (List.mem_of_getElem? (i := 1115) rfl) (by decide +kernel)
theorem vkX11_225 : VOK RX11 225 yX11_lighterOf cX11_lighterOf 3 (some .int) 1 := vok_mk q1112 q1114 q65 q92 q1115 (by decide +kernel)
theorem q1093 : Cond.methodLink RX11 228 yX11_laysCalls ∈ GW := inGW (List.mem_of_getElem? (i := 1093) (by decide +kernel)) (by decide +kernel)
theorem q1095 : Cond.instanceMethod yX11_laysCalls ∈ GW := inGW (List.mem_of_getElem? (i := 1095) (by decide +kernel)) (by decide +kernel)
theorem q61 : Cond.selects RX11 yX11_laysCalls yX11_laysCalls ∈ GW := inGW (List.mem_of_getElem? (i := 61) (by decide +kernel)) (by decide +kernel)
set_option maxRecDepth 30000 in
theorem q1096 : Cond.code yX11_laysCalls cX11_laysCalls 4 none ∈ GW := inGW (List.mem_of_getElem? (i := 1096) rfl) (by decide +kernel)
theorem vkX11_228 : VOK RX11 228 yX11_laysCalls cX11_laysCalls 4 none 0 := vok_mk q1093 q1095 q61 q92 q1096 (by decide +kernel)
theorem q1108 : Cond.methodLink RX11 231 yX11_callsTold ∈ GW := inGW (List.mem_of_getElem? (i := 1108) (by decide +kernel)) (by decide +kernel)
theorem q1110 : Cond.instanceMethod yX11_callsTold ∈ GW := inGW (List.mem_of_getElem? (i := 1110) (by decide +kernel)) (by decide +kernel)
theorem q64 : Cond.selects RX11 yX11_callsTold yX11_callsTold ∈ GW := inGW (List.mem_of_getElem? (i := 64) (by decide +kernel)) (by decide +kernel)
set_option maxRecDepth 30000 in
theorem q1111 : Cond.code yX11_callsTold cX11_callsTold 4 (some .int) ∈ GW := inGW (List.mem_of_getElem? (i := 1111) rfl) (by decide +kernel)
theorem vkX11_231 : VOK RX11 231 yX11_callsTold cX11_callsTold 4 (some .int) 1 := vok_mk q1108 q1110 q64 q92 q1111 (by decide +kernel)
theorem q1124 : Cond.methodLink RX11 234 yX11_callTold ∈ GW := inGW (List.mem_of_getElem? (i := 1124) (by decide +kernel)) (by decide +kernel)
theorem q1126 : Cond.instanceMethod yX11_callTold ∈ GW := inGW (List.mem_of_getElem? (i := 1126) (by decide +kernel)) (by decide +kernel)
theorem q67 : Cond.selects RX11 yX11_callTold yX11_callTold ∈ GW := inGW (List.mem_of_getElem? (i := 67) (by decide +kernel)) (by decide +kernel)
set_option maxRecDepth 30000 in
theorem q1127 : Cond.code yX11_callTold cX11_callTold 5 (some .int) ∈ GW := inGW (List.mem_of_getElem? (i := 1127) rfl) (by decide +kernel)
theorem vkX11_234 : VOK RX11 234 yX11_callTold cX11_callTold 5 (some .int) 2 := vok_mk q1124 q1126 q67 q92 q1127 (by decide +kernel)
theorem q1156 : Cond.methodLink RX11 240 yX11_binds ∈ GW := inGW (List.mem_of_getElem? (i := 1156) (by decide +kernel)) (by decide +kernel)
theorem q1158 : Cond.instanceMethod yX11_binds ∈ GW := inGW (List.mem_of_getElem? (i := 1158) (by decide +kernel)) (by decide +kernel)
theorem q72 : Cond.selects RX11 yX11_binds yX11_binds ∈ GW := inGW (List.mem_of_getElem? (i := 72) (by decide +kernel)) (by decide +kernel)
set_option maxRecDepth 30000 in
theorem q1159 : Cond.code yX11_binds cX11_binds 6 (some .boolean) ∈ GW := inGW (List.mem_of_getElem? (i := 1159) rfl) (by decide +kernel)
theorem vkX11_240 : VOK RX11 240 yX11_binds cX11_binds 6 (some .boolean) 2 := vok_mk q1156 q1158 q72 q92 q1159 (by decide +kernel)
theorem q1152 : Cond.methodLink RX11 243 yX11_fits ∈ GW := inGW (List.mem_of_getElem? (i := 1152) (by decide +kernel)) (by decide +kernel)
theorem q1154 : Cond.instanceMethod yX11_fits ∈ GW := inGW (List.mem_of_getElem? (i := 1154) (by decide +kernel)) (by decide +kernel)
theorem q71 : Cond.selects RX11 yX11_fits yX11_fits ∈ GW := inGW (List.mem_of_getElem? (i := 71) (by decide +kernel)) (by decide +kernel)
set_option maxRecDepth 30000 in
theorem q1155 : Cond.code yX11_fits cX11_fits 6 (some .boolean) ∈ GW := inGW (List.mem_of_getElem? (i := 1155) rfl) (by decide +kernel)
theorem vkX11_243 : VOK RX11 243 yX11_fits cX11_fits 6 (some .boolean) 2 := vok_mk q1152 q1154 q71 q92 q1155 (by decide +kernel)
theorem q1148 : Cond.methodLink RX11 246 yX11_ruleAt ∈ GW := inGW (List.mem_of_getElem? (i := 1148) (by decide +kernel)) (by decide +kernel)
theorem q1150 : Cond.instanceMethod yX11_ruleAt ∈ GW := inGW (List.mem_of_getElem? (i := 1150) (by decide +kernel)) (by decide +kernel)
theorem q70 : Cond.selects RX11 yX11_ruleAt yX11_ruleAt ∈ GW := inGW (List.mem_of_getElem? (i := 70) (by decide +kernel)) (by decide +kernel)
set_option maxRecDepth 30000 in
theorem q1151 : Cond.code yX11_ruleAt cX11_ruleAt 3 (some .int) ∈ GW := inGW (List.mem_of_getElem? (i := 1151) rfl) (by decide +kernel)
theorem vkX11_246 : VOK RX11 246 yX11_ruleAt cX11_ruleAt 3 (some .int) 1 := vok_mk q1148 q1150 q70 q92 q1151 (by decide +kernel)
theorem q1164 : Cond.methodLink RX11 258 yX11_makes ∈ GW := inGW (List.mem_of_getElem? (i := 1164) (by decide +kernel)) (by decide +kernel)
theorem q1166 : Cond.instanceMethod yX11_makes ∈ GW := inGW (List.mem_of_getElem? (i := 1166) (by decide +kernel)) (by decide +kernel)
theorem q74 : Cond.selects RX11 yX11_makes yX11_makes ∈ GW := inGW (List.mem_of_getElem? (i := 74) (by decide +kernel)) (by decide +kernel)
set_option maxRecDepth 30000 in
theorem q1167 : Cond.code yX11_makes cX11_makes 4 none ∈ GW := inGW (List.mem_of_getElem? (i := 1167) rfl) (by decide +kernel)
theorem vkX11_258 : VOK RX11 258 yX11_makes cX11_makes 4 none 2 := vok_mk q1164 q1166 q74 q92 q1167 (by decide +kernel)
theorem q1140 : Cond.methodLink RX11 261 yX11_laysTerm ∈ GW := inGW (List.mem_of_getElem? (i := 1140) (by decide +kernel)) (by decide +kernel)
theorem q1142 : Cond.instanceMethod yX11_laysTerm ∈ GW := inGW (List.mem_of_getElem? (i := 1142) (by decide +kernel)) (by decide +kernel)
theorem q68 : Cond.selects RX11 yX11_laysTerm yX11_laysTerm ∈ GW := inGW (List.mem_of_getElem? (i := 68) (by decide +kernel)) (by decide +kernel)
set_option maxRecDepth 30000 in
theorem q1143 : Cond.code yX11_laysTerm cX11_laysTerm 2 none ∈ GW := inGW (List.mem_of_getElem? (i := 1143) rfl) (by decide +kernel)
theorem vkX11_261 : VOK RX11 261 yX11_laysTerm cX11_laysTerm 2 none 0 := vok_mk q1140 q1142 q68 q92 q1143 (by decide +kernel)
theorem q1144 : Cond.methodLink RX11 264 yX11_findsTurn ∈ GW := inGW (List.mem_of_getElem? (i := 1144) (by decide +kernel)) (by decide +kernel)
theorem q1146 : Cond.instanceMethod yX11_findsTurn ∈ GW := inGW (List.mem_of_getElem? (i := 1146) (by decide +kernel)) (by decide +kernel)
theorem q69 : Cond.selects RX11 yX11_findsTurn yX11_findsTurn ∈ GW := inGW (List.mem_of_getElem? (i := 69) (by decide +kernel)) (by decide +kernel)
set_option maxRecDepth 30000 in
theorem q1147 : Cond.code yX11_findsTurn cX11_findsTurn 5 (some .boolean) ∈ GW := inGW (List.mem_of_getElem? (i := 1147) rfl) (by decide +kernel)
theorem vkX11_264 : VOK RX11 264 yX11_findsTurn cX11_findsTurn 5 (some .boolean) 0 := vok_mk q1144 q1146 q69 q92 q1147 (by decide +kernel)
theorem q1160 : Cond.methodLink RX11 267 yX11_doesTurn ∈ GW := inGW (List.mem_of_getElem? (i := 1160) (by decide +kernel)) (by decide +kernel)
theorem q1162 : Cond.instanceMethod yX11_doesTurn ∈ GW := inGW (List.mem_of_getElem? (i := 1162) (by decide +kernel)) (by decide +kernel)
theorem q73 : Cond.selects RX11 yX11_doesTurn yX11_doesTurn ∈ GW := inGW (List.mem_of_getElem? (i := 73) (by decide +kernel)) (by decide +kernel)
set_option maxRecDepth 30000 in
theorem q1163 : Cond.code yX11_doesTurn cX11_doesTurn 4 (some .boolean) ∈ GW := inGW (List.mem_of_getElem? (i := 1163) rfl) (by decide +kernel)
theorem vkX11_267 : VOK RX11 267 yX11_doesTurn cX11_doesTurn 4 (some .boolean) 0 := vok_mk q1160 q1162 q73 q92 q1163 (by decide +kernel)
theorem q1172 : Cond.methodLink RX11 270 yX11_settled ∈ GW := inGW (List.mem_of_getElem? (i := 1172) (by decide +kernel)) (by decide +kernel)
theorem q1174 : Cond.instanceMethod yX11_settled ∈ GW := inGW (List.mem_of_getElem? (i := 1174) (by decide +kernel)) (by decide +kernel)
theorem q75 : Cond.selects RX11 yX11_settled yX11_settled ∈ GW := inGW (List.mem_of_getElem? (i := 75) (by decide +kernel)) (by decide +kernel)
set_option maxRecDepth 30000 in
theorem q1175 : Cond.code yX11_settled cX11_settled 2 (some .int) ∈ GW := inGW (List.mem_of_getElem? (i := 1175) rfl) (by decide +kernel)
theorem vkX11_270 : VOK RX11 270 yX11_settled cX11_settled 2 (some .int) 0 := vok_mk q1172 q1174 q75 q92 q1175 (by decide +kernel)
theorem q1180 : Cond.methodLink RX11 273 yX11_nextOf ∈ GW := inGW (List.mem_of_getElem? (i := 1180) (by decide +kernel)) (by decide +kernel)
theorem q1182 : Cond.instanceMethod yX11_nextOf ∈ GW := inGW (List.mem_of_getElem? (i := 1182) (by decide +kernel)) (by decide +kernel)
theorem q76 : Cond.selects RX11 yX11_nextOf yX11_nextOf ∈ GW := inGW (List.mem_of_getElem? (i := 76) (by decide +kernel)) (by decide +kernel)
set_option maxRecDepth 30000 in
theorem q1183 : Cond.code yX11_nextOf cX11_nextOf 2 (some .int) ∈ GW := inGW (List.mem_of_getElem? (i := 1183) rfl) (by decide +kernel)
theorem vkX11_273 : VOK RX11 273 yX11_nextOf cX11_nextOf 2 (some .int) 1 := vok_mk q1180 q1182 q76 q92 q1183 (by decide +kernel)
theorem q1192 : Cond.methodLink RX11 276 yX11_toldOf ∈ GW := inGW (List.mem_of_getElem? (i := 1192) (by decide +kernel)) (by decide +kernel)
theorem q1194 : Cond.instanceMethod yX11_toldOf ∈ GW := inGW (List.mem_of_getElem? (i := 1194) (by decide +kernel)) (by decide +kernel)
theorem q77 : Cond.selects RX11 yX11_toldOf yX11_toldOf ∈ GW := inGW (List.mem_of_getElem? (i := 77) (by decide +kernel)) (by decide +kernel)
set_option maxRecDepth 30000 in
theorem q1195 : Cond.code yX11_toldOf cX11_toldOf 2 (some .int) ∈ GW := inGW (List.mem_of_getElem? (i := 1195) rfl) (by decide +kernel)
theorem vkX11_276 : VOK RX11 276 yX11_toldOf cX11_toldOf 2 (some .int) 1 := vok_mk q1192 q1194 q77 q92 q1195 (by decide +kernel)
theorem q1201 : Cond.methodLink RX11 287 yX11_mix ∈ GW := inGW (List.mem_of_getElem? (i := 1201) (by decide +kernel)) (by decide +kernel)
theorem q1203 : Cond.instanceMethod yX11_mix ∈ GW := inGW (List.mem_of_getElem? (i := 1203) (by decide +kernel)) (by decide +kernel)
theorem q78 : Cond.selects RX11 yX11_mix yX11_mix ∈ GW := inGW (List.mem_of_getElem? (i := 78) (by decide +kernel)) (by decide +kernel)
set_option maxRecDepth 30000 in
theorem q1204 : Cond.code yX11_mix cX11_mix 3 none ∈ GW := inGW (List.mem_of_getElem? (i := 1204) rfl) (by decide +kernel)
theorem vkX11_287 : VOK RX11 287 yX11_mix cX11_mix 3 none 1 := vok_mk q1201 q1203 q78 q92 q1204 (by decide +kernel)
theorem q1207 : Cond.methodLink RX11 292 yX11_fall ∈ GW := inGW (List.mem_of_getElem? (i := 1207) (by decide +kernel)) (by decide +kernel)
theorem q1049 : Cond.instanceMethod yX11_fall ∈ GW := inGW (List.mem_of_getElem? (i := 1049) (by decide +kernel)) (by decide +kernel)
theorem q1050 : Cond.selects RX11 yX11_fall yX11_fall ∈ GW := inGW (List.mem_of_getElem? (i := 1050) (by decide +kernel)) (by decide +kernel)
set_option maxRecDepth 30000 in
theorem q1051 : Cond.code yX11_fall cX11_fall 2 (some .int) ∈ GW := inGW (List.mem_of_getElem? (i := 1051) rfl) (by decide +kernel)
theorem vkX11_292 : VOK RX11 292 yX11_fall cX11_fall 2 (some .int) 0 := vok_mk q1207 q1049 q1050 q92 q1051 (by decide +kernel)
theorem q448 : Cond.methodLink RX2 34 yX2_readRule ∈ GW := inGW (List.mem_of_getElem? (i := 448) (by decide +kernel)) (by decide +kernel)
theorem q450 : Cond.instanceMethod yX2_readRule ∈ GW := inGW (List.mem_of_getElem? (i := 450) (by decide +kernel)) (by decide +kernel)
theorem q1 : Cond.selects RX2 yX2_readRule yX2_readRule ∈ GW := inGW (List.mem_of_getElem? (i := 1) (by decide +kernel)) (by decide +kernel)
set_option maxRecDepth 30000 in
theorem q451 : Cond.code yX2_readRule cX2_readRule 3 (some .boolean) ∈ GW := inGW (List.mem_of_getElem? (i := 451) rfl) (by decide +kernel)
theorem vkX2_34 : VOK RX2 34 yX2_readRule cX2_readRule 3 (some .boolean) 1 := vok_mk q448 q450 q1 q86 q451 (by decide +kernel)
theorem q460 : Cond.methodLink RX2 38 yX2_skipBlanks ∈ GW := inGW (List.mem_of_getElem? (i := 460) (by decide +kernel)) (by decide +kernel)
theorem q462 : Cond.instanceMethod yX2_skipBlanks ∈ GW := inGW (List.mem_of_getElem? (i := 462) (by decide +kernel)) (by decide +kernel)
theorem q4 : Cond.selects RX2 yX2_skipBlanks yX2_skipBlanks ∈ GW := inGW (List.mem_of_getElem? (i := 4) (by decide +kernel)) (by decide +kernel)
set_option maxRecDepth 30000 in
theorem q463 : Cond.code yX2_skipBlanks cX2_skipBlanks 1 none ∈ GW := inGW (List.mem_of_getElem? (i := 463) rfl) (by decide +kernel)
theorem vkX2_38 : VOK RX2 38 yX2_skipBlanks cX2_skipBlanks 1 none 0 := vok_mk q460 q462 q4 q86 q463 (by decide +kernel)
theorem q452 : Cond.methodLink RX2 41 yX2_readTerm ∈ GW := inGW (List.mem_of_getElem? (i := 452) (by decide +kernel)) (by decide +kernel)
theorem q454 : Cond.instanceMethod yX2_readTerm ∈ GW := inGW (List.mem_of_getElem? (i := 454) (by decide +kernel)) (by decide +kernel)
theorem q2 : Cond.selects RX2 yX2_readTerm yX2_readTerm ∈ GW := inGW (List.mem_of_getElem? (i := 2) (by decide +kernel)) (by decide +kernel)
set_option maxRecDepth 30000 in
theorem q455 : Cond.code yX2_readTerm cX2_readTerm 7 (some .boolean) ∈ GW := inGW (List.mem_of_getElem? (i := 455) rfl) (by decide +kernel)
theorem vkX2_41 : VOK RX2 41 yX2_readTerm cX2_readTerm 7 (some .boolean) 4 := vok_mk q452 q454 q2 q86 q455 (by decide +kernel)
theorem q476 : Cond.methodLink RX2 51 yX2_takes ∈ GW := inGW (List.mem_of_getElem? (i := 476) (by decide +kernel)) (by decide +kernel)
theorem q478 : Cond.instanceMethod yX2_takes ∈ GW := inGW (List.mem_of_getElem? (i := 478) (by decide +kernel)) (by decide +kernel)
theorem q6 : Cond.selects RX2 yX2_takes yX2_takes ∈ GW := inGW (List.mem_of_getElem? (i := 6) (by decide +kernel)) (by decide +kernel)
set_option maxRecDepth 30000 in
theorem q479 : Cond.code yX2_takes cX2_takes 2 (some .boolean) ∈ GW := inGW (List.mem_of_getElem? (i := 479) rfl) (by decide +kernel)
theorem vkX2_51 : VOK RX2 51 yX2_takes cX2_takes 2 (some .boolean) 1 := vok_mk q476 q478 q6 q86 q479 (by decide +kernel)
theorem q485 : Cond.methodLink RX2 55 yX8_unknowns ∈ GW := inGW (List.mem_of_getElem? (i := 485) (by decide +kernel)) (by decide +kernel)
theorem vkX2_55 : VOK RX2 55 yX8_unknowns cX8_unknowns 3 (some .int) 0 := vok_mk q485 q486 q487 q82 q488 (by decide +kernel)
theorem q456 : Cond.methodLink RX2 70 yX2_readLetter ∈ GW := inGW (List.mem_of_getElem? (i := 456) (by decide +kernel)) (by decide +kernel)
theorem q458 : Cond.instanceMethod yX2_readLetter ∈ GW := inGW (List.mem_of_getElem? (i := 458) (by decide +kernel)) (by decide +kernel)
theorem q3 : Cond.selects RX2 yX2_readLetter yX2_readLetter ∈ GW := inGW (List.mem_of_getElem? (i := 3) (by decide +kernel)) (by decide +kernel)
set_option maxRecDepth 30000 in
theorem q459 : Cond.code yX2_readLetter cX2_readLetter 4 (some .boolean) ∈ GW := inGW (List.mem_of_getElem? (i := 459) rfl) (by decide +kernel)
theorem vkX2_70 : VOK RX2 70 yX2_readLetter cX2_readLetter 4 (some .boolean) 2 := vok_mk q456 q458 q3 q86 q459 (by decide +kernel)
theorem q472 : Cond.methodLink RX2 81 yX2_opens ∈ GW := inGW (List.mem_of_getElem? (i := 472) (by decide +kernel)) (by decide +kernel)
theorem q474 : Cond.instanceMethod yX2_opens ∈ GW := inGW (List.mem_of_getElem? (i := 474) (by decide +kernel)) (by decide +kernel)
theorem q5 : Cond.selects RX2 yX2_opens yX2_opens ∈ GW := inGW (List.mem_of_getElem? (i := 5) (by decide +kernel)) (by decide +kernel)
set_option maxRecDepth 30000 in
theorem q475 : Cond.code yX2_opens cX2_opens 2 (some .boolean) ∈ GW := inGW (List.mem_of_getElem? (i := 475) rfl) (by decide +kernel)
theorem vkX2_81 : VOK RX2 81 yX2_opens cX2_opens 2 (some .boolean) 1 := vok_mk q472 q474 q5 q86 q475 (by decide +kernel)
theorem q480 : Cond.methodLink RX2 84 yX2_closes ∈ GW := inGW (List.mem_of_getElem? (i := 480) (by decide +kernel)) (by decide +kernel)
theorem q482 : Cond.instanceMethod yX2_closes ∈ GW := inGW (List.mem_of_getElem? (i := 482) (by decide +kernel)) (by decide +kernel)
theorem q7 : Cond.selects RX2 yX2_closes yX2_closes ∈ GW := inGW (List.mem_of_getElem? (i := 7) (by decide +kernel)) (by decide +kernel)
set_option maxRecDepth 30000 in
theorem q483 : Cond.code yX2_closes cX2_closes 1 (some .boolean) ∈ GW := inGW (List.mem_of_getElem? (i := 483) rfl) (by decide +kernel)
theorem vkX2_84 : VOK RX2 84 yX2_closes cX2_closes 1 (some .boolean) 0 := vok_mk q480 q482 q7 q86 q483 (by decide +kernel)
theorem q484 : Cond.methodLink RX2 88 yX8_findEnds ∈ GW := inGW (List.mem_of_getElem? (i := 484) (by decide +kernel)) (by decide +kernel)
theorem q372 : Cond.instanceMethod yX8_findEnds ∈ GW := inGW (List.mem_of_getElem? (i := 372) (by decide +kernel)) (by decide +kernel)
theorem q373 : Cond.selects RX8 yX8_findEnds yX8_findEnds ∈ GW := inGW (List.mem_of_getElem? (i := 373) (by decide +kernel)) (by decide +kernel)
set_option maxRecDepth 30000 in
theorem q374 : Cond.code yX8_findEnds cX8_findEnds 4 none ∈ GW := inGW (List.mem_of_getElem? (i := 374) rfl) (by decide +kernel)
theorem vkX2_88 : VOK RX2 88 yX8_findEnds cX8_findEnds 4 none 0 := vok_mk q484 q372 q373 q82 q374 (by decide +kernel)
theorem q470 : Cond.methodLink RX2 97 yX8_addLetter ∈ GW := inGW (List.mem_of_getElem? (i := 470) (by decide +kernel)) (by decide +kernel)
theorem q368 : Cond.instanceMethod yX8_addLetter ∈ GW := inGW (List.mem_of_getElem? (i := 368) (by decide +kernel)) (by decide +kernel)
theorem q369 : Cond.selects RX8 yX8_addLetter yX8_addLetter ∈ GW := inGW (List.mem_of_getElem? (i := 369) (by decide +kernel)) (by decide +kernel)
set_option maxRecDepth 30000 in
theorem q370 : Cond.code yX8_addLetter cX8_addLetter 2 none ∈ GW := inGW (List.mem_of_getElem? (i := 370) rfl) (by decide +kernel)
theorem vkX2_97 : VOK RX2 97 yX8_addLetter cX8_addLetter 2 none 1 := vok_mk q470 q368 q369 q82 q370 (by decide +kernel)
theorem q506 : Cond.methodLink RX3 23 yX8_copyFrom ∈ GW := inGW (List.mem_of_getElem? (i := 506) (by decide +kernel)) (by decide +kernel)
theorem vkX3_23 : VOK RX3 23 yX8_copyFrom cX8_copyFrom 2 none 1 := vok_mk q506 q507 q508 q82 q509 (by decide +kernel)
theorem q640 : Cond.methodLink RX4 34 yX6_countIn ∈ GW := inGW (List.mem_of_getElem? (i := 640) (by decide +kernel)) (by decide +kernel)
theorem q641 : Cond.instanceMethod yX6_countIn ∈ GW := inGW (List.mem_of_getElem? (i := 641) (by decide +kernel)) (by decide +kernel)
theorem q642 : Cond.selects RX6 yX6_countIn yX6_countIn ∈ GW := inGW (List.mem_of_getElem? (i := 642) (by decide +kernel)) (by decide +kernel)
theorem q90 : Cond.initialized RX6 ∈ GW := inGW (List.mem_of_getElem? (i := 90) (by decide +kernel)) (by decide +kernel)
set_option maxRecDepth 30000 in
theorem q643 : Cond.code yX6_countIn cX6_countIn 7 none ∈ GW := inGW (List.mem_of_getElem? (i := 643) rfl) (by decide +kernel)
theorem vkX4_34 : VOK RX4 34 yX6_countIn cX6_countIn 7 none 4 := vok_mk q640 q641 q642 q90 q643 (by decide +kernel)
theorem q649 : Cond.methodLink RX4 44 yX4_addRow ∈ GW := inGW (List.mem_of_getElem? (i := 649) (by decide +kernel)) (by decide +kernel)
theorem q651 : Cond.instanceMethod yX4_addRow ∈ GW := inGW (List.mem_of_getElem? (i := 651) (by decide +kernel)) (by decide +kernel)
theorem q25 : Cond.selects RX4 yX4_addRow yX4_addRow ∈ GW := inGW (List.mem_of_getElem? (i := 25) (by decide +kernel)) (by decide +kernel)
set_option maxRecDepth 30000 in
theorem q652 : Cond.code yX4_addRow cX4_addRow 6 (some .boolean) ∈ GW := inGW (List.mem_of_getElem? (i := 652) rfl) (by decide +kernel)
theorem vkX4_44 : VOK RX4 44 yX4_addRow cX4_addRow 6 (some .boolean) 2 := vok_mk q649 q651 q25 q89 q652 (by decide +kernel)
theorem q665 : Cond.methodLink RX4 48 yX4_sumOfRow ∈ GW := inGW (List.mem_of_getElem? (i := 665) (by decide +kernel)) (by decide +kernel)
theorem q667 : Cond.instanceMethod yX4_sumOfRow ∈ GW := inGW (List.mem_of_getElem? (i := 667) (by decide +kernel)) (by decide +kernel)
theorem q29 : Cond.selects RX4 yX4_sumOfRow yX4_sumOfRow ∈ GW := inGW (List.mem_of_getElem? (i := 29) (by decide +kernel)) (by decide +kernel)
set_option maxRecDepth 30000 in
theorem q668 : Cond.code yX4_sumOfRow cX4_sumOfRow 7 (some .int) ∈ GW := inGW (List.mem_of_getElem? (i := 668) rfl) (by decide +kernel)
theorem vkX4_48 : VOK RX4 48 yX4_sumOfRow cX4_sumOfRow 7 (some .int) 5 := vok_mk q665 q667 q29 q89 q668 (by decide +kernel)
theorem q690 : Cond.methodLink RX4 64 yX4_totalAt ∈ GW := inGW (List.mem_of_getElem? (i := 690) (by decide +kernel)) (by decide +kernel)
theorem q692 : Cond.instanceMethod yX4_totalAt ∈ GW := inGW (List.mem_of_getElem? (i := 692) (by decide +kernel)) (by decide +kernel)
theorem q31 : Cond.selects RX4 yX4_totalAt yX4_totalAt ∈ GW := inGW (List.mem_of_getElem? (i := 31) (by decide +kernel)) (by decide +kernel)
set_option maxRecDepth 30000 in
theorem q693 : Cond.code yX4_totalAt cX4_totalAt 3 (some .long) ∈ GW := inGW (List.mem_of_getElem? (i := 693) rfl) (by decide +kernel)
theorem vkX4_64 : VOK RX4 64 yX4_totalAt cX4_totalAt 3 (some .long) 2 := vok_mk q690 q692 q31 q89 q693 (by decide +kernel)
theorem q636 : Cond.methodLink RX4 73 yX4_fillRows ∈ GW := inGW (List.mem_of_getElem? (i := 636) (by decide +kernel)) (by decide +kernel)
theorem q638 : Cond.instanceMethod yX4_fillRows ∈ GW := inGW (List.mem_of_getElem? (i := 638) (by decide +kernel)) (by decide +kernel)
theorem q23 : Cond.selects RX4 yX4_fillRows yX4_fillRows ∈ GW := inGW (List.mem_of_getElem? (i := 23) (by decide +kernel)) (by decide +kernel)
set_option maxRecDepth 30000 in
theorem q639 : Cond.code yX4_fillRows cX4_fillRows 8 (some .boolean) ∈ GW := inGW (List.mem_of_getElem? (i := 639) rfl) (by decide +kernel)
theorem vkX4_73 : VOK RX4 73 yX4_fillRows cX4_fillRows 8 (some .boolean) 6 := vok_mk q636 q638 q23 q89 q639 (by decide +kernel)
theorem q657 : Cond.methodLink RX4 77 yX4_leastByRows ∈ GW := inGW (List.mem_of_getElem? (i := 657) (by decide +kernel)) (by decide +kernel)
theorem q659 : Cond.instanceMethod yX4_leastByRows ∈ GW := inGW (List.mem_of_getElem? (i := 659) (by decide +kernel)) (by decide +kernel)
theorem q27 : Cond.selects RX4 yX4_leastByRows yX4_leastByRows ∈ GW := inGW (List.mem_of_getElem? (i := 27) (by decide +kernel)) (by decide +kernel)
set_option maxRecDepth 30000 in
theorem q660 : Cond.code yX4_leastByRows cX4_leastByRows 9 (some .int) ∈ GW := inGW (List.mem_of_getElem? (i := 660) rfl) (by decide +kernel)
theorem vkX4_77 : VOK RX4 77 yX4_leastByRows cX4_leastByRows 9 (some .int) 3 := vok_mk q657 q659 q27 q89 q660 (by decide +kernel)
theorem q653 : Cond.methodLink RX4 90 yX4_addCallRows ∈ GW := inGW (List.mem_of_getElem? (i := 653) (by decide +kernel)) (by decide +kernel)
theorem q655 : Cond.instanceMethod yX4_addCallRows ∈ GW := inGW (List.mem_of_getElem? (i := 655) (by decide +kernel)) (by decide +kernel)
theorem q26 : Cond.selects RX4 yX4_addCallRows yX4_addCallRows ∈ GW := inGW (List.mem_of_getElem? (i := 26) (by decide +kernel)) (by decide +kernel)
set_option maxRecDepth 30000 in
theorem q656 : Cond.code yX4_addCallRows cX4_addCallRows 5 (some .boolean) ∈ GW := inGW (List.mem_of_getElem? (i := 656) rfl) (by decide +kernel)
theorem vkX4_90 : VOK RX4 90 yX4_addCallRows cX4_addCallRows 5 (some .boolean) 3 := vok_mk q653 q655 q26 q89 q656 (by decide +kernel)
theorem q661 : Cond.methodLink RX4 109 yX4_meetsRows ∈ GW := inGW (List.mem_of_getElem? (i := 661) (by decide +kernel)) (by decide +kernel)
theorem q663 : Cond.instanceMethod yX4_meetsRows ∈ GW := inGW (List.mem_of_getElem? (i := 663) (by decide +kernel)) (by decide +kernel)
theorem q28 : Cond.selects RX4 yX4_meetsRows yX4_meetsRows ∈ GW := inGW (List.mem_of_getElem? (i := 28) (by decide +kernel)) (by decide +kernel)
set_option maxRecDepth 30000 in
theorem q664 : Cond.code yX4_meetsRows cX4_meetsRows 6 (some .boolean) ∈ GW := inGW (List.mem_of_getElem? (i := 664) rfl) (by decide +kernel)
theorem vkX4_109 : VOK RX4 109 yX4_meetsRows cX4_meetsRows 6 (some .boolean) 4 := vok_mk q661 q663 q28 q89 q664 (by decide +kernel)
theorem q615 : Cond.methodLink RX5 25 yX5_writeSide ∈ GW := inGW (List.mem_of_getElem? (i := 615) (by decide +kernel)) (by decide +kernel)
theorem q617 : Cond.instanceMethod yX5_writeSide ∈ GW := inGW (List.mem_of_getElem? (i := 617) (by decide +kernel)) (by decide +kernel)
theorem q20 : Cond.selects RX5 yX5_writeSide yX5_writeSide ∈ GW := inGW (List.mem_of_getElem? (i := 20) (by decide +kernel)) (by decide +kernel)
set_option maxRecDepth 30000 in
theorem q618 : Cond.code yX5_writeSide cX5_writeSide 3 none ∈ GW := inGW (List.mem_of_getElem? (i := 618) rfl) (by decide +kernel)
theorem vkX5_25 : VOK RX5 25 yX5_writeSide cX5_writeSide 3 none 1 := vok_mk q615 q617 q20 q87 q618 (by decide +kernel)
theorem q619 : Cond.methodLink RX5 29 yX5_put ∈ GW := inGW (List.mem_of_getElem? (i := 619) (by decide +kernel)) (by decide +kernel)
theorem q621 : Cond.instanceMethod yX5_put ∈ GW := inGW (List.mem_of_getElem? (i := 621) (by decide +kernel)) (by decide +kernel)
theorem q21 : Cond.selects RX5 yX5_put yX5_put ∈ GW := inGW (List.mem_of_getElem? (i := 21) (by decide +kernel)) (by decide +kernel)
set_option maxRecDepth 30000 in
theorem q622 : Cond.code yX5_put cX5_put 2 none ∈ GW := inGW (List.mem_of_getElem? (i := 622) rfl) (by decide +kernel)
theorem vkX5_29 : VOK RX5 29 yX5_put cX5_put 2 none 1 := vok_mk q619 q621 q21 q87 q622 (by decide +kernel)
theorem q624 : Cond.methodLink RX5 46 yX5_writeBehind ∈ GW := inGW (List.mem_of_getElem? (i := 624) (by decide +kernel)) (by decide +kernel)
theorem q626 : Cond.instanceMethod yX5_writeBehind ∈ GW := inGW (List.mem_of_getElem? (i := 626) (by decide +kernel)) (by decide +kernel)
theorem q22 : Cond.selects RX5 yX5_writeBehind yX5_writeBehind ∈ GW := inGW (List.mem_of_getElem? (i := 22) (by decide +kernel)) (by decide +kernel)
set_option maxRecDepth 30000 in
theorem q627 : Cond.code yX5_writeBehind cX5_writeBehind 4 none ∈ GW := inGW (List.mem_of_getElem? (i := 627) rfl) (by decide +kernel)
theorem vkX5_46 : VOK RX5 46 yX5_writeBehind cX5_writeBehind 4 none 2 := vok_mk q624 q626 q22 q87 q627 (by decide +kernel)
theorem q645 : Cond.methodLink RX6 28 yX6_addPart ∈ GW := inGW (List.mem_of_getElem? (i := 645) (by decide +kernel)) (by decide +kernel)
theorem q647 : Cond.instanceMethod yX6_addPart ∈ GW := inGW (List.mem_of_getElem? (i := 647) (by decide +kernel)) (by decide +kernel)
theorem q24 : Cond.selects RX6 yX6_addPart yX6_addPart ∈ GW := inGW (List.mem_of_getElem? (i := 24) (by decide +kernel)) (by decide +kernel)
set_option maxRecDepth 30000 in
theorem q648 : Cond.code yX6_addPart cX6_addPart 5 none ∈ GW := inGW (List.mem_of_getElem? (i := 648) rfl) (by decide +kernel)
theorem vkX6_28 : VOK RX6 28 yX6_addPart cX6_addPart 5 none 3 := vok_mk q645 q647 q24 q90 q648 (by decide +kernel)
theorem q502 : Cond.methodLink RX7 31 yX3_copyFrom ∈ GW := inGW (List.mem_of_getElem? (i := 502) (by decide +kernel)) (by decide +kernel)
theorem q503 : Cond.instanceMethod yX3_copyFrom ∈ GW := inGW (List.mem_of_getElem? (i := 503) (by decide +kernel)) (by decide +kernel)
theorem q504 : Cond.selects RX3 yX3_copyFrom yX3_copyFrom ∈ GW := inGW (List.mem_of_getElem? (i := 504) (by decide +kernel)) (by decide +kernel)
theorem q84 : Cond.initialized RX3 ∈ GW := inGW (List.mem_of_getElem? (i := 84) (by decide +kernel)) (by decide +kernel)
set_option maxRecDepth 30000 in
theorem q505 : Cond.code yX3_copyFrom cX3_copyFrom 2 none ∈ GW := inGW (List.mem_of_getElem? (i := 505) rfl) (by decide +kernel)
theorem vkX7_31 : VOK RX7 31 yX3_copyFrom cX3_copyFrom 2 none 1 := vok_mk q502 q503 q504 q84 q505 (by decide +kernel)
theorem q516 : Cond.methodLink RX7 35 yX8_copyFrom ∈ GW := inGW (List.mem_of_getElem? (i := 516) (by decide +kernel)) (by decide +kernel)
theorem vkX7_35 : VOK RX7 35 yX8_copyFrom cX8_copyFrom 2 none 1 := vok_mk q516 q507 q508 q82 q509 (by decide +kernel)
theorem q367 : Cond.methodLink RX8 26 yX8_addLetter ∈ GW := inGW (List.mem_of_getElem? (i := 367) (by decide +kernel)) (by decide +kernel)
theorem vkX8_26 : VOK RX8 26 yX8_addLetter cX8_addLetter 2 none 1 := vok_mk q367 q368 q369 q82 q370 (by decide +kernel)
theorem q371 : Cond.methodLink RX8 30 yX8_findEnds ∈ GW := inGW (List.mem_of_getElem? (i := 371) (by decide +kernel)) (by decide +kernel)
theorem vkX8_30 : VOK RX8 30 yX8_findEnds cX8_findEnds 4 none 0 := vok_mk q371 q372 q373 q82 q374 (by decide +kernel)
theorem q736 : Cond.methodLink RX9 24 yX9_seek ∈ GW := inGW (List.mem_of_getElem? (i := 736) (by decide +kernel)) (by decide +kernel)
theorem vkX9_24 : VOK RX9 24 yX9_seek cX9_seek 5 (some .boolean) 2 := vok_mk q736 q737 q738 q91 q739 (by decide +kernel)
theorem q753 : Cond.methodLink RX9 38 yX9_build ∈ GW := inGW (List.mem_of_getElem? (i := 753) (by decide +kernel)) (by decide +kernel)
theorem q755 : Cond.instanceMethod yX9_build ∈ GW := inGW (List.mem_of_getElem? (i := 755) (by decide +kernel)) (by decide +kernel)
theorem q35 : Cond.selects RX9 yX9_build yX9_build ∈ GW := inGW (List.mem_of_getElem? (i := 35) (by decide +kernel)) (by decide +kernel)
set_option maxRecDepth 30000 in
theorem q756 : Cond.code yX9_build cX9_build 5 (some .boolean) ∈ GW := inGW (List.mem_of_getElem? (i := 756) rfl) (by decide +kernel)
theorem vkX9_38 : VOK RX9 38 yX9_build cX9_build 5 (some .boolean) 2 := vok_mk q753 q755 q35 q91 q756 (by decide +kernel)
theorem q769 : Cond.methodLink RX9 42 yX8_copyFrom ∈ GW := inGW (List.mem_of_getElem? (i := 769) (by decide +kernel)) (by decide +kernel)
theorem vkX9_42 : VOK RX9 42 yX8_copyFrom cX8_copyFrom 2 none 1 := vok_mk q769 q507 q508 q82 q509 (by decide +kernel)
theorem q740 : Cond.methodLink RX9 55 yX9_leastRuleAt ∈ GW := inGW (List.mem_of_getElem? (i := 740) (by decide +kernel)) (by decide +kernel)
theorem q742 : Cond.instanceMethod yX9_leastRuleAt ∈ GW := inGW (List.mem_of_getElem? (i := 742) (by decide +kernel)) (by decide +kernel)
theorem q33 : Cond.selects RX9 yX9_leastRuleAt yX9_leastRuleAt ∈ GW := inGW (List.mem_of_getElem? (i := 33) (by decide +kernel)) (by decide +kernel)
set_option maxRecDepth 30000 in
theorem q743 : Cond.code yX9_leastRuleAt cX9_leastRuleAt 5 (some .int) ∈ GW := inGW (List.mem_of_getElem? (i := 743) rfl) (by decide +kernel)
theorem vkX9_55 : VOK RX9 55 yX9_leastRuleAt cX9_leastRuleAt 5 (some .int) 3 := vok_mk q740 q742 q33 q91 q743 (by decide +kernel)
theorem q744 : Cond.methodLink RX9 67 yX9_fits ∈ GW := inGW (List.mem_of_getElem? (i := 744) (by decide +kernel)) (by decide +kernel)
theorem q746 : Cond.instanceMethod yX9_fits ∈ GW := inGW (List.mem_of_getElem? (i := 746) (by decide +kernel)) (by decide +kernel)
theorem q34 : Cond.selects RX9 yX9_fits yX9_fits ∈ GW := inGW (List.mem_of_getElem? (i := 34) (by decide +kernel)) (by decide +kernel)
set_option maxRecDepth 30000 in
theorem q747 : Cond.code yX9_fits cX9_fits 8 (some .boolean) ∈ GW := inGW (List.mem_of_getElem? (i := 747) rfl) (by decide +kernel)
theorem vkX9_67 : VOK RX9 67 yX9_fits cX9_fits 8 (some .boolean) 3 := vok_mk q744 q746 q34 q91 q747 (by decide +kernel)
theorem q749 : Cond.methodLink RX9 78 yX8_sameParts ∈ GW := inGW (List.mem_of_getElem? (i := 749) (by decide +kernel)) (by decide +kernel)
theorem q750 : Cond.instanceMethod yX8_sameParts ∈ GW := inGW (List.mem_of_getElem? (i := 750) (by decide +kernel)) (by decide +kernel)
theorem q751 : Cond.selects RX8 yX8_sameParts yX8_sameParts ∈ GW := inGW (List.mem_of_getElem? (i := 751) (by decide +kernel)) (by decide +kernel)
set_option maxRecDepth 30000 in
theorem q752 : Cond.code yX8_sameParts cX8_sameParts 5 (some .boolean) ∈ GW := inGW (List.mem_of_getElem? (i := 752) rfl) (by decide +kernel)
theorem vkX9_78 : VOK RX9 78 yX8_sameParts cX8_sameParts 5 (some .boolean) 2 := vok_mk q749 q750 q751 q82 q752 (by decide +kernel)
theorem q757 : Cond.methodLink RX9 85 yX9_sizeBehind ∈ GW := inGW (List.mem_of_getElem? (i := 757) (by decide +kernel)) (by decide +kernel)
theorem q759 : Cond.instanceMethod yX9_sizeBehind ∈ GW := inGW (List.mem_of_getElem? (i := 759) (by decide +kernel)) (by decide +kernel)
theorem q36 : Cond.selects RX9 yX9_sizeBehind yX9_sizeBehind ∈ GW := inGW (List.mem_of_getElem? (i := 36) (by decide +kernel)) (by decide +kernel)
set_option maxRecDepth 30000 in
theorem q760 : Cond.code yX9_sizeBehind cX9_sizeBehind 6 (some .int) ∈ GW := inGW (List.mem_of_getElem? (i := 760) rfl) (by decide +kernel)
theorem vkX9_85 : VOK RX9 85 yX9_sizeBehind cX9_sizeBehind 6 (some .int) 2 := vok_mk q757 q759 q36 q91 q760 (by decide +kernel)
theorem q762 : Cond.methodLink RX9 89 yX8_addLetter ∈ GW := inGW (List.mem_of_getElem? (i := 762) (by decide +kernel)) (by decide +kernel)
theorem vkX9_89 : VOK RX9 89 yX8_addLetter cX8_addLetter 2 none 1 := vok_mk q762 q368 q369 q82 q370 (by decide +kernel)
theorem q764 : Cond.methodLink RX9 96 yX8_addPart ∈ GW := inGW (List.mem_of_getElem? (i := 764) (by decide +kernel)) (by decide +kernel)
theorem q765 : Cond.instanceMethod yX8_addPart ∈ GW := inGW (List.mem_of_getElem? (i := 765) (by decide +kernel)) (by decide +kernel)
theorem q766 : Cond.selects RX8 yX8_addPart yX8_addPart ∈ GW := inGW (List.mem_of_getElem? (i := 766) (by decide +kernel)) (by decide +kernel)
set_option maxRecDepth 30000 in
theorem q767 : Cond.code yX8_addPart cX8_addPart 5 none ∈ GW := inGW (List.mem_of_getElem? (i := 767) rfl) (by decide +kernel)
theorem vkX9_96 : VOK RX9 96 yX8_addPart cX8_addPart 5 none 2 := vok_mk q764 q765 q766 q82 q767 (by decide +kernel)
theorem q768 : Cond.methodLink RX9 100 yX8_findEnds ∈ GW := inGW (List.mem_of_getElem? (i := 768) (by decide +kernel)) (by decide +kernel)
theorem vkX9_100 : VOK RX9 100 yX8_findEnds cX8_findEnds 4 none 0 := vok_mk q768 q372 q373 q82 q374 (by decide +kernel)
theorem q761 : Cond.methodLink RX9 103 yX8_partSize ∈ GW := inGW (List.mem_of_getElem? (i := 761) (by decide +kernel)) (by decide +kernel)
theorem vkX9_103 : VOK RX9 103 yX8_partSize cX8_partSize 2 (some .int) 1 := vok_mk q761 q716 q717 q82 q718 (by decide +kernel)
theorem q601 : Cond.methodLink RX10 157 yJ13_bitCount_95d88 ∈ GW := inGW (List.mem_of_getElem? (i := 601) (by decide +kernel)) (by decide +kernel)
theorem q602 : Cond.static yJ13_bitCount_95d88 ∈ GW := inGW (List.mem_of_getElem? (i := 602) (by decide +kernel)) (by decide +kernel)
theorem q94 : Cond.initialized RJ13 ∈ GW := inGW (List.mem_of_getElem? (i := 94) (by decide +kernel)) (by decide +kernel)
set_option maxRecDepth 30000 in
theorem q603 : Cond.code yJ13_bitCount_95d88 cJ13_bitCount_95d88 2 (some .int) ∈ GW := inGW (List.mem_of_getElem? (i := 603) rfl) (by decide +kernel)
theorem skX10_157 : SOK RX10 157 yJ13_bitCount_95d88 cJ13_bitCount_95d88 2 (some .int) 1 := sok_mk q601 q602 q94 q603 (by decide +kernel)
theorem q723 : Cond.methodLink RX10 213 yX10_hasBit ∈ GW := inGW (List.mem_of_getElem? (i := 723) (by decide +kernel)) (by decide +kernel)
theorem q591 : Cond.static yX10_hasBit ∈ GW := inGW (List.mem_of_getElem? (i := 591) (by decide +kernel)) (by decide +kernel)
set_option maxRecDepth 30000 in
theorem q592 : Cond.code yX10_hasBit cX10_hasBit 3 (some .boolean) ∈ GW := inGW (List.mem_of_getElem? (i := 592) rfl) (by decide +kernel)
theorem skX10_213 : SOK RX10 213 yX10_hasBit cX10_hasBit 3 (some .boolean) 2 := sok_mk q723 q591 q80 q592 (by decide +kernel)
theorem q922 : Cond.methodLink RX11 76 yX11_copies ∈ GW := inGW (List.mem_of_getElem? (i := 922) (by decide +kernel)) (by decide +kernel)
theorem q923 : Cond.static yX11_copies ∈ GW := inGW (List.mem_of_getElem? (i := 923) (by decide +kernel)) (by decide +kernel)
set_option maxRecDepth 30000 in
theorem q924 : Cond.code yX11_copies cX11_copies 5 none ∈ GW := inGW (List.mem_of_getElem? (i := 924) rfl) (by decide +kernel)
theorem skX11_76 : SOK RX11 76 yX11_copies cX11_copies 5 none 4 := sok_mk q922 q923 q92 q924 (by decide +kernel)
theorem q973 : Cond.methodLink RX11 84 yX11_wants ∈ GW := inGW (List.mem_of_getElem? (i := 973) (by decide +kernel)) (by decide +kernel)
theorem q974 : Cond.static yX11_wants ∈ GW := inGW (List.mem_of_getElem? (i := 974) (by decide +kernel)) (by decide +kernel)
set_option maxRecDepth 30000 in
theorem q975 : Cond.code yX11_wants cX11_wants 1 (some .int) ∈ GW := inGW (List.mem_of_getElem? (i := 975) rfl) (by decide +kernel)
theorem skX11_84 : SOK RX11 84 yX11_wants cX11_wants 1 (some .int) 1 := sok_mk q973 q974 q92 q975 (by decide +kernel)
theorem q929 : Cond.methodLink RX11 96 yX11_in ∈ GW := inGW (List.mem_of_getElem? (i := 929) (by decide +kernel)) (by decide +kernel)
theorem q930 : Cond.static yX11_in ∈ GW := inGW (List.mem_of_getElem? (i := 930) (by decide +kernel)) (by decide +kernel)
set_option maxRecDepth 30000 in
theorem q931 : Cond.code yX11_in cX11_in 3 (some .boolean) ∈ GW := inGW (List.mem_of_getElem? (i := 931) rfl) (by decide +kernel)
theorem skX11_96 : SOK RX11 96 yX11_in cX11_in 3 (some .boolean) 3 := sok_mk q929 q930 q92 q931 (by decide +kernel)
theorem q952 : Cond.methodLink RX11 100 yX11_isUnknown ∈ GW := inGW (List.mem_of_getElem? (i := 952) (by decide +kernel)) (by decide +kernel)
theorem q953 : Cond.static yX11_isUnknown ∈ GW := inGW (List.mem_of_getElem? (i := 953) (by decide +kernel)) (by decide +kernel)
set_option maxRecDepth 30000 in
theorem q954 : Cond.code yX11_isUnknown cX11_isUnknown 1 (some .boolean) ∈ GW := inGW (List.mem_of_getElem? (i := 954) rfl) (by decide +kernel)
theorem skX11_100 : SOK RX11 100 yX11_isUnknown cX11_isUnknown 1 (some .boolean) 1 := sok_mk q952 q953 q92 q954 (by decide +kernel)
theorem q966 : Cond.methodLink RX11 111 yX11_isLetter ∈ GW := inGW (List.mem_of_getElem? (i := 966) (by decide +kernel)) (by decide +kernel)
theorem q967 : Cond.static yX11_isLetter ∈ GW := inGW (List.mem_of_getElem? (i := 967) (by decide +kernel)) (by decide +kernel)
set_option maxRecDepth 30000 in
theorem q968 : Cond.code yX11_isLetter cX11_isLetter 1 (some .boolean) ∈ GW := inGW (List.mem_of_getElem? (i := 968) rfl) (by decide +kernel)
theorem skX11_111 : SOK RX11 111 yX11_isLetter cX11_isLetter 1 (some .boolean) 1 := sok_mk q966 q967 q92 q968 (by decide +kernel)
theorem q955 : Cond.methodLink RX11 117 yX11_leftOf ∈ GW := inGW (List.mem_of_getElem? (i := 955) (by decide +kernel)) (by decide +kernel)
theorem q956 : Cond.static yX11_leftOf ∈ GW := inGW (List.mem_of_getElem? (i := 956) (by decide +kernel)) (by decide +kernel)
set_option maxRecDepth 30000 in
theorem q957 : Cond.code yX11_leftOf cX11_leftOf 1 (some .int) ∈ GW := inGW (List.mem_of_getElem? (i := 957) rfl) (by decide +kernel)
theorem skX11_117 : SOK RX11 117 yX11_leftOf cX11_leftOf 1 (some .int) 1 := sok_mk q955 q956 q92 q957 (by decide +kernel)
theorem q980 : Cond.methodLink RX11 127 yX11_rightOf ∈ GW := inGW (List.mem_of_getElem? (i := 980) (by decide +kernel)) (by decide +kernel)
theorem q981 : Cond.static yX11_rightOf ∈ GW := inGW (List.mem_of_getElem? (i := 981) (by decide +kernel)) (by decide +kernel)
set_option maxRecDepth 30000 in
theorem q982 : Cond.code yX11_rightOf cX11_rightOf 1 (some .int) ∈ GW := inGW (List.mem_of_getElem? (i := 982) rfl) (by decide +kernel)
theorem skX11_127 : SOK RX11 127 yX11_rightOf cX11_rightOf 1 (some .int) 1 := sok_mk q980 q981 q92 q982 (by decide +kernel)
theorem q983 : Cond.methodLink RX11 130 yX11_unknowns ∈ GW := inGW (List.mem_of_getElem? (i := 983) (by decide +kernel)) (by decide +kernel)
theorem q984 : Cond.static yX11_unknowns ∈ GW := inGW (List.mem_of_getElem? (i := 984) (by decide +kernel)) (by decide +kernel)
set_option maxRecDepth 30000 in
theorem q985 : Cond.code yX11_unknowns cX11_unknowns 5 (some .int) ∈ GW := inGW (List.mem_of_getElem? (i := 985) rfl) (by decide +kernel)
theorem skX11_130 : SOK RX11 130 yX11_unknowns cX11_unknowns 5 (some .int) 3 := sok_mk q983 q984 q92 q985 (by decide +kernel)
theorem q1022 : Cond.methodLink RX11 158 yX11_leftLong ∈ GW := inGW (List.mem_of_getElem? (i := 1022) (by decide +kernel)) (by decide +kernel)
theorem q1023 : Cond.static yX11_leftLong ∈ GW := inGW (List.mem_of_getElem? (i := 1023) (by decide +kernel)) (by decide +kernel)
set_option maxRecDepth 30000 in
theorem q1024 : Cond.code yX11_leftLong cX11_leftLong 2 (some .int) ∈ GW := inGW (List.mem_of_getElem? (i := 1024) rfl) (by decide +kernel)
theorem skX11_158 : SOK RX11 158 yX11_leftLong cX11_leftLong 2 (some .int) 2 := sok_mk q1022 q1023 q92 q1024 (by decide +kernel)
theorem q1025 : Cond.methodLink RX11 162 yX11_rightLong ∈ GW := inGW (List.mem_of_getElem? (i := 1025) (by decide +kernel)) (by decide +kernel)
theorem q1026 : Cond.static yX11_rightLong ∈ GW := inGW (List.mem_of_getElem? (i := 1026) (by decide +kernel)) (by decide +kernel)
set_option maxRecDepth 30000 in
theorem q1027 : Cond.code yX11_rightLong cX11_rightLong 2 (some .int) ∈ GW := inGW (List.mem_of_getElem? (i := 1027) rfl) (by decide +kernel)
theorem skX11_162 : SOK RX11 162 yX11_rightLong cX11_rightLong 2 (some .int) 2 := sok_mk q1025 q1026 q92 q1027 (by decide +kernel)
theorem q1101 : Cond.methodLink RX11 207 yX11_longAt ∈ GW := inGW (List.mem_of_getElem? (i := 1101) (by decide +kernel)) (by decide +kernel)
theorem q1102 : Cond.static yX11_longAt ∈ GW := inGW (List.mem_of_getElem? (i := 1102) (by decide +kernel)) (by decide +kernel)
set_option maxRecDepth 30000 in
theorem q1103 : Cond.code yX11_longAt cX11_longAt 4 (some .int) ∈ GW := inGW (List.mem_of_getElem? (i := 1103) rfl) (by decide +kernel)
theorem skX11_207 : SOK RX11 207 yX11_longAt cX11_longAt 4 (some .int) 2 := sok_mk q1101 q1102 q92 q1103 (by decide +kernel)
theorem q584 : Cond.static yX10_isUnknown ∈ GW := inGW (List.mem_of_getElem? (i := 584) (by decide +kernel)) (by decide +kernel)
set_option maxRecDepth 30000 in
theorem q585 : Cond.code yX10_isUnknown cX10_isUnknown 1 (some .boolean) ∈ GW := inGW (List.mem_of_getElem? (i := 585) rfl) (by decide +kernel)
theorem nkX0_97 : NOK RX0 97 yX10_isUnknown cX10_isUnknown 1 (some .boolean) 1 := ⟨List.mem_of_getElem? (i := 12) rfl, q584, q80, q585, by decide +kernel⟩
theorem nkX0_100 : NOK RX0 100 yX10_hasBit cX10_hasBit 3 (some .boolean) 2 := ⟨List.mem_of_getElem? (i := 13) rfl, q591, q80, q592, by decide +kernel⟩
theorem q376 : Cond.static yX10_partsBehind ∈ GW := inGW (List.mem_of_getElem? (i := 376) (by decide +kernel)) (by decide +kernel)
set_option maxRecDepth 30000 in
theorem q377 : Cond.code yX10_partsBehind cX10_partsBehind 1 (some .int) ∈ GW := inGW (List.mem_of_getElem? (i := 377) rfl) (by decide +kernel)
theorem nkX2_77 : NOK RX2 77 yX10_partsBehind cX10_partsBehind 1 (some .int) 1 := ⟨List.mem_of_getElem? (i := 10) rfl, q376, q80, q377, by decide +kernel⟩
theorem q465 : Cond.static yX10_slotOf ∈ GW := inGW (List.mem_of_getElem? (i := 465) (by decide +kernel)) (by decide +kernel)
set_option maxRecDepth 30000 in
theorem q466 : Cond.code yX10_slotOf cX10_slotOf 1 (some .int) ∈ GW := inGW (List.mem_of_getElem? (i := 466) rfl) (by decide +kernel)
theorem nkX2_91 : NOK RX2 91 yX10_slotOf cX10_slotOf 1 (some .int) 1 := ⟨List.mem_of_getElem? (i := 8) rfl, q465, q80, q466, by decide +kernel⟩
theorem q468 : Cond.static yX10_unknownBit ∈ GW := inGW (List.mem_of_getElem? (i := 468) (by decide +kernel)) (by decide +kernel)
set_option maxRecDepth 30000 in
theorem q469 : Cond.code yX10_unknownBit cX10_unknownBit 1 (some .int) ∈ GW := inGW (List.mem_of_getElem? (i := 469) rfl) (by decide +kernel)
theorem nkX2_94 : NOK RX2 94 yX10_unknownBit cX10_unknownBit 1 (some .int) 1 := ⟨List.mem_of_getElem? (i := 9) rfl, q468, q80, q469, by decide +kernel⟩
theorem nkX4_60 : NOK RX4 60 yX10_slotOf cX10_slotOf 1 (some .int) 1 := ⟨List.mem_of_getElem? (i := 16) rfl, q465, q80, q466, by decide +kernel⟩
theorem nkX5_42 : NOK RX5 42 yX10_partsBehind cX10_partsBehind 1 (some .int) 1 := ⟨List.mem_of_getElem? (i := 14) rfl, q376, q80, q377, by decide +kernel⟩
theorem nkX6_24 : NOK RX6 24 yX10_slotOf cX10_slotOf 1 (some .int) 1 := ⟨List.mem_of_getElem? (i := 15) rfl, q465, q80, q466, by decide +kernel⟩
theorem nkX8_33 : NOK RX8 33 yX10_partsBehind cX10_partsBehind 1 (some .int) 1 := ⟨List.mem_of_getElem? (i := 7) rfl, q376, q80, q377, by decide +kernel⟩
theorem nkX8_48 : NOK RX8 48 yX10_unknownBit cX10_unknownBit 1 (some .int) 1 := ⟨List.mem_of_getElem? (i := 11) rfl, q468, q80, q469, by decide +kernel⟩
theorem nkX9_74 : NOK RX9 74 yX10_unknownBit cX10_unknownBit 1 (some .int) 1 := ⟨List.mem_of_getElem? (i := 17) rfl, q468, q80, q469, by decide +kernel⟩
theorem nkX9_92 : NOK RX9 92 yX10_isUnknown cX10_isUnknown 1 (some .boolean) 1 := ⟨List.mem_of_getElem? (i := 18) rfl, q584, q80, q585, by decide +kernel⟩
theorem q510 : Cond.methodLink RX8 39 Lib.Math.min.name ∈ GW := inGW (List.mem_of_getElem? (i := 510) (by decide +kernel)) (by decide +kernel)
theorem q511 : Cond.static Lib.Math.min.name ∈ GW := inGW (List.mem_of_getElem? (i := 511) (by decide +kernel)) (by decide +kernel)
theorem q83 : Cond.initialized "java/lang/Math" ∈ GW := inGW (List.mem_of_getElem? (i := 83) (by decide +kernel)) (by decide +kernel)
set_option maxRecDepth 30000 in
theorem q512 : Cond.code Lib.Math.min.name Lib.Math.min.code 2 (some .int) ∈ GW := inGW (List.mem_of_getElem? (i := 512) rfl) (by decide +kernel)
theorem mkX8_39 : Cond.methodLink RX8 39 Lib.Math.min.name ∈ GW ∧ Cond.static Lib.Math.min.name ∈ GW ∧ Cond.initialized "java/lang/Math" ∈ GW ∧ Cond.code Lib.Math.min.name Lib.Math.min.code 2 (some .int) ∈ GW := ⟨q510, q511, q83, q512⟩
theorem q513 : Cond.methodLink RX8 42 arraycopyName ∈ GW := inGW (List.mem_of_getElem? (i := 513) (by decide +kernel)) (by decide +kernel)
theorem akX8_42 : Cond.methodLink RX8 42 arraycopyName ∈ GW := q513
theorem q515 : Cond.native arraycopyName ∈ GW := inGW (List.mem_of_getElem? (i := 515) (by decide +kernel)) (by decide +kernel)
theorem q514 : Cond.static arraycopyName ∈ GW := inGW (List.mem_of_getElem? (i := 514) (by decide +kernel)) (by decide +kernel)
theorem q93 : Cond.initialized "java/lang/System" ∈ GW := inGW (List.mem_of_getElem? (i := 93) (by decide +kernel)) (by decide +kernel)
theorem akw : Cond.native arraycopyName ∈ GW ∧ Cond.static arraycopyName ∈ GW ∧ Cond.initialized "java/lang/System" ∈ GW := ⟨q515, q514, q93⟩
theorem cwJ13_314 : Cond.constantLong RJ13 314 (6148914691236517205) ∈ GW := inGW (List.mem_of_getElem? (i := 604) (by decide +kernel)) (by decide +kernel)
theorem cwJ13_316 : Cond.constantLong RJ13 316 (3689348814741910323) ∈ GW := inGW (List.mem_of_getElem? (i := 605) (by decide +kernel)) (by decide +kernel)
theorem cwJ13_318 : Cond.constantLong RJ13 318 (1085102592571150095) ∈ GW := inGW (List.mem_of_getElem? (i := 606) (by decide +kernel)) (by decide +kernel)
theorem cwX4_71 : Cond.constantLong RX4 71 (1000000007) ∈ GW := inGW (List.mem_of_getElem? (i := 694) (by decide +kernel)) (by decide +kernel)
theorem cwX10_242 : Cond.constantLong RX10 242 (2609) ∈ GW := inGW (List.mem_of_getElem? (i := 799) (by decide +kernel)) (by decide +kernel)
theorem cwX10_244 : Cond.constantLong RX10 244 (31) ∈ GW := inGW (List.mem_of_getElem? (i := 800) (by decide +kernel)) (by decide +kernel)
theorem cwX10_254 : Cond.constant RX10 254 (1111111) ∈ GW := inGW (List.mem_of_getElem? (i := 803) (by decide +kernel)) (by decide +kernel)
theorem cwX11_181 : Cond.constantLong RX11 181 (1000000007) ∈ GW := inGW (List.mem_of_getElem? (i := 1072) (by decide +kernel)) (by decide +kernel)
theorem cwX11_285 : Cond.constantLong RX11 285 (2609) ∈ GW := inGW (List.mem_of_getElem? (i := 1200) (by decide +kernel)) (by decide +kernel)
theorem cwX11_279 : Cond.constantLong RX11 279 (31) ∈ GW := inGW (List.mem_of_getElem? (i := 1205) (by decide +kernel)) (by decide +kernel)
theorem cwX11_291 : Cond.constant RX11 291 (1111111) ∈ GW := inGW (List.mem_of_getElem? (i := 1206) (by decide +kernel)) (by decide +kernel)
