def rmX10_calls : Room := { frames := 5, cells := 0, slots := 0, locals := 129 }
set_option maxHeartbeats 4000000 in
set_option maxRecDepth 100000 in
theorem k_X10_calls (l : Launch) (D : va_G) (ce : Nat → ClassId) (b : Nat) (I : mI) (L : mL) (R : mR) (hT : WT kdC R) (x0 : Nat) (x1 : Int32) (h0 : kdC x0 = 16) (o1 : Int32) (o2 : mI) (o3 : mL) (hf : f_X10_calls x0 x1 I L R = some (o1, o2, o3)) : Met l yX10_calls (Cond.code yX10_calls cX10_calls 2 (some .int) :: GW) rmX10_calls (va_Pc [.ref (b + x0), .int x1] (PW D ce b kdC lnC 272 I L R)) (va_Qi (fun r u => r = o1 ∧ u = (o2, o3, R)) (QW D ce b kdC lnC 272) (box b 272)) 0 0 (box b 272) := by
  refine Met.ofW (cc := cX10_calls) (maxL := 2) (ret := (some .int)) (by decide) rfl ?_
  intro p e s m args below meth c s₁ B hml hv
  obtain ⟨rfl, hP, hKK⟩ := hv
  have hx := B.exec
  have hb := B.bytes
  have hr := B.returns
  have hts0 := atoms_spec (ws := Cond.code yX10_calls cX10_calls 2 (some .int) :: GW) B.pre
  have hts : ∀ w ∈ GW, w.before _ s = true := fun w h => hts0 w (List.mem_cons_of_mem _ h)
  clear hts0
  have hown : s.vm.findClass RX10 = some m.cls := findClass_of_methodNamed B.named
  have hlocks := B.notSynchronized
  have hA : ∀ q, box b 272 q → box b 272 q := fun _ h => h
  have hS : va_S (box b 272) s.heap s.heap [] := va_S.rf
  have hl := lv_entry ([.ref (b + x0), .int x1]) (n := 2) (Nat.le_of_ble_eq_true rfl)
  rw [lg_entry_eq]
  generalize (lg_sl ([.ref (b + x0), .int x1]) ++ List.replicate (2 - (lg_sl ([.ref (b + x0), .int x1])).length) Slot.unset).toArray = ls at hl ⊢
  have hl : lv_has ls 2 [(0, .ref (b + x0)), (1, .int x1)] := hl
  generalize ([.ref (b + x0), .int x1] : List Value).toArray = av at hts ⊢
  show W p l e rmX10_calls s m av below meth c s.heap [] 0 0 _ _
  obtain ⟨QQ, hQQ⟩ : ∃ z, z = MQ below (va_Qi (fun r u => r = o1 ∧ u = (o2, o3, R)) (QW D ce b kdC lnC 272) (box b 272)) av s 0 0 (box b 272) := ⟨_, rfl⟩
  rw [← hQQ]
  have hret : ∀ (r : Int32) (I1 : mI) (L1 : mL), some (r, I1, L1) = some (o1, o2, o3) → ∀ (H1 : Heap) (locs1 : List Loc) (ls1 : Array Slot) (pc1 : Nat), decode cX10_calls pc1 = .ok (.ireturn, 1) → va_P D vwCl (wd ce b kdC lnC 272 I1 L1 R) H1 → WT kdC R → va_S (box b 272) s.heap H1 locs1 → W p l e rmX10_calls s m av below meth c H1 locs1 0 0 QQ (F0 m pc1 ls1 [.int r]) := by
    intro r I1 L1 hq H1 locs1 ls1 pc1 hd hP hT hS
    cases hq
    rw [hQQ]
    exact mm_iret hx hb hr hlocks hP hT hS hd
  unfold f_X10_calls at hf
  obtain ⟨H, hH⟩ : ∃ z, z = s.heap := ⟨_, rfl⟩
  obtain ⟨locs, hlo⟩ : ∃ z : List Loc, z = [] := ⟨_, rfl⟩
  have hP : va_P D vwCl (wd ce b kdC lnC 272 I L R) H := by rw [hH]; exact hP
  have hS : va_S (box b 272) s.heap H locs := by rw [hH, hlo]; exact hS
  rw [show W p l e rmX10_calls s m av below meth c s.heap [] 0 0 QQ = W p l e rmX10_calls s m av below meth c H locs 0 0 QQ by rw [hH, hlo]]
  clear hH hlo
  clear hQQ
  show W p l e rmX10_calls s m av below meth c H locs 0 0 QQ (F0 m 0 ls [])
  refine lv_iload_n hx hb dX10_calls_0 rfl (lv_at hl 1 rfl) ?_
  refine jnE hf (fun j9_1 ej_1 hf => ?_)
  have hJ9_1 : ∀ (H : Heap) (locs : List Loc) (ls : Array Slot), va_P D vwCl (wd ce b kdC lnC 272 I L R) H → va_S (box b 272) s.heap H locs → lv_has ls 2 [(0, .ref (b + x0))] → j9_1  = some (o1, o2, o3) → W p l e rmX10_calls s m av below meth c H locs 0 0 QQ (F0 m 9 ls []) := by
    intro  H locs ls hP hS  hl hf
    rw [ej_1] at hf
    try dsimp only at hf
    refine lv_aload_n hx hb dX10_calls_9 rfl (lv_at hl 0 rfl) ?_
    obtain ⟨r2, I2, e2, hf⟩ := bd2_o hf
    refine mm_Vi (rest := []) hx hb hml hown hts hKK hP hS hA (kdC_lt h0 (Nat.succ_ne_zero _)) h0 (show vwCl[10]? = some (yX10_refuseBad.cls, TX10, 15) from rfl) vkX10_81 (k_X10_refuseBad l D ce b I L R hT x0 h0 r2 I2 e2) rfl hl.1 rfl (Nat.le_of_ble_eq_true rfl) ⟨rfl, rfl⟩ ⟨Nat.le_of_ble_eq_true rfl, Nat.le_of_ble_eq_true rfl⟩ ⟨Nat.zero_le _, Nat.zero_le _⟩ dX10_calls_10 (fun H locs hP hT hS => ?_)
    exact hret r2 I2 L hf H locs ls _ dX10_calls_13 hP hT hS
  clear ej_1
  refine lv_if_lt (tgt := 9) hx hb dX10_calls_1 (by decide) (fun c3 => ?_) (fun c3 => ?_)
  · have hf := ifT hf c3
    exact hJ9_1  H locs ls hP hS  (lv_sub hl [0] rfl) hf
  · have hf := ifF hf c3
    refine lv_iload_n hx hb dX10_calls_4 rfl (lv_at hl 1 rfl) ?_
    refine lv_iconst (v := (2 : Int32)) hx hb dX10_calls_5 (by decide) ?_
    refine lv_icmp_le (tgt := 14) hx hb dX10_calls_6 (by decide) (fun c4 => ?_) (fun c4 => ?_)
    · have hf := ifT hf c4
      refine lv_aload_n hx hb dX10_calls_14 rfl (lv_at hl 0 rfl) ?_
      obtain ⟨I5, L5, e5, hf⟩ := bd2_o hf
      refine mm_Vv (rest := []) hx hb hml hown hts hKK hP hS hA (kdC_lt h0 (Nat.succ_ne_zero _)) h0 (show vwCl[10]? = some (yX10_keepBookRight.cls, TX10, 15) from rfl) vkX10_150 (k_X10_keepBookRight l D ce b I L R hT x0 h0 I5 L5 e5) rfl hl.1 rfl (Nat.le_of_ble_eq_true rfl) ⟨rfl, rfl⟩ ⟨Nat.le_of_ble_eq_true rfl, Nat.le_of_ble_eq_true rfl⟩ ⟨Nat.zero_le _, Nat.zero_le _⟩ dX10_calls_15 (fun H locs hP hT hS => ?_)
      refine lv_iload_n hx hb dX10_calls_18 rfl (lv_at hl 1 rfl) ?_
      refine lv_if_ne (tgt := 30) hx hb dX10_calls_19 (by decide) (fun c6 => ?_) (fun c6 => ?_)
      · have hf := ifF hf c6
        refine lv_iload_n hx hb dX10_calls_30 rfl (lv_at hl 1 rfl) ?_
        refine lv_iconst (v := (1 : Int32)) hx hb dX10_calls_31 (by decide) ?_
        refine lv_icmp_ne (tgt := 43) hx hb dX10_calls_32 (by decide) (fun c7 => ?_) (fun c7 => ?_)
        · have hf := ifF hf c7
          refine lv_aload_n hx hb dX10_calls_43 rfl (lv_at hl 0 rfl) ?_
          obtain ⟨I8, e8, hf⟩ := bd1_o hf
          refine mm_Vv (rest := []) hx hb hml hown hts hKK hP hS hA (kdC_lt h0 (Nat.succ_ne_zero _)) h0 (show vwCl[10]? = some (yX10_weighRings.cls, TX10, 15) from rfl) vkX10_190 (k_X10_weighRings l D ce b I5 L5 R hT x0 h0 I8 e8) rfl hl.1 rfl (Nat.le_of_ble_eq_true rfl) ⟨rfl, rfl⟩ ⟨Nat.le_of_ble_eq_true rfl, Nat.le_of_ble_eq_true rfl⟩ ⟨Nat.zero_le _, Nat.zero_le _⟩ dX10_calls_44 (fun H locs hP hT hS => ?_)
          refine lv_aload_n hx hb dX10_calls_47 rfl (lv_at hl 0 rfl) ?_
          have t9 : kdC (R x0 4) = 6 := wt hT h0 rfl
          refine mm_getr hx hb hts hown hKK hP fk10_4 (Nat.le_of_ble_eq_true rfl) lkX10_40 (kdC_lt h0 (Nat.succ_ne_zero _)) h0 (nC t9 (Nat.succ_ne_zero _)) dX10_calls_48 ?_
          refine mm_geti hx hb hts hown hKK hP fk0_10 (Or.inr rfl) lkX10_193 (kdC_lt t9 (Nat.succ_ne_zero _)) t9 dX10_calls_51 ?_
          refine lv_if_eq (tgt := 61) hx hb dX10_calls_54 (by decide) (fun c10 => ?_) (fun c10 => ?_)
          · have hf := ifT hf c10
            refine lv_iconst (v := (0 : Int32)) hx hb dX10_calls_61 (by decide) ?_
            exact hret (0 : Int32) I8 L5 hf H locs ls _ dX10_calls_62 hP hT hS
          · have hf := ifF hf c10
            refine lv_iconst (v := (1 : Int32)) hx hb dX10_calls_57 (by decide) ?_
            refine lv_goto (tgt := 62) hx hb dX10_calls_58 (by decide) ?_
            exact hret (1 : Int32) I8 L5 hf H locs ls _ dX10_calls_62 hP hT hS
        · have hf := ifT hf c7
          refine lv_aload_n hx hb dX10_calls_35 rfl (lv_at hl 0 rfl) ?_
          have t11 : kdC (R x0 4) = 6 := wt hT h0 rfl
          refine mm_getr hx hb hts hown hKK hP fk10_4 (Nat.le_of_ble_eq_true rfl) lkX10_40 (kdC_lt h0 (Nat.succ_ne_zero _)) h0 (nC t11 (Nat.succ_ne_zero _)) dX10_calls_36 ?_
          refine mm_geti hx hb hts hown hKK hP fk0_9 (Or.inl rfl) lkX10_187 (kdC_lt t11 (Nat.succ_ne_zero _)) t11 dX10_calls_39 ?_
          exact hret (I5 (R x0 4) 9) I5 L5 hf H locs ls _ dX10_calls_42 hP hT hS
      · have hf := ifT hf c6
        refine lv_aload_n hx hb dX10_calls_22 rfl (lv_at hl 0 rfl) ?_
        have t12 : kdC (R x0 4) = 6 := wt hT h0 rfl
        refine mm_getr hx hb hts hown hKK hP fk10_4 (Nat.le_of_ble_eq_true rfl) lkX10_40 (kdC_lt h0 (Nat.succ_ne_zero _)) h0 (nC t12 (Nat.succ_ne_zero _)) dX10_calls_23 ?_
        refine mm_geti hx hb hts hown hKK hP fk0_8 (Or.inl rfl) lkX10_186 (kdC_lt t12 (Nat.succ_ne_zero _)) t12 dX10_calls_26 ?_
        exact hret (I5 (R x0 4) 8) I5 L5 hf H locs ls _ dX10_calls_29 hP hT hS
    · have hf := ifF hf c4
      exact hJ9_1  H locs ls hP hS  (lv_sub hl [0] rfl) hf
def rmX0_has : Room := { frames := 0, cells := 0, slots := 0, locals := 0 }
set_option maxHeartbeats 4000000 in
set_option maxRecDepth 100000 in
theorem k_X0_has (l : Launch) (D : va_G) (ce : Nat → ClassId) (b : Nat) (I : mI) (L : mL) (R : mR) (hT : WT kdC R) (x0 : Nat) (x1 : Int32) (h0 : kdC x0 = 6) (o1 : Int32) (hf : f_X0_has x0 x1 I = some o1) : Met l yX0_has (Cond.code yX0_has cX0_has 2 (some .boolean) :: GW) rmX0_has (va_Pc [.ref (b + x0), .int x1] (PW D ce b kdC lnC 272 I L R)) (va_Qi (fun r u => r = o1 ∧ u = (I, L, R)) (QW D ce b kdC lnC 272) (box b 272)) 0 0 (box b 272) := by
  refine Met.ofW (cc := cX0_has) (maxL := 2) (ret := (some .boolean)) (by decide) rfl ?_
  intro p e s m args below meth c s₁ B hml hv
  obtain ⟨rfl, hP, hKK⟩ := hv
  have hx := B.exec
  have hb := B.bytes
  have hr := B.returns
  have hts0 := atoms_spec (ws := Cond.code yX0_has cX0_has 2 (some .boolean) :: GW) B.pre
  have hts : ∀ w ∈ GW, w.before _ s = true := fun w h => hts0 w (List.mem_cons_of_mem _ h)
  clear hts0
  have hown : s.vm.findClass RX0 = some m.cls := findClass_of_methodNamed B.named
  have hlocks := B.notSynchronized
  have hA : ∀ q, box b 272 q → box b 272 q := fun _ h => h
  have hS : va_S (box b 272) s.heap s.heap [] := va_S.rf
  have hl := lv_entry ([.ref (b + x0), .int x1]) (n := 2) (Nat.le_of_ble_eq_true rfl)
  rw [lg_entry_eq]
  generalize (lg_sl ([.ref (b + x0), .int x1]) ++ List.replicate (2 - (lg_sl ([.ref (b + x0), .int x1])).length) Slot.unset).toArray = ls at hl ⊢
  have hl : lv_has ls 2 [(0, .ref (b + x0)), (1, .int x1)] := hl
  generalize ([.ref (b + x0), .int x1] : List Value).toArray = av at hts ⊢
  show W p l e rmX0_has s m av below meth c s.heap [] 0 0 _ _
  obtain ⟨QQ, hQQ⟩ : ∃ z, z = MQ below (va_Qi (fun r u => r = o1 ∧ u = (I, L, R)) (QW D ce b kdC lnC 272) (box b 272)) av s 0 0 (box b 272) := ⟨_, rfl⟩
  rw [← hQQ]
  have hret : ∀ (r : Int32), some r = some o1 → ∀ (H1 : Heap) (locs1 : List Loc) (ls1 : Array Slot) (pc1 : Nat), decode cX0_has pc1 = .ok (.ireturn, 1) → zb r = true → va_P D vwCl (wd ce b kdC lnC 272 I L R) H1 → WT kdC R → va_S (box b 272) s.heap H1 locs1 → W p l e rmX0_has s m av below meth c H1 locs1 0 0 QQ (F0 m pc1 ls1 [.int r]) := by
    intro r hq H1 locs1 ls1 pc1 hd hz hP hT hS
    cases hq
    rw [hQQ]
    exact mm_zret hx hb hr hlocks hz hP hT hS hd
  unfold f_X0_has at hf
  obtain ⟨H, hH⟩ : ∃ z, z = s.heap := ⟨_, rfl⟩
  obtain ⟨locs, hlo⟩ : ∃ z : List Loc, z = [] := ⟨_, rfl⟩
  have hP : va_P D vwCl (wd ce b kdC lnC 272 I L R) H := by rw [hH]; exact hP
  have hS : va_S (box b 272) s.heap H locs := by rw [hH, hlo]; exact hS
  rw [show W p l e rmX0_has s m av below meth c s.heap [] 0 0 QQ = W p l e rmX0_has s m av below meth c H locs 0 0 QQ by rw [hH, hlo]]
  clear hH hlo
  clear hQQ
  show W p l e rmX0_has s m av below meth c H locs 0 0 QQ (F0 m 0 ls [])
  refine lv_iload_n hx hb dX0_has_0 rfl (lv_at hl 1 rfl) ?_
  refine jnE hf (fun j16_1 ej_1 hf => ?_)
  have hJ16_1 : ∀ (H : Heap) (locs : List Loc) (ls : Array Slot), va_P D vwCl (wd ce b kdC lnC 272 I L R) H → va_S (box b 272) s.heap H locs → lv_has ls 2 [] → j16_1  = some o1 → W p l e rmX0_has s m av below meth c H locs 0 0 QQ (F0 m 16 ls []) := by
    intro  H locs ls hP hS  hl hf
    rw [ej_1] at hf
    try dsimp only at hf
    refine lv_iconst (v := (0 : Int32)) hx hb dX0_has_16 (by decide) ?_
    exact hret (0 : Int32) hf H locs ls _ dX0_has_17 rfl hP hT hS
  clear ej_1
  refine lv_if_lt (tgt := 16) hx hb dX0_has_1 (by decide) (fun c2 => ?_) (fun c2 => ?_)
  · have hf := ifT hf c2
    exact hJ16_1  H locs ls hP hS  (lv_sub hl [] rfl) hf
  · have hf := ifF hf c2
    refine lv_iload_n hx hb dX0_has_4 rfl (lv_at hl 1 rfl) ?_
    refine lv_aload_n hx hb dX0_has_5 rfl (lv_at hl 0 rfl) ?_
    refine mm_geti hx hb hts hown hKK hP fk0_8 (Or.inl rfl) lkX0_34 (kdC_lt h0 (Nat.succ_ne_zero _)) h0 dX0_has_6 ?_
    refine lv_icmp_ge (tgt := 16) hx hb dX0_has_9 (by decide) (fun c3 => ?_) (fun c3 => ?_)
    · have hf := ifT hf c3
      exact hJ16_1  H locs ls hP hS  (lv_sub hl [] rfl) hf
    · have hf := ifF hf c3
      refine lv_iconst (v := (1 : Int32)) hx hb dX0_has_12 (by decide) ?_
      refine lv_goto (tgt := 17) hx hb dX0_has_13 (by decide) ?_
      exact hret (1 : Int32) hf H locs ls _ dX0_has_17 rfl hP hT hS
def rmX8_partSize : Room := { frames := 0, cells := 0, slots := 0, locals := 0 }
set_option maxHeartbeats 4000000 in
set_option maxRecDepth 100000 in
theorem k_X8_partSize (l : Launch) (D : va_G) (ce : Nat → ClassId) (b : Nat) (I : mI) (L : mL) (R : mR) (hT : WT kdC R) (x0 : Nat) (x1 : Int32) (h0 : kdC x0 = 14) (o1 : Int32) (hf : f_X8_partSize x0 x1 I R = some o1) : Met l yX8_partSize (Cond.code yX8_partSize cX8_partSize 2 (some .int) :: GW) rmX8_partSize (va_Pc [.ref (b + x0), .int x1] (PW D ce b kdC lnC 272 I L R)) (va_Qi (fun r u => r = o1 ∧ u = (I, L, R)) (QW D ce b kdC lnC 272) (box b 272)) 0 0 (box b 272) := by
  refine Met.ofW (cc := cX8_partSize) (maxL := 2) (ret := (some .int)) (by decide) rfl ?_
  intro p e s m args below meth c s₁ B hml hv
  obtain ⟨rfl, hP, hKK⟩ := hv
  have hx := B.exec
  have hb := B.bytes
  have hr := B.returns
  have hts0 := atoms_spec (ws := Cond.code yX8_partSize cX8_partSize 2 (some .int) :: GW) B.pre
  have hts : ∀ w ∈ GW, w.before _ s = true := fun w h => hts0 w (List.mem_cons_of_mem _ h)
  clear hts0
  have hown : s.vm.findClass RX8 = some m.cls := findClass_of_methodNamed B.named
  have hlocks := B.notSynchronized
  have hA : ∀ q, box b 272 q → box b 272 q := fun _ h => h
  have hS : va_S (box b 272) s.heap s.heap [] := va_S.rf
  have hl := lv_entry ([.ref (b + x0), .int x1]) (n := 2) (Nat.le_of_ble_eq_true rfl)
  rw [lg_entry_eq]
  generalize (lg_sl ([.ref (b + x0), .int x1]) ++ List.replicate (2 - (lg_sl ([.ref (b + x0), .int x1])).length) Slot.unset).toArray = ls at hl ⊢
  have hl : lv_has ls 2 [(0, .ref (b + x0)), (1, .int x1)] := hl
  generalize ([.ref (b + x0), .int x1] : List Value).toArray = av at hts ⊢
  show W p l e rmX8_partSize s m av below meth c s.heap [] 0 0 _ _
  obtain ⟨QQ, hQQ⟩ : ∃ z, z = MQ below (va_Qi (fun r u => r = o1 ∧ u = (I, L, R)) (QW D ce b kdC lnC 272) (box b 272)) av s 0 0 (box b 272) := ⟨_, rfl⟩
  rw [← hQQ]
  have hret : ∀ (r : Int32), some r = some o1 → ∀ (H1 : Heap) (locs1 : List Loc) (ls1 : Array Slot) (pc1 : Nat), decode cX8_partSize pc1 = .ok (.ireturn, 1) → va_P D vwCl (wd ce b kdC lnC 272 I L R) H1 → WT kdC R → va_S (box b 272) s.heap H1 locs1 → W p l e rmX8_partSize s m av below meth c H1 locs1 0 0 QQ (F0 m pc1 ls1 [.int r]) := by
    intro r hq H1 locs1 ls1 pc1 hd hP hT hS
    cases hq
    rw [hQQ]
    exact mm_iret hx hb hr hlocks hP hT hS hd
  unfold f_X8_partSize at hf
  obtain ⟨H, hH⟩ : ∃ z, z = s.heap := ⟨_, rfl⟩
  obtain ⟨locs, hlo⟩ : ∃ z : List Loc, z = [] := ⟨_, rfl⟩
  have hP : va_P D vwCl (wd ce b kdC lnC 272 I L R) H := by rw [hH]; exact hP
  have hS : va_S (box b 272) s.heap H locs := by rw [hH, hlo]; exact hS
  rw [show W p l e rmX8_partSize s m av below meth c s.heap [] 0 0 QQ = W p l e rmX8_partSize s m av below meth c H locs 0 0 QQ by rw [hH, hlo]]
  clear hH hlo
  clear hQQ
  show W p l e rmX8_partSize s m av below meth c H locs 0 0 QQ (F0 m 0 ls [])
  refine lv_iload_n hx hb dX8_partSize_0 rfl (lv_at hl 1 rfl) ?_
  refine jnE hf (fun j23_1 ej_1 hf => ?_)
  have hJ23_1 : ∀ (H : Heap) (locs : List Loc) (ls : Array Slot), va_P D vwCl (wd ce b kdC lnC 272 I L R) H → va_S (box b 272) s.heap H locs → lv_has ls 2 [] → j23_1  = some o1 → W p l e rmX8_partSize s m av below meth c H locs 0 0 QQ (F0 m 23 ls []) := by
    intro  H locs ls hP hS  hl hf
    rw [ej_1] at hf
    try dsimp only at hf
    refine lv_iconst (v := (0 : Int32)) hx hb dX8_partSize_23 (by decide) ?_
    exact hret (0 : Int32) hf H locs ls _ dX8_partSize_24 hP hT hS
  clear ej_1
  refine lv_if_lt (tgt := 23) hx hb dX8_partSize_1 (by decide) (fun c2 => ?_) (fun c2 => ?_)
  · have hf := ifT hf c2
    exact hJ23_1  H locs ls hP hS  (lv_sub hl [] rfl) hf
  · have hf := ifF hf c2
    refine lv_iload_n hx hb dX8_partSize_4 rfl (lv_at hl 1 rfl) ?_
    refine lv_aload_n hx hb dX8_partSize_5 rfl (lv_at hl 0 rfl) ?_
    refine mm_geti hx hb hts hown hKK hP fk8_2 (Or.inl rfl) lkX8_22 (kdC_lt h0 (Nat.succ_ne_zero _)) h0 dX8_partSize_6 ?_
    refine lv_icmp_ge (tgt := 23) hx hb dX8_partSize_9 (by decide) (fun c3 => ?_) (fun c3 => ?_)
    · have hf := ifT hf c3
      exact hJ23_1  H locs ls hP hS  (lv_sub hl [] rfl) hf
    · have hf := ifF hf c3
      refine lv_aload_n hx hb dX8_partSize_12 rfl (lv_at hl 0 rfl) ?_
      have t4 : kdC (R x0 1) = 1 := wt hT h0 rfl
      refine mm_getr hx hb hts hown hKK hP fk8_1 (Nat.le_of_ble_eq_true rfl) lkX8_19 (kdC_lt h0 (Nat.succ_ne_zero _)) h0 (nC t4 (Nat.succ_ne_zero _)) dX8_partSize_13 ?_
      refine lv_iload_n hx hb dX8_partSize_16 rfl (lv_at hl 1 rfl) ?_
      obtain ⟨g5, hf⟩ := grd hf
      refine mm_iald hx hb hKK hP (kdC_lt t4 (Nat.succ_ne_zero _)) t4 g5 dX8_partSize_17 ?_
      refine lv_iload_n hx hb dX8_partSize_18 rfl (lv_at hl 1 rfl) ?_
      refine lv_isub hx hb dX8_partSize_19 ?_
      refine lv_goto (tgt := 24) hx hb dX8_partSize_20 (by decide) ?_
      exact hret ((I (R x0 1) x1.toNatClampNeg) - x1) hf H locs ls _ dX8_partSize_24 hP hT hS
def rmX0_partSize : Room := { frames := 1, cells := 0, slots := 0, locals := 21 }
set_option maxHeartbeats 4000000 in
set_option maxRecDepth 100000 in
theorem k_X0_partSize (l : Launch) (D : va_G) (ce : Nat → ClassId) (b : Nat) (I : mI) (L : mL) (R : mR) (hT : WT kdC R) (x0 : Nat) (x1 : Nat) (x2 : Int32) (h0 : kdC x0 = 6) (h1 : kdC x1 = 13) (o1 : Int32) (hf : f_X0_partSize x0 x1 x2 I R = some o1) : Met l yX0_partSize (Cond.code yX0_partSize cX0_partSize 3 (some .int) :: GW) rmX0_partSize (va_Pc [.ref (b + x0), .ref (b + x1), .int x2] (PW D ce b kdC lnC 272 I L R)) (va_Qi (fun r u => r = o1 ∧ u = (I, L, R)) (QW D ce b kdC lnC 272) (box b 272)) 0 0 (box b 272) := by
  refine Met.ofW (cc := cX0_partSize) (maxL := 3) (ret := (some .int)) (by decide) rfl ?_
  intro p e s m args below meth c s₁ B hml hv
  obtain ⟨rfl, hP, hKK⟩ := hv
  have hx := B.exec
  have hb := B.bytes
  have hr := B.returns
  have hts0 := atoms_spec (ws := Cond.code yX0_partSize cX0_partSize 3 (some .int) :: GW) B.pre
  have hts : ∀ w ∈ GW, w.before _ s = true := fun w h => hts0 w (List.mem_cons_of_mem _ h)
  clear hts0
  have hown : s.vm.findClass RX0 = some m.cls := findClass_of_methodNamed B.named
  have hlocks := B.notSynchronized
  have hA : ∀ q, box b 272 q → box b 272 q := fun _ h => h
  have hS : va_S (box b 272) s.heap s.heap [] := va_S.rf
  have hl := lv_entry ([.ref (b + x0), .ref (b + x1), .int x2]) (n := 3) (Nat.le_of_ble_eq_true rfl)
  rw [lg_entry_eq]
  generalize (lg_sl ([.ref (b + x0), .ref (b + x1), .int x2]) ++ List.replicate (3 - (lg_sl ([.ref (b + x0), .ref (b + x1), .int x2])).length) Slot.unset).toArray = ls at hl ⊢
  have hl : lv_has ls 3 [(0, .ref (b + x0)), (1, .ref (b + x1)), (2, .int x2)] := hl
  generalize ([.ref (b + x0), .ref (b + x1), .int x2] : List Value).toArray = av at hts ⊢
  show W p l e rmX0_partSize s m av below meth c s.heap [] 0 0 _ _
  obtain ⟨QQ, hQQ⟩ : ∃ z, z = MQ below (va_Qi (fun r u => r = o1 ∧ u = (I, L, R)) (QW D ce b kdC lnC 272) (box b 272)) av s 0 0 (box b 272) := ⟨_, rfl⟩
  rw [← hQQ]
  have hret : ∀ (r : Int32), some r = some o1 → ∀ (H1 : Heap) (locs1 : List Loc) (ls1 : Array Slot) (pc1 : Nat), decode cX0_partSize pc1 = .ok (.ireturn, 1) → va_P D vwCl (wd ce b kdC lnC 272 I L R) H1 → WT kdC R → va_S (box b 272) s.heap H1 locs1 → W p l e rmX0_partSize s m av below meth c H1 locs1 0 0 QQ (F0 m pc1 ls1 [.int r]) := by
    intro r hq H1 locs1 ls1 pc1 hd hP hT hS
    cases hq
    rw [hQQ]
    exact mm_iret hx hb hr hlocks hP hT hS hd
  unfold f_X0_partSize at hf
  obtain ⟨H, hH⟩ : ∃ z, z = s.heap := ⟨_, rfl⟩
  obtain ⟨locs, hlo⟩ : ∃ z : List Loc, z = [] := ⟨_, rfl⟩
  have hP : va_P D vwCl (wd ce b kdC lnC 272 I L R) H := by rw [hH]; exact hP
  have hS : va_S (box b 272) s.heap H locs := by rw [hH, hlo]; exact hS
  rw [show W p l e rmX0_partSize s m av below meth c s.heap [] 0 0 QQ = W p l e rmX0_partSize s m av below meth c H locs 0 0 QQ by rw [hH, hlo]]
  clear hH hlo
  clear hQQ
  show W p l e rmX0_partSize s m av below meth c H locs 0 0 QQ (F0 m 0 ls [])
  refine lv_aload_n hx hb dX0_partSize_0 rfl (lv_at hl 1 rfl) ?_
  have t1 : kdC (R x1 0) = 4 := wt hT h1 rfl
  refine mm_getr hx hb hts hown hKK hP fk7_0 (Nat.le_of_ble_eq_true rfl) lkX0_38 (kdC_lt h1 (Nat.succ_ne_zero _)) h1 (nC t1 (Nat.succ_ne_zero _)) dX0_partSize_1 ?_
  refine lv_aload_n hx hb dX0_partSize_4 rfl (lv_at hl 0 rfl) ?_
  have t2 : kdC (R x0 0) = 1 := wt hT h0 rfl
  refine mm_getr hx hb hts hown hKK hP fk0_0 (Nat.le_of_ble_eq_true rfl) lkX0_9 (kdC_lt h0 (Nat.succ_ne_zero _)) h0 (nC t2 (Nat.succ_ne_zero _)) dX0_partSize_5 ?_
  refine lv_iload_n hx hb dX0_partSize_8 rfl (lv_at hl 2 rfl) ?_
  obtain ⟨g3, hf⟩ := grd hf
  refine mm_iald hx hb hKK hP (kdC_lt t2 (Nat.succ_ne_zero _)) t2 g3 dX0_partSize_9 ?_
  obtain ⟨g4, hf⟩ := grd hf
  have t5 : kdC (R (R x1 0) ((I (R x0 0) x2.toNatClampNeg)).toNatClampNeg) = 9 := wt hT t1 rfl
  refine mm_aald4 hx hb hKK hP (kdC_lt t1 (Nat.succ_ne_zero _)) t1 g4 (nC t5 (Nat.succ_ne_zero _)) dX0_partSize_10 ?_
  have t6 : kdC (R (R (R x1 0) ((I (R x0 0) x2.toNatClampNeg)).toNatClampNeg) 1) = 14 := wt hT t5 rfl
  refine mm_getr hx hb hts hown hKK hP fk3_1 (Nat.le_of_ble_eq_true rfl) lkX0_44 (kdC_lt t5 (Nat.succ_ne_zero _)) t5 (nC t6 (Nat.succ_ne_zero _)) dX0_partSize_11 ?_
  refine lv_aload_n hx hb dX0_partSize_14 rfl (lv_at hl 0 rfl) ?_
  have t7 : kdC (R x0 1) = 1 := wt hT h0 rfl
  refine mm_getr hx hb hts hown hKK hP fk0_1 (Nat.le_of_ble_eq_true rfl) lkX0_15 (kdC_lt h0 (Nat.succ_ne_zero _)) h0 (nC t7 (Nat.succ_ne_zero _)) dX0_partSize_15 ?_
  refine lv_iload_n hx hb dX0_partSize_18 rfl (lv_at hl 2 rfl) ?_
  obtain ⟨g8, hf⟩ := grd hf
  refine mm_iald hx hb hKK hP (kdC_lt t7 (Nat.succ_ne_zero _)) t7 g8 dX0_partSize_19 ?_
  obtain ⟨r9, e9, hf⟩ := bd1_o hf
  refine mm_Vi (rest := []) hx hb hml hown hts hKK hP hS hA (kdC_lt t6 (Nat.succ_ne_zero _)) t6 (show vwCl[8]? = some (yX8_partSize.cls, TX8, 3) from rfl) vkX0_50 (k_X8_partSize l D ce b I L R hT (R (R (R x1 0) ((I (R x0 0) x2.toNatClampNeg)).toNatClampNeg) 1) (I (R x0 1) x2.toNatClampNeg) t6 r9 e9) rfl hl.1 rfl (Nat.le_of_ble_eq_true rfl) ⟨rfl, rfl⟩ ⟨Nat.le_of_ble_eq_true rfl, Nat.le_of_ble_eq_true rfl⟩ ⟨Nat.zero_le _, Nat.zero_le _⟩ dX0_partSize_20 (fun H locs hP hT hS => ?_)
  exact hret r9 hf H locs ls _ dX0_partSize_23 hP hT hS
def rmX10_call : Room := { frames := 5, cells := 0, slots := 0, locals := 118 }
set_option maxHeartbeats 4000000 in
set_option maxRecDepth 100000 in
theorem k_X10_call (l : Launch) (D : va_G) (ce : Nat → ClassId) (b : Nat) (I : mI) (L : mL) (R : mR) (hT : WT kdC R) (x0 : Nat) (x1 : Int32) (x2 : Int32) (h0 : kdC x0 = 16) (o1 : Int32) (o2 : mI) (o3 : mL) (hf : f_X10_call x0 x1 x2 I L R = some (o1, o2, o3)) : Met l yX10_call (Cond.code yX10_call cX10_call 3 (some .int) :: GW) rmX10_call (va_Pc [.ref (b + x0), .int x1, .int x2] (PW D ce b kdC lnC 272 I L R)) (va_Qi (fun r u => r = o1 ∧ u = (o2, o3, R)) (QW D ce b kdC lnC 272) (box b 272)) 0 0 (box b 272) := by
  refine Met.ofW (cc := cX10_call) (maxL := 3) (ret := (some .int)) (by decide) rfl ?_
  intro p e s m args below meth c s₁ B hml hv
  obtain ⟨rfl, hP, hKK⟩ := hv
  have hx := B.exec
  have hb := B.bytes
  have hr := B.returns
  have hts0 := atoms_spec (ws := Cond.code yX10_call cX10_call 3 (some .int) :: GW) B.pre
  have hts : ∀ w ∈ GW, w.before _ s = true := fun w h => hts0 w (List.mem_cons_of_mem _ h)
  clear hts0
  have hown : s.vm.findClass RX10 = some m.cls := findClass_of_methodNamed B.named
  have hlocks := B.notSynchronized
  have hA : ∀ q, box b 272 q → box b 272 q := fun _ h => h
  have hS : va_S (box b 272) s.heap s.heap [] := va_S.rf
  have hl := lv_entry ([.ref (b + x0), .int x1, .int x2]) (n := 3) (Nat.le_of_ble_eq_true rfl)
  rw [lg_entry_eq]
  generalize (lg_sl ([.ref (b + x0), .int x1, .int x2]) ++ List.replicate (3 - (lg_sl ([.ref (b + x0), .int x1, .int x2])).length) Slot.unset).toArray = ls at hl ⊢
  have hl : lv_has ls 3 [(0, .ref (b + x0)), (1, .int x1), (2, .int x2)] := hl
  generalize ([.ref (b + x0), .int x1, .int x2] : List Value).toArray = av at hts ⊢
  show W p l e rmX10_call s m av below meth c s.heap [] 0 0 _ _
  obtain ⟨QQ, hQQ⟩ : ∃ z, z = MQ below (va_Qi (fun r u => r = o1 ∧ u = (o2, o3, R)) (QW D ce b kdC lnC 272) (box b 272)) av s 0 0 (box b 272) := ⟨_, rfl⟩
  rw [← hQQ]
  have hret : ∀ (r : Int32) (I1 : mI) (L1 : mL), some (r, I1, L1) = some (o1, o2, o3) → ∀ (H1 : Heap) (locs1 : List Loc) (ls1 : Array Slot) (pc1 : Nat), decode cX10_call pc1 = .ok (.ireturn, 1) → va_P D vwCl (wd ce b kdC lnC 272 I1 L1 R) H1 → WT kdC R → va_S (box b 272) s.heap H1 locs1 → W p l e rmX10_call s m av below meth c H1 locs1 0 0 QQ (F0 m pc1 ls1 [.int r]) := by
    intro r I1 L1 hq H1 locs1 ls1 pc1 hd hP hT hS
    cases hq
    rw [hQQ]
    exact mm_iret hx hb hr hlocks hP hT hS hd
  unfold f_X10_call at hf
  obtain ⟨H, hH⟩ : ∃ z, z = s.heap := ⟨_, rfl⟩
  obtain ⟨locs, hlo⟩ : ∃ z : List Loc, z = [] := ⟨_, rfl⟩
  have hP : va_P D vwCl (wd ce b kdC lnC 272 I L R) H := by rw [hH]; exact hP
  have hS : va_S (box b 272) s.heap H locs := by rw [hH, hlo]; exact hS
  rw [show W p l e rmX10_call s m av below meth c s.heap [] 0 0 QQ = W p l e rmX10_call s m av below meth c H locs 0 0 QQ by rw [hH, hlo]]
  clear hH hlo
  clear hQQ
  show W p l e rmX10_call s m av below meth c H locs 0 0 QQ (F0 m 0 ls [])
  refine lv_aload_n hx hb dX10_call_0 rfl (lv_at hl 0 rfl) ?_
  obtain ⟨I1, L1, e1, hf⟩ := bd2_o hf
  refine mm_Vv (rest := []) hx hb hml hown hts hKK hP hS hA (kdC_lt h0 (Nat.succ_ne_zero _)) h0 (show vwCl[10]? = some (yX10_keepBookRight.cls, TX10, 15) from rfl) vkX10_150 (k_X10_keepBookRight l D ce b I L R hT x0 h0 I1 L1 e1) rfl hl.1 rfl (Nat.le_of_ble_eq_true rfl) ⟨rfl, rfl⟩ ⟨Nat.le_of_ble_eq_true rfl, Nat.le_of_ble_eq_true rfl⟩ ⟨Nat.zero_le _, Nat.zero_le _⟩ dX10_call_1 (fun H locs hP hT hS => ?_)
  refine lv_aload_n hx hb dX10_call_4 rfl (lv_at hl 0 rfl) ?_
  have t2 : kdC (R x0 4) = 6 := wt hT h0 rfl
  refine mm_getr hx hb hts hown hKK hP fk10_4 (Nat.le_of_ble_eq_true rfl) lkX10_40 (kdC_lt h0 (Nat.succ_ne_zero _)) h0 (nC t2 (Nat.succ_ne_zero _)) dX10_call_5 ?_
  refine lv_iload_n hx hb dX10_call_8 rfl (lv_at hl 1 rfl) ?_
  obtain ⟨r3, e3, hf⟩ := bd1_o hf
  refine mm_Vi (rest := []) hx hb hml hown hts hKK hP hS hA (kdC_lt t2 (Nat.succ_ne_zero _)) t2 (show vwCl[0]? = some (yX0_has.cls, TX0, 11) from rfl) vkX10_197 (k_X0_has l D ce b I1 L1 R hT (R x0 4) x1 t2 r3 e3) rfl hl.1 rfl (Nat.le_of_ble_eq_true rfl) ⟨rfl, rfl⟩ ⟨Nat.le_of_ble_eq_true rfl, Nat.le_of_ble_eq_true rfl⟩ ⟨Nat.zero_le _, Nat.zero_le _⟩ dX10_call_9 (fun H locs hP hT hS => ?_)
  refine jnE hf (fun j24_4 ej_4 hf => ?_)
  have hJ24_4 : ∀ (H : Heap) (locs : List Loc) (ls : Array Slot), va_P D vwCl (wd ce b kdC lnC 272 I1 L1 R) H → va_S (box b 272) s.heap H locs → lv_has ls 3 [(0, .ref (b + x0))] → j24_4  = some (o1, o2, o3) → W p l e rmX10_call s m av below meth c H locs 0 0 QQ (F0 m 24 ls []) := by
    intro  H locs ls hP hS  hl hf
    rw [ej_4] at hf
    try dsimp only at hf
    refine lv_aload_n hx hb dX10_call_24 rfl (lv_at hl 0 rfl) ?_
    obtain ⟨r5, I5, e5, hf⟩ := bd2_o hf
    refine mm_Vi (rest := []) hx hb hml hown hts hKK hP hS hA (kdC_lt h0 (Nat.succ_ne_zero _)) h0 (show vwCl[10]? = some (yX10_refuseBad.cls, TX10, 15) from rfl) vkX10_81 (k_X10_refuseBad l D ce b I1 L1 R hT x0 h0 r5 I5 e5) rfl hl.1 rfl (Nat.le_of_ble_eq_true rfl) ⟨rfl, rfl⟩ ⟨Nat.le_of_ble_eq_true rfl, Nat.le_of_ble_eq_true rfl⟩ ⟨Nat.zero_le _, Nat.zero_le _⟩ dX10_call_25 (fun H locs hP hT hS => ?_)
    exact hret r5 I5 L1 hf H locs ls _ dX10_call_28 hP hT hS
  clear ej_4
  refine lv_if_eq (tgt := 24) hx hb dX10_call_12 (by decide) (fun c6 => ?_) (fun c6 => ?_)
  · have hf := ifT hf c6
    exact hJ24_4  H locs ls hP hS  (lv_sub hl [0] rfl) hf
  · have hf := ifF hf c6
    refine lv_iload_n hx hb dX10_call_15 rfl (lv_at hl 2 rfl) ?_
    refine lv_if_lt (tgt := 24) hx hb dX10_call_16 (by decide) (fun c7 => ?_) (fun c7 => ?_)
    · have hf := ifT hf c7
      exact hJ24_4  H locs ls hP hS  (lv_sub hl [0] rfl) hf
    · have hf := ifF hf c7
      refine lv_iload_n hx hb dX10_call_19 rfl (lv_at hl 2 rfl) ?_
      refine lv_iconst (v := (3 : Int32)) hx hb dX10_call_20 (by decide) ?_
      refine lv_icmp_le (tgt := 29) hx hb dX10_call_21 (by decide) (fun c8 => ?_) (fun c8 => ?_)
      · have hf := ifT hf c8
        refine lv_iload_n hx hb dX10_call_29 rfl (lv_at hl 2 rfl) ?_
        by_cases c9 : x2 = (0 : Int32)
        · have hf := ifT hf c9
          refine lv_tableIn (off := 26) (tgt := 56) hx hb dX10_call_30 (by rw [c9]; decide) (by rw [c9]; decide) (by rw [c9]; first | done | rfl) (by decide) ?_
          refine lv_aload_n hx hb dX10_call_56 rfl (lv_at hl 0 rfl) ?_
          refine mm_getr hx hb hts hown hKK hP fk10_4 (Nat.le_of_ble_eq_true rfl) lkX10_40 (kdC_lt h0 (Nat.succ_ne_zero _)) h0 (nC t2 (Nat.succ_ne_zero _)) dX10_call_57 ?_
          have t10 : kdC (R (R x0 4) 0) = 1 := wt hT t2 rfl
          refine mm_getr hx hb hts hown hKK hP fk0_0 (Nat.le_of_ble_eq_true rfl) lkX10_200 (kdC_lt t2 (Nat.succ_ne_zero _)) t2 (nC t10 (Nat.succ_ne_zero _)) dX10_call_60 ?_
          refine lv_iload_n hx hb dX10_call_63 rfl (lv_at hl 1 rfl) ?_
          obtain ⟨g11, hf⟩ := grd hf
          refine mm_iald hx hb hKK hP (kdC_lt t10 (Nat.succ_ne_zero _)) t10 g11 dX10_call_64 ?_
          exact hret (I1 (R (R x0 4) 0) x1.toNatClampNeg) I1 L1 hf H locs ls _ dX10_call_65 hP hT hS
        · have hf := ifF hf c9
          by_cases c12 : x2 = (1 : Int32)
          · have hf := ifT hf c12
            refine lv_tableIn (off := 36) (tgt := 66) hx hb dX10_call_30 (by rw [c12]; decide) (by rw [c12]; decide) (by rw [c12]; first | done | rfl) (by decide) ?_
            refine lv_aload_n hx hb dX10_call_66 rfl (lv_at hl 0 rfl) ?_
            refine mm_getr hx hb hts hown hKK hP fk10_4 (Nat.le_of_ble_eq_true rfl) lkX10_40 (kdC_lt h0 (Nat.succ_ne_zero _)) h0 (nC t2 (Nat.succ_ne_zero _)) dX10_call_67 ?_
            refine lv_aload_n hx hb dX10_call_70 rfl (lv_at hl 0 rfl) ?_
            have t13 : kdC (R x0 0) = 13 := wt hT h0 rfl
            refine mm_getr hx hb hts hown hKK hP fk10_0 (Nat.le_of_ble_eq_true rfl) lkX10_10 (kdC_lt h0 (Nat.succ_ne_zero _)) h0 (nC t13 (Nat.succ_ne_zero _)) dX10_call_71 ?_
            refine lv_iload_n hx hb dX10_call_74 rfl (lv_at hl 1 rfl) ?_
            obtain ⟨r14, e14, hf⟩ := bd1_o hf
            refine mm_Vi (rest := []) hx hb hml hown hts hKK hP hS hA (kdC_lt t2 (Nat.succ_ne_zero _)) t2 (show vwCl[0]? = some (yX0_partSize.cls, TX0, 11) from rfl) vkX10_203 (k_X0_partSize l D ce b I1 L1 R hT (R x0 4) (R x0 0) x1 t2 t13 r14 e14) rfl hl.1 rfl (Nat.le_of_ble_eq_true rfl) ⟨rfl, rfl⟩ ⟨Nat.le_of_ble_eq_true rfl, Nat.le_of_ble_eq_true rfl⟩ ⟨Nat.zero_le _, Nat.zero_le _⟩ dX10_call_75 (fun H locs hP hT hS => ?_)
            exact hret r14 I1 L1 hf H locs ls _ dX10_call_78 hP hT hS
          · have hf := ifF hf c12
            by_cases c15 : x2 = (2 : Int32)
            · have hf := ifT hf c15
              refine lv_tableIn (off := 49) (tgt := 79) hx hb dX10_call_30 (by rw [c15]; decide) (by rw [c15]; decide) (by rw [c15]; first | done | rfl) (by decide) ?_
              refine lv_aload_n hx hb dX10_call_79 rfl (lv_at hl 0 rfl) ?_
              refine mm_getr hx hb hts hown hKK hP fk10_4 (Nat.le_of_ble_eq_true rfl) lkX10_40 (kdC_lt h0 (Nat.succ_ne_zero _)) h0 (nC t2 (Nat.succ_ne_zero _)) dX10_call_80 ?_
              have t16 : kdC (R (R x0 4) 2) = 1 := wt hT t2 rfl
              refine mm_getr hx hb hts hown hKK hP fk0_2 (Nat.le_of_ble_eq_true rfl) lkX10_207 (kdC_lt t2 (Nat.succ_ne_zero _)) t2 (nC t16 (Nat.succ_ne_zero _)) dX10_call_83 ?_
              refine lv_iload_n hx hb dX10_call_86 rfl (lv_at hl 1 rfl) ?_
              obtain ⟨g17, hf⟩ := grd hf
              refine mm_iald hx hb hKK hP (kdC_lt t16 (Nat.succ_ne_zero _)) t16 g17 dX10_call_87 ?_
              exact hret (I1 (R (R x0 4) 2) x1.toNatClampNeg) I1 L1 hf H locs ls _ dX10_call_88 hP hT hS
            · have hf := ifF hf c15
              have qc9 := lv_neT c9 (a := 0) rfl
              have qc12 := lv_neT c12 (a := 1) rfl
              have qc15 := lv_neT c15 (a := 2) rfl
              refine lv_tableOut (tgt := 89) hx hb dX10_call_30 (by omega) (by decide) ?_
              refine lv_aload_n hx hb dX10_call_89 rfl (lv_at hl 0 rfl) ?_
              refine mm_getr hx hb hts hown hKK hP fk10_4 (Nat.le_of_ble_eq_true rfl) lkX10_40 (kdC_lt h0 (Nat.succ_ne_zero _)) h0 (nC t2 (Nat.succ_ne_zero _)) dX10_call_90 ?_
              have t18 : kdC (R (R x0 4) 3) = 2 := wt hT t2 rfl
              refine mm_getr hx hb hts hown hKK hP fk0_3 (Nat.le_of_ble_eq_true rfl) lkX10_210 (kdC_lt t2 (Nat.succ_ne_zero _)) t2 (nC t18 (Nat.succ_ne_zero _)) dX10_call_93 ?_
              refine lv_iload_n hx hb dX10_call_96 rfl (lv_at hl 1 rfl) ?_
              obtain ⟨g19, hf⟩ := grd hf
              refine mm_lald hx hb hKK hP (kdC_lt t18 (Nat.succ_ne_zero _)) t18 g19 dX10_call_97 ?_
              obtain ⟨r20, e20, hf⟩ := bd1_o hf
              refine mm_Si (rest := []) hx hb hml hown hts hKK hP hS hA skX10_157 (k_J13_bitCount_95d88 l D ce b I1 L1 R hT (L1 (R (R x0 4) 3) x1.toNatClampNeg)  r20 e20) rfl hl.1 rfl (Nat.le_of_ble_eq_true rfl) ⟨rfl, rfl⟩ ⟨Nat.le_of_ble_eq_true rfl, Nat.le_of_ble_eq_true rfl⟩ ⟨Nat.zero_le _, Nat.zero_le _⟩ dX10_call_98 (fun H locs hP hT hS => ?_)
              exact hret r20 I1 L1 hf H locs ls _ dX10_call_101 hP hT hS
      · have hf := ifF hf c8
        exact hJ24_4  H locs ls hP hS  (lv_sub hl [0] rfl) hf
def rmX10_follows : Room := { frames := 5, cells := 0, slots := 0, locals := 118 }
set_option maxHeartbeats 4000000 in
set_option maxRecDepth 100000 in
theorem k_X10_follows (l : Launch) (D : va_G) (ce : Nat → ClassId) (b : Nat) (I : mI) (L : mL) (R : mR) (hT : WT kdC R) (x0 : Nat) (x1 : Int32) (x2 : Int32) (h0 : kdC x0 = 16) (o1 : Int32) (o2 : mI) (o3 : mL) (hf : f_X10_follows x0 x1 x2 I L R = some (o1, o2, o3)) : Met l yX10_follows (Cond.code yX10_follows cX10_follows 3 (some .int) :: GW) rmX10_follows (va_Pc [.ref (b + x0), .int x1, .int x2] (PW D ce b kdC lnC 272 I L R)) (va_Qi (fun r u => r = o1 ∧ u = (o2, o3, R)) (QW D ce b kdC lnC 272) (box b 272)) 0 0 (box b 272) := by
  refine Met.ofW (cc := cX10_follows) (maxL := 3) (ret := (some .int)) (by decide) rfl ?_
  intro p e s m args below meth c s₁ B hml hv
  obtain ⟨rfl, hP, hKK⟩ := hv
  have hx := B.exec
  have hb := B.bytes
  have hr := B.returns
  have hts0 := atoms_spec (ws := Cond.code yX10_follows cX10_follows 3 (some .int) :: GW) B.pre
  have hts : ∀ w ∈ GW, w.before _ s = true := fun w h => hts0 w (List.mem_cons_of_mem _ h)
  clear hts0
  have hown : s.vm.findClass RX10 = some m.cls := findClass_of_methodNamed B.named
  have hlocks := B.notSynchronized
  have hA : ∀ q, box b 272 q → box b 272 q := fun _ h => h
  have hS : va_S (box b 272) s.heap s.heap [] := va_S.rf
  have hl := lv_entry ([.ref (b + x0), .int x1, .int x2]) (n := 3) (Nat.le_of_ble_eq_true rfl)
  rw [lg_entry_eq]
  generalize (lg_sl ([.ref (b + x0), .int x1, .int x2]) ++ List.replicate (3 - (lg_sl ([.ref (b + x0), .int x1, .int x2])).length) Slot.unset).toArray = ls at hl ⊢
  have hl : lv_has ls 3 [(0, .ref (b + x0)), (1, .int x1), (2, .int x2)] := hl
  generalize ([.ref (b + x0), .int x1, .int x2] : List Value).toArray = av at hts ⊢
  show W p l e rmX10_follows s m av below meth c s.heap [] 0 0 _ _
  obtain ⟨QQ, hQQ⟩ : ∃ z, z = MQ below (va_Qi (fun r u => r = o1 ∧ u = (o2, o3, R)) (QW D ce b kdC lnC 272) (box b 272)) av s 0 0 (box b 272) := ⟨_, rfl⟩
  rw [← hQQ]
  have hret : ∀ (r : Int32) (I1 : mI) (L1 : mL), some (r, I1, L1) = some (o1, o2, o3) → ∀ (H1 : Heap) (locs1 : List Loc) (ls1 : Array Slot) (pc1 : Nat), decode cX10_follows pc1 = .ok (.ireturn, 1) → va_P D vwCl (wd ce b kdC lnC 272 I1 L1 R) H1 → WT kdC R → va_S (box b 272) s.heap H1 locs1 → W p l e rmX10_follows s m av below meth c H1 locs1 0 0 QQ (F0 m pc1 ls1 [.int r]) := by
    intro r I1 L1 hq H1 locs1 ls1 pc1 hd hP hT hS
    cases hq
    rw [hQQ]
    exact mm_iret hx hb hr hlocks hP hT hS hd
  unfold f_X10_follows at hf
  obtain ⟨H, hH⟩ : ∃ z, z = s.heap := ⟨_, rfl⟩
  obtain ⟨locs, hlo⟩ : ∃ z : List Loc, z = [] := ⟨_, rfl⟩
  have hP : va_P D vwCl (wd ce b kdC lnC 272 I L R) H := by rw [hH]; exact hP
  have hS : va_S (box b 272) s.heap H locs := by rw [hH, hlo]; exact hS
  rw [show W p l e rmX10_follows s m av below meth c s.heap [] 0 0 QQ = W p l e rmX10_follows s m av below meth c H locs 0 0 QQ by rw [hH, hlo]]
  clear hH hlo
  clear hQQ
  show W p l e rmX10_follows s m av below meth c H locs 0 0 QQ (F0 m 0 ls [])
  refine lv_aload_n hx hb dX10_follows_0 rfl (lv_at hl 0 rfl) ?_
  obtain ⟨I1, L1, e1, hf⟩ := bd2_o hf
  refine mm_Vv (rest := []) hx hb hml hown hts hKK hP hS hA (kdC_lt h0 (Nat.succ_ne_zero _)) h0 (show vwCl[10]? = some (yX10_keepBookRight.cls, TX10, 15) from rfl) vkX10_150 (k_X10_keepBookRight l D ce b I L R hT x0 h0 I1 L1 e1) rfl hl.1 rfl (Nat.le_of_ble_eq_true rfl) ⟨rfl, rfl⟩ ⟨Nat.le_of_ble_eq_true rfl, Nat.le_of_ble_eq_true rfl⟩ ⟨Nat.zero_le _, Nat.zero_le _⟩ dX10_follows_1 (fun H locs hP hT hS => ?_)
  refine lv_aload_n hx hb dX10_follows_4 rfl (lv_at hl 0 rfl) ?_
  have t2 : kdC (R x0 4) = 6 := wt hT h0 rfl
  refine mm_getr hx hb hts hown hKK hP fk10_4 (Nat.le_of_ble_eq_true rfl) lkX10_40 (kdC_lt h0 (Nat.succ_ne_zero _)) h0 (nC t2 (Nat.succ_ne_zero _)) dX10_follows_5 ?_
  refine lv_iload_n hx hb dX10_follows_8 rfl (lv_at hl 1 rfl) ?_
  obtain ⟨r3, e3, hf⟩ := bd1_o hf
  refine mm_Vi (rest := []) hx hb hml hown hts hKK hP hS hA (kdC_lt t2 (Nat.succ_ne_zero _)) t2 (show vwCl[0]? = some (yX0_has.cls, TX0, 11) from rfl) vkX10_197 (k_X0_has l D ce b I1 L1 R hT (R x0 4) x1 t2 r3 e3) rfl hl.1 rfl (Nat.le_of_ble_eq_true rfl) ⟨rfl, rfl⟩ ⟨Nat.le_of_ble_eq_true rfl, Nat.le_of_ble_eq_true rfl⟩ ⟨Nat.zero_le _, Nat.zero_le _⟩ dX10_follows_9 (fun H locs hP hT hS => ?_)
  refine jnE hf (fun j26_4 ej_4 hf => ?_)
  have hJ26_4 : ∀ (H : Heap) (locs : List Loc) (ls : Array Slot), va_P D vwCl (wd ce b kdC lnC 272 I1 L1 R) H → va_S (box b 272) s.heap H locs → lv_has ls 3 [(0, .ref (b + x0))] → j26_4  = some (o1, o2, o3) → W p l e rmX10_follows s m av below meth c H locs 0 0 QQ (F0 m 26 ls []) := by
    intro  H locs ls hP hS  hl hf
    rw [ej_4] at hf
    try dsimp only at hf
    refine lv_aload_n hx hb dX10_follows_26 rfl (lv_at hl 0 rfl) ?_
    obtain ⟨r5, I5, e5, hf⟩ := bd2_o hf
    refine mm_Vi (rest := []) hx hb hml hown hts hKK hP hS hA (kdC_lt h0 (Nat.succ_ne_zero _)) h0 (show vwCl[10]? = some (yX10_refuseBad.cls, TX10, 15) from rfl) vkX10_81 (k_X10_refuseBad l D ce b I1 L1 R hT x0 h0 r5 I5 e5) rfl hl.1 rfl (Nat.le_of_ble_eq_true rfl) ⟨rfl, rfl⟩ ⟨Nat.le_of_ble_eq_true rfl, Nat.le_of_ble_eq_true rfl⟩ ⟨Nat.zero_le _, Nat.zero_le _⟩ dX10_follows_27 (fun H locs hP hT hS => ?_)
    exact hret r5 I5 L1 hf H locs ls _ dX10_follows_30 hP hT hS
  clear ej_4
  refine lv_if_eq (tgt := 26) hx hb dX10_follows_12 (by decide) (fun c6 => ?_) (fun c6 => ?_)
  · have hf := ifT hf c6
    exact hJ26_4  H locs ls hP hS  (lv_sub hl [0] rfl) hf
  · have hf := ifF hf c6
    refine lv_aload_n hx hb dX10_follows_15 rfl (lv_at hl 0 rfl) ?_
    refine mm_getr hx hb hts hown hKK hP fk10_4 (Nat.le_of_ble_eq_true rfl) lkX10_40 (kdC_lt h0 (Nat.succ_ne_zero _)) h0 (nC t2 (Nat.succ_ne_zero _)) dX10_follows_16 ?_
    refine lv_iload_n hx hb dX10_follows_19 rfl (lv_at hl 2 rfl) ?_
    obtain ⟨r7, e7, hf⟩ := bd1_o hf
    refine mm_Vi (rest := []) hx hb hml hown hts hKK hP hS hA (kdC_lt t2 (Nat.succ_ne_zero _)) t2 (show vwCl[0]? = some (yX0_has.cls, TX0, 11) from rfl) vkX10_197 (k_X0_has l D ce b I1 L1 R hT (R x0 4) x2 t2 r7 e7) rfl hl.1 rfl (Nat.le_of_ble_eq_true rfl) ⟨rfl, rfl⟩ ⟨Nat.le_of_ble_eq_true rfl, Nat.le_of_ble_eq_true rfl⟩ ⟨Nat.zero_le _, Nat.zero_le _⟩ dX10_follows_20 (fun H locs hP hT hS => ?_)
    refine lv_if_ne (tgt := 31) hx hb dX10_follows_23 (by decide) (fun c8 => ?_) (fun c8 => ?_)
    · have hf := ifF hf c8
      refine lv_aload_n hx hb dX10_follows_31 rfl (lv_at hl 0 rfl) ?_
      refine mm_getr hx hb hts hown hKK hP fk10_4 (Nat.le_of_ble_eq_true rfl) lkX10_40 (kdC_lt h0 (Nat.succ_ne_zero _)) h0 (nC t2 (Nat.succ_ne_zero _)) dX10_follows_32 ?_
      have t9 : kdC (R (R x0 4) 3) = 2 := wt hT t2 rfl
      refine mm_getr hx hb hts hown hKK hP fk0_3 (Nat.le_of_ble_eq_true rfl) lkX10_210 (kdC_lt t2 (Nat.succ_ne_zero _)) t2 (nC t9 (Nat.succ_ne_zero _)) dX10_follows_35 ?_
      refine lv_iload_n hx hb dX10_follows_38 rfl (lv_at hl 1 rfl) ?_
      obtain ⟨g10, hf⟩ := grd hf
      refine mm_lald hx hb hKK hP (kdC_lt t9 (Nat.succ_ne_zero _)) t9 g10 dX10_follows_39 ?_
      refine lv_iload_n hx hb dX10_follows_40 rfl (lv_at hl 2 rfl) ?_
      obtain ⟨r11, e11, hf⟩ := bd1_o hf
      refine mm_Si (rest := []) hx hb hml hown hts hKK hP hS hA skX10_213 (k_X10_hasBit l D ce b I1 L1 R hT (L1 (R (R x0 4) 3) x1.toNatClampNeg) x2  r11 e11) rfl hl.1 rfl (Nat.le_of_ble_eq_true rfl) ⟨rfl, rfl⟩ ⟨Nat.le_of_ble_eq_true rfl, Nat.le_of_ble_eq_true rfl⟩ ⟨Nat.zero_le _, Nat.zero_le _⟩ dX10_follows_41 (fun H locs hP hT hS => ?_)
      refine lv_if_eq (tgt := 51) hx hb dX10_follows_44 (by decide) (fun c12 => ?_) (fun c12 => ?_)
      · have hf := ifT hf c12
        refine lv_iconst (v := (0 : Int32)) hx hb dX10_follows_51 (by decide) ?_
        exact hret (0 : Int32) I1 L1 hf H locs ls _ dX10_follows_52 hP hT hS
      · have hf := ifF hf c12
        refine lv_iconst (v := (1 : Int32)) hx hb dX10_follows_47 (by decide) ?_
        refine lv_goto (tgt := 52) hx hb dX10_follows_48 (by decide) ?_
        exact hret (1 : Int32) I1 L1 hf H locs ls _ dX10_follows_52 hP hT hS
    · have hf := ifT hf c8
      exact hJ26_4  H locs ls hP hS  (lv_sub hl [0] rfl) hf
def rmX10_lighter : Room := { frames := 5, cells := 0, slots := 0, locals := 129 }
set_option maxHeartbeats 4000000 in
set_option maxRecDepth 100000 in
theorem k_X10_lighter (l : Launch) (D : va_G) (ce : Nat → ClassId) (b : Nat) (I : mI) (L : mL) (R : mR) (hT : WT kdC R) (x0 : Nat) (x1 : Int32) (h0 : kdC x0 = 16) (o1 : Int32) (o2 : mI) (o3 : mL) (hf : f_X10_lighter x0 x1 I L R = some (o1, o2, o3)) : Met l yX10_lighter (Cond.code yX10_lighter cX10_lighter 2 (some .int) :: GW) rmX10_lighter (va_Pc [.ref (b + x0), .int x1] (PW D ce b kdC lnC 272 I L R)) (va_Qi (fun r u => r = o1 ∧ u = (o2, o3, R)) (QW D ce b kdC lnC 272) (box b 272)) 0 0 (box b 272) := by
  refine Met.ofW (cc := cX10_lighter) (maxL := 2) (ret := (some .int)) (by decide) rfl ?_
  intro p e s m args below meth c s₁ B hml hv
  obtain ⟨rfl, hP, hKK⟩ := hv
  have hx := B.exec
  have hb := B.bytes
  have hr := B.returns
  have hts0 := atoms_spec (ws := Cond.code yX10_lighter cX10_lighter 2 (some .int) :: GW) B.pre
  have hts : ∀ w ∈ GW, w.before _ s = true := fun w h => hts0 w (List.mem_cons_of_mem _ h)
  clear hts0
  have hown : s.vm.findClass RX10 = some m.cls := findClass_of_methodNamed B.named
  have hlocks := B.notSynchronized
  have hA : ∀ q, box b 272 q → box b 272 q := fun _ h => h
  have hS : va_S (box b 272) s.heap s.heap [] := va_S.rf
  have hl := lv_entry ([.ref (b + x0), .int x1]) (n := 2) (Nat.le_of_ble_eq_true rfl)
  rw [lg_entry_eq]
  generalize (lg_sl ([.ref (b + x0), .int x1]) ++ List.replicate (2 - (lg_sl ([.ref (b + x0), .int x1])).length) Slot.unset).toArray = ls at hl ⊢
  have hl : lv_has ls 2 [(0, .ref (b + x0)), (1, .int x1)] := hl
  generalize ([.ref (b + x0), .int x1] : List Value).toArray = av at hts ⊢
  show W p l e rmX10_lighter s m av below meth c s.heap [] 0 0 _ _
  obtain ⟨QQ, hQQ⟩ : ∃ z, z = MQ below (va_Qi (fun r u => r = o1 ∧ u = (o2, o3, R)) (QW D ce b kdC lnC 272) (box b 272)) av s 0 0 (box b 272) := ⟨_, rfl⟩
  rw [← hQQ]
  have hret : ∀ (r : Int32) (I1 : mI) (L1 : mL), some (r, I1, L1) = some (o1, o2, o3) → ∀ (H1 : Heap) (locs1 : List Loc) (ls1 : Array Slot) (pc1 : Nat), decode cX10_lighter pc1 = .ok (.ireturn, 1) → va_P D vwCl (wd ce b kdC lnC 272 I1 L1 R) H1 → WT kdC R → va_S (box b 272) s.heap H1 locs1 → W p l e rmX10_lighter s m av below meth c H1 locs1 0 0 QQ (F0 m pc1 ls1 [.int r]) := by
    intro r I1 L1 hq H1 locs1 ls1 pc1 hd hP hT hS
    cases hq
    rw [hQQ]
    exact mm_iret hx hb hr hlocks hP hT hS hd
  unfold f_X10_lighter at hf
  obtain ⟨H, hH⟩ : ∃ z, z = s.heap := ⟨_, rfl⟩
  obtain ⟨locs, hlo⟩ : ∃ z : List Loc, z = [] := ⟨_, rfl⟩
  have hP : va_P D vwCl (wd ce b kdC lnC 272 I L R) H := by rw [hH]; exact hP
  have hS : va_S (box b 272) s.heap H locs := by rw [hH, hlo]; exact hS
  rw [show W p l e rmX10_lighter s m av below meth c s.heap [] 0 0 QQ = W p l e rmX10_lighter s m av below meth c H locs 0 0 QQ by rw [hH, hlo]]
  clear hH hlo
  clear hQQ
  show W p l e rmX10_lighter s m av below meth c H locs 0 0 QQ (F0 m 0 ls [])
  refine lv_aload_n hx hb dX10_lighter_0 rfl (lv_at hl 0 rfl) ?_
  obtain ⟨I1, L1, e1, hf⟩ := bd2_o hf
  refine mm_Vv (rest := []) hx hb hml hown hts hKK hP hS hA (kdC_lt h0 (Nat.succ_ne_zero _)) h0 (show vwCl[10]? = some (yX10_keepBookRight.cls, TX10, 15) from rfl) vkX10_150 (k_X10_keepBookRight l D ce b I L R hT x0 h0 I1 L1 e1) rfl hl.1 rfl (Nat.le_of_ble_eq_true rfl) ⟨rfl, rfl⟩ ⟨Nat.le_of_ble_eq_true rfl, Nat.le_of_ble_eq_true rfl⟩ ⟨Nat.zero_le _, Nat.zero_le _⟩ dX10_lighter_1 (fun H locs hP hT hS => ?_)
  refine lv_iload_n hx hb dX10_lighter_4 rfl (lv_at hl 1 rfl) ?_
  refine jnE hf (fun j19_2 ej_2 hf => ?_)
  have hJ19_2 : ∀ (H : Heap) (locs : List Loc) (ls : Array Slot), va_P D vwCl (wd ce b kdC lnC 272 I1 L1 R) H → va_S (box b 272) s.heap H locs → lv_has ls 2 [(0, .ref (b + x0))] → j19_2  = some (o1, o2, o3) → W p l e rmX10_lighter s m av below meth c H locs 0 0 QQ (F0 m 19 ls []) := by
    intro  H locs ls hP hS  hl hf
    rw [ej_2] at hf
    try dsimp only at hf
    refine lv_aload_n hx hb dX10_lighter_19 rfl (lv_at hl 0 rfl) ?_
    obtain ⟨r3, I3, e3, hf⟩ := bd2_o hf
    refine mm_Vi (rest := []) hx hb hml hown hts hKK hP hS hA (kdC_lt h0 (Nat.succ_ne_zero _)) h0 (show vwCl[10]? = some (yX10_refuseBad.cls, TX10, 15) from rfl) vkX10_81 (k_X10_refuseBad l D ce b I1 L1 R hT x0 h0 r3 I3 e3) rfl hl.1 rfl (Nat.le_of_ble_eq_true rfl) ⟨rfl, rfl⟩ ⟨Nat.le_of_ble_eq_true rfl, Nat.le_of_ble_eq_true rfl⟩ ⟨Nat.zero_le _, Nat.zero_le _⟩ dX10_lighter_20 (fun H locs hP hT hS => ?_)
    exact hret r3 I3 L1 hf H locs ls _ dX10_lighter_23 hP hT hS
  clear ej_2
  refine lv_if_lt (tgt := 19) hx hb dX10_lighter_5 (by decide) (fun c4 => ?_) (fun c4 => ?_)
  · have hf := ifT hf c4
    exact hJ19_2  H locs ls hP hS  (lv_sub hl [0] rfl) hf
  · have hf := ifF hf c4
    refine lv_iload_n hx hb dX10_lighter_8 rfl (lv_at hl 1 rfl) ?_
    refine lv_aload_n hx hb dX10_lighter_9 rfl (lv_at hl 0 rfl) ?_
    have t5 : kdC (R x0 4) = 6 := wt hT h0 rfl
    refine mm_getr hx hb hts hown hKK hP fk10_4 (Nat.le_of_ble_eq_true rfl) lkX10_40 (kdC_lt h0 (Nat.succ_ne_zero _)) h0 (nC t5 (Nat.succ_ne_zero _)) dX10_lighter_10 ?_
    refine mm_geti hx hb hts hown hKK hP fk0_9 (Or.inl rfl) lkX10_187 (kdC_lt t5 (Nat.succ_ne_zero _)) t5 dX10_lighter_13 ?_
    refine lv_icmp_lt (tgt := 24) hx hb dX10_lighter_16 (by decide) (fun c6 => ?_) (fun c6 => ?_)
    · have hf := ifT hf c6
      refine lv_aload_n hx hb dX10_lighter_24 rfl (lv_at hl 0 rfl) ?_
      obtain ⟨I7, e7, hf⟩ := bd1_o hf
      refine mm_Vv (rest := []) hx hb hml hown hts hKK hP hS hA (kdC_lt h0 (Nat.succ_ne_zero _)) h0 (show vwCl[10]? = some (yX10_weighRings.cls, TX10, 15) from rfl) vkX10_190 (k_X10_weighRings l D ce b I1 L1 R hT x0 h0 I7 e7) rfl hl.1 rfl (Nat.le_of_ble_eq_true rfl) ⟨rfl, rfl⟩ ⟨Nat.le_of_ble_eq_true rfl, Nat.le_of_ble_eq_true rfl⟩ ⟨Nat.zero_le _, Nat.zero_le _⟩ dX10_lighter_25 (fun H locs hP hT hS => ?_)
      refine lv_aload_n hx hb dX10_lighter_28 rfl (lv_at hl 0 rfl) ?_
      refine mm_getr hx hb hts hown hKK hP fk10_4 (Nat.le_of_ble_eq_true rfl) lkX10_40 (kdC_lt h0 (Nat.succ_ne_zero _)) h0 (nC t5 (Nat.succ_ne_zero _)) dX10_lighter_29 ?_
      have t8 : kdC (R (R x0 4) 6) = 1 := wt hT t5 rfl
      refine mm_getr hx hb hts hown hKK hP fk0_6 (Nat.le_of_ble_eq_true rfl) lkX10_217 (kdC_lt t5 (Nat.succ_ne_zero _)) t5 (nC t8 (Nat.succ_ne_zero _)) dX10_lighter_32 ?_
      refine lv_iload_n hx hb dX10_lighter_35 rfl (lv_at hl 1 rfl) ?_
      obtain ⟨g9, hf⟩ := grd hf
      refine mm_iald hx hb hKK hP (kdC_lt t8 (Nat.succ_ne_zero _)) t8 g9 dX10_lighter_36 ?_
      exact hret (I7 (R (R x0 4) 6) x1.toNatClampNeg) I7 L1 hf H locs ls _ dX10_lighter_37 hP hT hS
    · have hf := ifF hf c6
      exact hJ19_2  H locs ls hP hS  (lv_sub hl [0] rfl) hf
def rmX8_sameParts : Room := { frames := 0, cells := 0, slots := 0, locals := 0 }
set_option maxHeartbeats 4000000 in
set_option maxRecDepth 100000 in
theorem k_X8_sameParts (l : Launch) (D : va_G) (ce : Nat → ClassId) (b : Nat) (I : mI) (L : mL) (R : mR) (hT : WT kdC R) (x0 : Nat) (x1 : Int32) (x2 : Int32) (h0 : kdC x0 = 14) (o1 : Int32) (hf : f_X8_sameParts x0 x1 x2 I R = some o1) : Met l yX8_sameParts (Cond.code yX8_sameParts cX8_sameParts 5 (some .boolean) :: GW) rmX8_sameParts (va_Pc [.ref (b + x0), .int x1, .int x2] (PW D ce b kdC lnC 272 I L R)) (va_Qi (fun r u => r = o1 ∧ u = (I, L, R)) (QW D ce b kdC lnC 272) (box b 272)) 0 0 (box b 272) := by
  refine Met.ofW (cc := cX8_sameParts) (maxL := 5) (ret := (some .boolean)) (by decide) rfl ?_
  intro p e s m args below meth c s₁ B hml hv
  obtain ⟨rfl, hP, hKK⟩ := hv
  have hx := B.exec
  have hb := B.bytes
  have hr := B.returns
  have hts0 := atoms_spec (ws := Cond.code yX8_sameParts cX8_sameParts 5 (some .boolean) :: GW) B.pre
  have hts : ∀ w ∈ GW, w.before _ s = true := fun w h => hts0 w (List.mem_cons_of_mem _ h)
  clear hts0
  have hown : s.vm.findClass RX8 = some m.cls := findClass_of_methodNamed B.named
  have hlocks := B.notSynchronized
  have hA : ∀ q, box b 272 q → box b 272 q := fun _ h => h
  have hS : va_S (box b 272) s.heap s.heap [] := va_S.rf
  have hl := lv_entry ([.ref (b + x0), .int x1, .int x2]) (n := 5) (Nat.le_of_ble_eq_true rfl)
  rw [lg_entry_eq]
  generalize (lg_sl ([.ref (b + x0), .int x1, .int x2]) ++ List.replicate (5 - (lg_sl ([.ref (b + x0), .int x1, .int x2])).length) Slot.unset).toArray = ls at hl ⊢
  have hl : lv_has ls 5 [(0, .ref (b + x0)), (1, .int x1), (2, .int x2)] := hl
  generalize ([.ref (b + x0), .int x1, .int x2] : List Value).toArray = av at hts ⊢
  show W p l e rmX8_sameParts s m av below meth c s.heap [] 0 0 _ _
  obtain ⟨QQ, hQQ⟩ : ∃ z, z = MQ below (va_Qi (fun r u => r = o1 ∧ u = (I, L, R)) (QW D ce b kdC lnC 272) (box b 272)) av s 0 0 (box b 272) := ⟨_, rfl⟩
  rw [← hQQ]
  have hret : ∀ (r : Int32), some r = some o1 → ∀ (H1 : Heap) (locs1 : List Loc) (ls1 : Array Slot) (pc1 : Nat), decode cX8_sameParts pc1 = .ok (.ireturn, 1) → zb r = true → va_P D vwCl (wd ce b kdC lnC 272 I L R) H1 → WT kdC R → va_S (box b 272) s.heap H1 locs1 → W p l e rmX8_sameParts s m av below meth c H1 locs1 0 0 QQ (F0 m pc1 ls1 [.int r]) := by
    intro r hq H1 locs1 ls1 pc1 hd hz hP hT hS
    cases hq
    rw [hQQ]
    exact mm_zret hx hb hr hlocks hz hP hT hS hd
  unfold f_X8_sameParts at hf
  obtain ⟨H, hH⟩ : ∃ z, z = s.heap := ⟨_, rfl⟩
  obtain ⟨locs, hlo⟩ : ∃ z : List Loc, z = [] := ⟨_, rfl⟩
  have hP : va_P D vwCl (wd ce b kdC lnC 272 I L R) H := by rw [hH]; exact hP
  have hS : va_S (box b 272) s.heap H locs := by rw [hH, hlo]; exact hS
  rw [show W p l e rmX8_sameParts s m av below meth c s.heap [] 0 0 QQ = W p l e rmX8_sameParts s m av below meth c H locs 0 0 QQ by rw [hH, hlo]]
  clear hH hlo
  clear hQQ
  show W p l e rmX8_sameParts s m av below meth c H locs 0 0 QQ (F0 m 0 ls [])
  refine lv_iload_n hx hb dX8_sameParts_0 rfl (lv_at hl 1 rfl) ?_
  refine lv_if_lt (tgt := 43) hx hb dX8_sameParts_1 (by decide) (fun c1 => ?_) (fun c1 => ?_)
  · have hf := ifT hf c1
    refine lv_iconst (v := (0 : Int32)) hx hb dX8_sameParts_43 (by decide) ?_
    exact hret (0 : Int32) hf H locs ls _ dX8_sameParts_44 rfl hP hT hS
  · have hf := ifF hf c1
    refine lv_iload_n hx hb dX8_sameParts_4 rfl (lv_at hl 1 rfl) ?_
    refine lv_aload_n hx hb dX8_sameParts_5 rfl (lv_at hl 0 rfl) ?_
    refine mm_geti hx hb hts hown hKK hP fk8_2 (Or.inl rfl) lkX8_22 (kdC_lt h0 (Nat.succ_ne_zero _)) h0 dX8_sameParts_6 ?_
    refine lv_icmp_ge (tgt := 43) hx hb dX8_sameParts_9 (by decide) (fun c2 => ?_) (fun c2 => ?_)
    · have hf := ifT hf c2
      refine lv_iconst (v := (0 : Int32)) hx hb dX8_sameParts_43 (by decide) ?_
      exact hret (0 : Int32) hf H locs ls _ dX8_sameParts_44 rfl hP hT hS
    · have hf := ifF hf c2
      refine lv_iload_n hx hb dX8_sameParts_12 rfl (lv_at hl 2 rfl) ?_
      refine lv_if_lt (tgt := 43) hx hb dX8_sameParts_13 (by decide) (fun c3 => ?_) (fun c3 => ?_)
      · have hf := ifT hf c3
        refine lv_iconst (v := (0 : Int32)) hx hb dX8_sameParts_43 (by decide) ?_
        exact hret (0 : Int32) hf H locs ls _ dX8_sameParts_44 rfl hP hT hS
      · have hf := ifF hf c3
        refine lv_iload_n hx hb dX8_sameParts_16 rfl (lv_at hl 2 rfl) ?_
        refine lv_aload_n hx hb dX8_sameParts_17 rfl (lv_at hl 0 rfl) ?_
        refine mm_geti hx hb hts hown hKK hP fk8_2 (Or.inl rfl) lkX8_22 (kdC_lt h0 (Nat.succ_ne_zero _)) h0 dX8_sameParts_18 ?_
        refine lv_icmp_ge (tgt := 43) hx hb dX8_sameParts_21 (by decide) (fun c4 => ?_) (fun c4 => ?_)
        · have hf := ifT hf c4
          refine lv_iconst (v := (0 : Int32)) hx hb dX8_sameParts_43 (by decide) ?_
          exact hret (0 : Int32) hf H locs ls _ dX8_sameParts_44 rfl hP hT hS
        · have hf := ifF hf c4
          refine lv_aload_n hx hb dX8_sameParts_24 rfl (lv_at hl 0 rfl) ?_
          have t5 : kdC (R x0 1) = 1 := wt hT h0 rfl
          refine mm_getr hx hb hts hown hKK hP fk8_1 (Nat.le_of_ble_eq_true rfl) lkX8_19 (kdC_lt h0 (Nat.succ_ne_zero _)) h0 (nC t5 (Nat.succ_ne_zero _)) dX8_sameParts_25 ?_
          refine lv_iload_n hx hb dX8_sameParts_28 rfl (lv_at hl 1 rfl) ?_
          obtain ⟨g6, hf⟩ := grd hf
          refine mm_iald hx hb hKK hP (kdC_lt t5 (Nat.succ_ne_zero _)) t5 g6 dX8_sameParts_29 ?_
          refine lv_iload_n hx hb dX8_sameParts_30 rfl (lv_at hl 1 rfl) ?_
          refine lv_isub hx hb dX8_sameParts_31 ?_
          refine lv_aload_n hx hb dX8_sameParts_32 rfl (lv_at hl 0 rfl) ?_
          refine mm_getr hx hb hts hown hKK hP fk8_1 (Nat.le_of_ble_eq_true rfl) lkX8_19 (kdC_lt h0 (Nat.succ_ne_zero _)) h0 (nC t5 (Nat.succ_ne_zero _)) dX8_sameParts_33 ?_
          refine lv_iload_n hx hb dX8_sameParts_36 rfl (lv_at hl 2 rfl) ?_
          obtain ⟨g7, hf⟩ := grd hf
          refine mm_iald hx hb hKK hP (kdC_lt t5 (Nat.succ_ne_zero _)) t5 g7 dX8_sameParts_37 ?_
          refine lv_iload_n hx hb dX8_sameParts_38 rfl (lv_at hl 2 rfl) ?_
          refine lv_isub hx hb dX8_sameParts_39 ?_
          refine lv_icmp_eq (tgt := 45) hx hb dX8_sameParts_40 (by decide) (fun c8 => ?_) (fun c8 => ?_)
          · have hf := ifT hf c8
            refine lv_aload_n hx hb dX8_sameParts_45 rfl (lv_at hl 0 rfl) ?_
            refine mm_getr hx hb hts hown hKK hP fk8_1 (Nat.le_of_ble_eq_true rfl) lkX8_19 (kdC_lt h0 (Nat.succ_ne_zero _)) h0 (nC t5 (Nat.succ_ne_zero _)) dX8_sameParts_46 ?_
            refine lv_iload_n hx hb dX8_sameParts_49 rfl (lv_at hl 1 rfl) ?_
            refine mm_iald hx hb hKK hP (kdC_lt t5 (Nat.succ_ne_zero _)) t5 g6 dX8_sameParts_50 ?_
            refine lv_iload_n hx hb dX8_sameParts_51 rfl (lv_at hl 1 rfl) ?_
            refine lv_isub hx hb dX8_sameParts_52 ?_
            refine lv_istore_n (lv' := [(3, .int ((I (R x0 1) x1.toNatClampNeg) - x1)), (0, .ref (b + x0)), (1, .int x1), (2, .int x2)]) hx hb dX8_sameParts_53 rfl hl (Nat.le_of_ble_eq_true rfl) rfl (fun ls hl => ?_)
            refine lv_iconst (v := (0 : Int32)) hx hb dX8_sameParts_54 (by decide) ?_
            refine lv_istore (lv' := [(4, .int (0 : Int32)), (3, .int ((I (R x0 1) x1.toNatClampNeg) - x1)), (0, .ref (b + x0)), (1, .int x1), (2, .int x2)]) hx hb dX8_sameParts_55 hl (Nat.le_of_ble_eq_true rfl) rfl (fun ls hl => ?_)
            have lp57 : ∀ (n : Nat) (x0 : Nat) (x1 : Int32) (x2 : Int32) (x3 : Int32) (x4 : Int32) (I : mI) (L : mL) (R : mR) (q : (Int32) ⊕ (Unit)) (H : Heap) (locs : List Loc) (ls : Array Slot), va_P D vwCl (wd ce b kdC lnC 272 I L R) H → va_S (box b 272) s.heap H locs → WT kdC R → kdC x0 = 14 → lv_has ls 5 [(0, .ref (b + x0)), (1, .int x1), (2, .int x2), (3, .int x3), (4, .int x4)] → f_X8_sameParts_L57 n x0 x1 x2 x3 x4 I R = some q → (∀ (_ : Unit), some (Sum.inr ()) = some q → ∀ (H1 : Heap) (locs1 : List Loc) (ls1 : Array Slot), va_P D vwCl (wd ce b kdC lnC 272 I L R) H1 → va_S (box b 272) s.heap H1 locs1 → lv_has ls1 5 [] → W p l e rmX8_sameParts s m av below meth c H1 locs1 0 0 QQ (F0 m 92 ls1 [])) → (∀ (r : Int32), some (Sum.inl r) = some q → ∀ (H1 : Heap) (locs1 : List Loc) (ls1 : Array Slot) (pc1 : Nat), decode cX8_sameParts pc1 = .ok (.ireturn, 1) → zb r = true → va_P D vwCl (wd ce b kdC lnC 272 I L R) H1 → WT kdC R → va_S (box b 272) s.heap H1 locs1 → W p l e rmX8_sameParts s m av below meth c H1 locs1 0 0 QQ (F0 m pc1 ls1 [.int r])) → W p l e rmX8_sameParts s m av below meth c H locs 0 0 QQ (F0 m 57 ls []) := by
              intro n
              induction n with
              | zero =>
                intro x0 x1 x2 x3 x4 I L R q H locs ls hP hS hT h0 hl hf kx kr
                exact absurd (show (none : Option ((Int32) ⊕ (Unit))) = some _ from hf) (by simp)
              | succ n ih =>
                intro x0 x1 x2 x3 x4 I L R q H locs ls hP hS hT h0 hl hf kx kr
                rw [f_X8_sameParts_L57] at hf
                refine lv_iload hx hb dX8_sameParts_57 (lv_at hl 4 rfl) ?_
                refine lv_iload_n hx hb dX8_sameParts_59 rfl (lv_at hl 3 rfl) ?_
                refine lv_icmp_ge (tgt := 92) hx hb dX8_sameParts_60 (by decide) (fun c9 => ?_) (fun c9 => ?_)
                · have hf := ifT hf c9
                  exact kx () hf H locs ls hP hS (lv_sub hl [] rfl)
                · have hf := ifF hf c9
                  refine lv_aload_n hx hb dX8_sameParts_63 rfl (lv_at hl 0 rfl) ?_
                  have t10 : kdC (R x0 0) = 1 := wt hT h0 rfl
                  refine mm_getr hx hb hts hown hKK hP fk8_0 (Nat.le_of_ble_eq_true rfl) lkX8_13 (kdC_lt h0 (Nat.succ_ne_zero _)) h0 (nC t10 (Nat.succ_ne_zero _)) dX8_sameParts_64 ?_
                  refine lv_iload_n hx hb dX8_sameParts_67 rfl (lv_at hl 1 rfl) ?_
                  refine lv_iload hx hb dX8_sameParts_68 (lv_at hl 4 rfl) ?_
                  refine lv_iadd hx hb dX8_sameParts_70 ?_
                  obtain ⟨g11, hf⟩ := grd hf
                  refine mm_iald hx hb hKK hP (kdC_lt t10 (Nat.succ_ne_zero _)) t10 g11 dX8_sameParts_71 ?_
                  refine lv_aload_n hx hb dX8_sameParts_72 rfl (lv_at hl 0 rfl) ?_
                  refine mm_getr hx hb hts hown hKK hP fk8_0 (Nat.le_of_ble_eq_true rfl) lkX8_13 (kdC_lt h0 (Nat.succ_ne_zero _)) h0 (nC t10 (Nat.succ_ne_zero _)) dX8_sameParts_73 ?_
                  refine lv_iload_n hx hb dX8_sameParts_76 rfl (lv_at hl 2 rfl) ?_
                  refine lv_iload hx hb dX8_sameParts_77 (lv_at hl 4 rfl) ?_
                  refine lv_iadd hx hb dX8_sameParts_79 ?_
                  obtain ⟨g12, hf⟩ := grd hf
                  refine mm_iald hx hb hKK hP (kdC_lt t10 (Nat.succ_ne_zero _)) t10 g12 dX8_sameParts_80 ?_
                  refine lv_icmp_eq (tgt := 86) hx hb dX8_sameParts_81 (by decide) (fun c13 => ?_) (fun c13 => ?_)
                  · have hf := ifT hf c13
                    refine lv_iinc (v := (x4 + (1 : Int32))) (lv' := [(4, .int (x4 + (1 : Int32))), (0, .ref (b + x0)), (1, .int x1), (2, .int x2), (3, .int x3)]) hx hb dX8_sameParts_86 hl (k := 4) rfl rfl (Nat.le_of_ble_eq_true rfl) rfl (fun ls hl => ?_)
                    refine lv_goto (tgt := 57) hx hb dX8_sameParts_89 (by decide) ?_
                    exact ih x0 x1 x2 x3 (x4 + (1 : Int32)) I L R q H locs ls hP hS hT h0 (lv_sub hl [1, 2, 3, 4, 0] rfl) hf kx kr
                  · have hf := ifF hf c13
                    refine lv_iconst (v := (0 : Int32)) hx hb dX8_sameParts_84 (by decide) ?_
                    exact kr (0 : Int32) hf H locs ls _ dX8_sameParts_85 rfl hP hT hS
            obtain ⟨q_14, e_14, hf⟩ := bdS_o hf
            refine lp57 FU x0 x1 x2 ((I (R x0 1) x1.toNatClampNeg) - x1) (0 : Int32) I L R q_14 H locs ls hP hS hT h0 (lv_sub hl [2, 3, 4, 1, 0] rfl) e_14 (fun _ hq H locs ls hP hS hl => ?_) (fun r_14 hq H locs ls pc1 hd hz hP hT hS => ?_)
            · have hf := elR0 hf (Option.some.inj hq).symm
              refine lv_iconst (v := (1 : Int32)) hx hb dX8_sameParts_92 (by decide) ?_
              exact hret (1 : Int32) hf H locs ls _ dX8_sameParts_93 rfl hP hT hS
            · have hf := elL1 hf (Option.some.inj hq).symm
              exact hret r_14 hf H locs ls pc1 hd hz hP hT hS
          · have hf := ifF hf c8
            refine lv_iconst (v := (0 : Int32)) hx hb dX8_sameParts_43 (by decide) ?_
            exact hret (0 : Int32) hf H locs ls _ dX8_sameParts_44 rfl hP hT hS
def rmX9_fits : Room := { frames := 1, cells := 0, slots := 0, locals := 24 }
set_option maxHeartbeats 4000000 in
set_option maxRecDepth 100000 in
theorem k_X9_fits (l : Launch) (D : va_G) (ce : Nat → ClassId) (b : Nat) (I : mI) (L : mL) (R : mR) (hT : WT kdC R) (x0 : Nat) (x1 : Nat) (x2 : Nat) (x3 : Int32) (h0 : kdC x0 = 15) (h1 : kdC x1 = 14) (h2 : kdC x2 = 14) (o1 : Int32) (o2 : mI) (hf : f_X9_fits x0 x1 x2 x3 I R = some (o1, o2)) : Met l yX9_fits (Cond.code yX9_fits cX9_fits 8 (some .boolean) :: GW) rmX9_fits (va_Pc [.ref (b + x0), .ref (b + x1), .ref (b + x2), .int x3] (PW D ce b kdC lnC 272 I L R)) (va_Qi (fun r u => r = o1 ∧ u = (o2, L, R)) (QW D ce b kdC lnC 272) (box b 272)) 0 0 (box b 272) := by
  refine Met.ofW (cc := cX9_fits) (maxL := 8) (ret := (some .boolean)) (by decide) rfl ?_
  intro p e s m args below meth c s₁ B hml hv
  obtain ⟨rfl, hP, hKK⟩ := hv
  have hx := B.exec
  have hb := B.bytes
  have hr := B.returns
  have hts0 := atoms_spec (ws := Cond.code yX9_fits cX9_fits 8 (some .boolean) :: GW) B.pre
  have hts : ∀ w ∈ GW, w.before _ s = true := fun w h => hts0 w (List.mem_cons_of_mem _ h)
  clear hts0
  have hown : s.vm.findClass RX9 = some m.cls := findClass_of_methodNamed B.named
  have hlocks := B.notSynchronized
  have hA : ∀ q, box b 272 q → box b 272 q := fun _ h => h
  have hS : va_S (box b 272) s.heap s.heap [] := va_S.rf
  have hl := lv_entry ([.ref (b + x0), .ref (b + x1), .ref (b + x2), .int x3]) (n := 8) (Nat.le_of_ble_eq_true rfl)
  rw [lg_entry_eq]
  generalize (lg_sl ([.ref (b + x0), .ref (b + x1), .ref (b + x2), .int x3]) ++ List.replicate (8 - (lg_sl ([.ref (b + x0), .ref (b + x1), .ref (b + x2), .int x3])).length) Slot.unset).toArray = ls at hl ⊢
  have hl : lv_has ls 8 [(0, .ref (b + x0)), (1, .ref (b + x1)), (2, .ref (b + x2)), (3, .int x3)] := hl
  generalize ([.ref (b + x0), .ref (b + x1), .ref (b + x2), .int x3] : List Value).toArray = av at hts ⊢
  show W p l e rmX9_fits s m av below meth c s.heap [] 0 0 _ _
  obtain ⟨QQ, hQQ⟩ : ∃ z, z = MQ below (va_Qi (fun r u => r = o1 ∧ u = (o2, L, R)) (QW D ce b kdC lnC 272) (box b 272)) av s 0 0 (box b 272) := ⟨_, rfl⟩
  rw [← hQQ]
  have hret : ∀ (r : Int32) (I1 : mI), some (r, I1) = some (o1, o2) → ∀ (H1 : Heap) (locs1 : List Loc) (ls1 : Array Slot) (pc1 : Nat), decode cX9_fits pc1 = .ok (.ireturn, 1) → zb r = true → va_P D vwCl (wd ce b kdC lnC 272 I1 L R) H1 → WT kdC R → va_S (box b 272) s.heap H1 locs1 → W p l e rmX9_fits s m av below meth c H1 locs1 0 0 QQ (F0 m pc1 ls1 [.int r]) := by
    intro r I1 hq H1 locs1 ls1 pc1 hd hz hP hT hS
    cases hq
    rw [hQQ]
    exact mm_zret hx hb hr hlocks hz hP hT hS hd
  unfold f_X9_fits at hf
  obtain ⟨H, hH⟩ : ∃ z, z = s.heap := ⟨_, rfl⟩
  obtain ⟨locs, hlo⟩ : ∃ z : List Loc, z = [] := ⟨_, rfl⟩
  have hP : va_P D vwCl (wd ce b kdC lnC 272 I L R) H := by rw [hH]; exact hP
  have hS : va_S (box b 272) s.heap H locs := by rw [hH, hlo]; exact hS
  rw [show W p l e rmX9_fits s m av below meth c s.heap [] 0 0 QQ = W p l e rmX9_fits s m av below meth c H locs 0 0 QQ by rw [hH, hlo]]
  clear hH hlo
  clear hQQ
  show W p l e rmX9_fits s m av below meth c H locs 0 0 QQ (F0 m 0 ls [])
  refine lv_aload_n hx hb dX9_fits_0 rfl (lv_at hl 0 rfl) ?_
  have t1 : kdC (R x0 1) = 1 := wt hT h0 rfl
  refine mm_getr hx hb hts hown hKK hP fk9_1 (Nat.le_of_ble_eq_true rfl) lkX9_20 (kdC_lt h0 (Nat.succ_ne_zero _)) h0 (nC t1 (Nat.succ_ne_zero _)) dX9_fits_1 ?_
  refine lv_iconst (v := (1 : Int32)) hx hb dX9_fits_4 (by decide) ?_
  refine lv_iconst (v := (-1 : Int32)) hx hb dX9_fits_5 (by decide) ?_
  obtain ⟨g2, hf⟩ := grd hf
  refine jnE hf (fun I3 eI3 hf => ?_)
  refine mm_iast hx hb hKK hP hA hS (kdC_lt t1 (Nat.succ_ne_zero _)) t1 g2 dX9_fits_6 (fun H locs hP hS => ?_)
  rw [← eI3] at hP
  refine lv_aload_n hx hb dX9_fits_7 rfl (lv_at hl 0 rfl) ?_
  refine mm_getr hx hb hts hown hKK hP fk9_1 (Nat.le_of_ble_eq_true rfl) lkX9_20 (kdC_lt h0 (Nat.succ_ne_zero _)) h0 (nC t1 (Nat.succ_ne_zero _)) dX9_fits_8 ?_
  refine lv_iconst (v := (2 : Int32)) hx hb dX9_fits_11 (by decide) ?_
  refine lv_iconst (v := (-1 : Int32)) hx hb dX9_fits_12 (by decide) ?_
  obtain ⟨g4, hf⟩ := grd hf
  refine jnE hf (fun I5 eI5 hf => ?_)
  refine mm_iast hx hb hKK hP hA hS (kdC_lt t1 (Nat.succ_ne_zero _)) t1 g4 dX9_fits_13 (fun H locs hP hS => ?_)
  rw [← eI5] at hP
  refine lv_iload_n hx hb dX9_fits_14 rfl (lv_at hl 3 rfl) ?_
  refine lv_istore (lv' := [(4, .int x3), (0, .ref (b + x0)), (1, .ref (b + x1)), (2, .ref (b + x2)), (3, .int x3)]) hx hb dX9_fits_15 hl (Nat.le_of_ble_eq_true rfl) rfl (fun ls hl => ?_)
  refine lv_iconst (v := (0 : Int32)) hx hb dX9_fits_17 (by decide) ?_
  refine lv_istore (lv' := [(5, .int (0 : Int32)), (4, .int x3), (0, .ref (b + x0)), (1, .ref (b + x1)), (2, .ref (b + x2)), (3, .int x3)]) hx hb dX9_fits_18 hl (Nat.le_of_ble_eq_true rfl) rfl (fun ls hl => ?_)
  have lp20 : ∀ (n : Nat) (x0 : Nat) (x1 : Nat) (x2 : Nat) (x4 : Int32) (x5 : Int32) (I : mI) (L : mL) (R : mR) (q : (Int32 × mI) ⊕ (mI)) (H : Heap) (locs : List Loc) (ls : Array Slot), va_P D vwCl (wd ce b kdC lnC 272 I L R) H → va_S (box b 272) s.heap H locs → WT kdC R → kdC x0 = 15 → kdC x1 = 14 → kdC x2 = 14 → lv_has ls 8 [(0, .ref (b + x0)), (1, .ref (b + x1)), (2, .ref (b + x2)), (4, .int x4), (5, .int x5)] → f_X9_fits_L20 n x0 x1 x2 x4 x5 I R = some q → (∀ (I1 : mI), some (Sum.inr I1) = some q → ∀ (H1 : Heap) (locs1 : List Loc) (ls1 : Array Slot), va_P D vwCl (wd ce b kdC lnC 272 I1 L R) H1 → va_S (box b 272) s.heap H1 locs1 → lv_has ls1 8 [] → W p l e rmX9_fits s m av below meth c H1 locs1 0 0 QQ (F0 m 155 ls1 [])) → (∀ (r : Int32) (I1 : mI), some (Sum.inl (r, I1)) = some q → ∀ (H1 : Heap) (locs1 : List Loc) (ls1 : Array Slot) (pc1 : Nat), decode cX9_fits pc1 = .ok (.ireturn, 1) → zb r = true → va_P D vwCl (wd ce b kdC lnC 272 I1 L R) H1 → WT kdC R → va_S (box b 272) s.heap H1 locs1 → W p l e rmX9_fits s m av below meth c H1 locs1 0 0 QQ (F0 m pc1 ls1 [.int r])) → W p l e rmX9_fits s m av below meth c H locs 0 0 QQ (F0 m 20 ls []) := by
    intro n
    induction n with
    | zero =>
      intro x0 x1 x2 x4 x5 I L R q H locs ls hP hS hT h0 h1 h2 hl hf kx kr
      exact absurd (show (none : Option ((Int32 × mI) ⊕ (mI))) = some _ from hf) (by simp)
    | succ n ih =>
      intro x0 x1 x2 x4 x5 I L R q H locs ls hP hS hT h0 h1 h2 hl hf kx kr
      rw [f_X9_fits_L20] at hf
      refine lv_iload hx hb dX9_fits_20 (lv_at hl 4 rfl) ?_
      refine lv_aload_n hx hb dX9_fits_22 rfl (lv_at hl 1 rfl) ?_
      refine mm_geti hx hb hts hown hKK hP fk8_2 (Or.inl rfl) lkX9_49 (kdC_lt h1 (Nat.succ_ne_zero _)) h1 dX9_fits_23 ?_
      refine lv_icmp_ge (tgt := 155) hx hb dX9_fits_26 (by decide) (fun c6 => ?_) (fun c6 => ?_)
      · have hf := ifT hf c6
        exact kx I hf H locs ls hP hS (lv_sub hl [] rfl)
      · have hf := ifF hf c6
        refine lv_iload hx hb dX9_fits_29 (lv_at hl 3 rfl) ?_
        refine lv_if_lt (tgt := 43) hx hb dX9_fits_31 (by decide) (fun c7 => ?_) (fun c7 => ?_)
        · have hf := ifT hf c7
          refine lv_iconst (v := (0 : Int32)) hx hb dX9_fits_43 (by decide) ?_
          exact kr (0 : Int32) I hf H locs ls _ dX9_fits_44 rfl hP hT hS
        · have hf := ifF hf c7
          refine lv_iload hx hb dX9_fits_34 (lv_at hl 3 rfl) ?_
          refine lv_aload_n hx hb dX9_fits_36 rfl (lv_at hl 2 rfl) ?_
          refine mm_geti hx hb hts hown hKK hP fk8_2 (Or.inl rfl) lkX9_49 (kdC_lt h2 (Nat.succ_ne_zero _)) h2 dX9_fits_37 ?_
          refine lv_icmp_lt (tgt := 45) hx hb dX9_fits_40 (by decide) (fun c8 => ?_) (fun c8 => ?_)
          · have hf := ifT hf c8
            refine lv_aload_n hx hb dX9_fits_45 rfl (lv_at hl 1 rfl) ?_
            have t9 : kdC (R x1 0) = 1 := wt hT h1 rfl
            refine mm_getr hx hb hts hown hKK hP fk8_0 (Nat.le_of_ble_eq_true rfl) lkX9_71 (kdC_lt h1 (Nat.succ_ne_zero _)) h1 (nC t9 (Nat.succ_ne_zero _)) dX9_fits_46 ?_
            refine lv_iload hx hb dX9_fits_49 (lv_at hl 4 rfl) ?_
            obtain ⟨g10, hf⟩ := grd hf
            refine mm_iald hx hb hKK hP (kdC_lt t9 (Nat.succ_ne_zero _)) t9 g10 dX9_fits_51 ?_
            refine lv_istore (lv' := [(6, .int (I (R x1 0) x5.toNatClampNeg)), (0, .ref (b + x0)), (1, .ref (b + x1)), (2, .ref (b + x2)), (4, .int x4), (5, .int x5)]) hx hb dX9_fits_52 hl (Nat.le_of_ble_eq_true rfl) rfl (fun ls hl => ?_)
            refine lv_iload hx hb dX9_fits_54 (lv_at hl 0 rfl) ?_
            obtain ⟨r11, e11, hf⟩ := bd1_o hf
            refine mm_Ni (rest := []) hx hb hml hown hts hKK hP hS hA nkX9_74 (k_X10_unknownBit l D ce b I L R hT (I (R x1 0) x5.toNatClampNeg)  r11 e11) rfl hl.1 rfl (Nat.le_of_ble_eq_true rfl) ⟨rfl, rfl⟩ ⟨Nat.le_of_ble_eq_true rfl, Nat.le_of_ble_eq_true rfl⟩ ⟨Nat.zero_le _, Nat.zero_le _⟩ dX9_fits_56 (fun H locs hP hT hS => ?_)
            refine lv_istore (lv' := [(7, .int r11), (6, .int (I (R x1 0) x5.toNatClampNeg)), (0, .ref (b + x0)), (1, .ref (b + x1)), (2, .ref (b + x2)), (4, .int x4), (5, .int x5)]) hx hb dX9_fits_59 hl (Nat.le_of_ble_eq_true rfl) rfl (fun ls hl => ?_)
            refine lv_iload hx hb dX9_fits_61 (lv_at hl 0 rfl) ?_
            refine jnE hf (fun j80_12 ej_12 hf => ?_)
            have hJ80_12 : ∀ (H : Heap) (locs : List Loc) (ls : Array Slot), va_P D vwCl (wd ce b kdC lnC 272 I L R) H → va_S (box b 272) s.heap H locs → lv_has ls 8 [(0, .ref (b + x0)), (1, .ref (b + x1)), (2, .ref (b + x2)), (4, .int x4), (5, .int x5), (7, .int r11)] → j80_12  = some q → W p l e rmX9_fits s m av below meth c H locs 0 0 QQ (F0 m 80 ls []) := by
              intro  H locs ls hP hS  hl hf
              rw [ej_12] at hf
              try dsimp only at hf
              refine lv_iload hx hb dX9_fits_80 (lv_at hl 5 rfl) ?_
              refine jnE hf (fun j105_13 ej_13 hf => ?_)
              have hJ105_13 : ∀ (I_13 : mI) (H : Heap) (locs : List Loc) (ls : Array Slot), va_P D vwCl (wd ce b kdC lnC 272 I_13 L R) H → va_S (box b 272) s.heap H locs → lv_has ls 8 [(0, .ref (b + x0)), (1, .ref (b + x1)), (2, .ref (b + x2)), (4, .int x4), (5, .int x5), (7, .int r11)] → j105_13 I_13 = some q → W p l e rmX9_fits s m av below meth c H locs 0 0 QQ (F0 m 105 ls []) := by
                intro I_13 H locs ls hP hS  hl hf
                rw [ej_13] at hf
                try dsimp only at hf
                refine lv_iload hx hb dX9_fits_105 (lv_at hl 5 rfl) ?_
                refine jnE hf (fun j128_14 ej_14 hf => ?_)
                have hJ128_14 : ∀ (H : Heap) (locs : List Loc) (ls : Array Slot), va_P D vwCl (wd ce b kdC lnC 272 I_13 L R) H → va_S (box b 272) s.heap H locs → lv_has ls 8 [(0, .ref (b + x0)), (1, .ref (b + x1)), (2, .ref (b + x2)), (4, .int x4), (5, .int x5), (7, .int r11)] → j128_14  = some q → W p l e rmX9_fits s m av below meth c H locs 0 0 QQ (F0 m 128 ls []) := by
                  intro  H locs ls hP hS  hl hf
                  rw [ej_14] at hf
                  try dsimp only at hf
                  refine lv_iload hx hb dX9_fits_128 (lv_at hl 5 rfl) ?_
                  refine jnE hf (fun j147_15 ej_15 hf => ?_)
                  have hJ147_15 : ∀ (w0_15 : Int32) (H : Heap) (locs : List Loc) (ls : Array Slot), va_P D vwCl (wd ce b kdC lnC 272 I_13 L R) H → va_S (box b 272) s.heap H locs → lv_has ls 8 [(0, .ref (b + x0)), (1, .ref (b + x1)), (2, .ref (b + x2)), (5, .int x5)] → j147_15 w0_15 = some q → W p l e rmX9_fits s m av below meth c H locs 0 0 QQ (F0 m 147 ls [.int w0_15]) := by
                    intro w0_15 H locs ls hP hS  hl hf
                    rw [ej_15] at hf
                    try dsimp only at hf
                    refine lv_istore (lv' := [(4, .int w0_15), (0, .ref (b + x0)), (1, .ref (b + x1)), (2, .ref (b + x2)), (5, .int x5)]) hx hb dX9_fits_147 hl (Nat.le_of_ble_eq_true rfl) rfl (fun ls hl => ?_)
                    refine lv_iinc (v := (x5 + (1 : Int32))) (lv' := [(5, .int (x5 + (1 : Int32))), (4, .int w0_15), (0, .ref (b + x0)), (1, .ref (b + x1)), (2, .ref (b + x2))]) hx hb dX9_fits_149 hl (k := 4) rfl rfl (Nat.le_of_ble_eq_true rfl) rfl (fun ls hl => ?_)
                    refine lv_goto (tgt := 20) hx hb dX9_fits_152 (by decide) ?_
                    exact ih x0 x1 x2 w0_15 (x5 + (1 : Int32)) I_13 L R q H locs ls hP hS hT h0 h1 h2 (lv_sub hl [2, 3, 4, 1, 0] rfl) hf kx kr
                  clear ej_15
                  refine lv_if_ne (tgt := 140) hx hb dX9_fits_130 (by decide) (fun c16 => ?_) (fun c16 => ?_)
                  · have hf := ifF hf c16
                    refine lv_aload_n hx hb dX9_fits_140 rfl (lv_at hl 2 rfl) ?_
                    have t17 : kdC (R x2 1) = 1 := wt hT h2 rfl
                    refine mm_getr hx hb hts hown hKK hP fk8_1 (Nat.le_of_ble_eq_true rfl) lkX9_52 (kdC_lt h2 (Nat.succ_ne_zero _)) h2 (nC t17 (Nat.succ_ne_zero _)) dX9_fits_141 ?_
                    refine lv_iload hx hb dX9_fits_144 (lv_at hl 3 rfl) ?_
                    obtain ⟨g18, hf⟩ := grd hf
                    refine mm_iald hx hb hKK hP (kdC_lt t17 (Nat.succ_ne_zero _)) t17 g18 dX9_fits_146 ?_
                    exact hJ147_15 (I_13 (R x2 1) x4.toNatClampNeg) H locs ls hP hS  (lv_sub hl [0, 1, 2, 4] rfl) hf
                  · have hf := ifT hf c16
                    refine lv_iload hx hb dX9_fits_133 (lv_at hl 3 rfl) ?_
                    refine lv_iconst (v := (1 : Int32)) hx hb dX9_fits_135 (by decide) ?_
                    refine lv_iadd hx hb dX9_fits_136 ?_
                    refine lv_goto (tgt := 147) hx hb dX9_fits_137 (by decide) ?_
                    exact hJ147_15 (x4 + (1 : Int32)) H locs ls hP hS  (lv_sub hl [0, 1, 2, 4] rfl) hf
                clear ej_14
                refine lv_if_eq (tgt := 128) hx hb dX9_fits_107 (by decide) (fun c19 => ?_) (fun c19 => ?_)
                · have hf := ifT hf c19
                  exact hJ128_14  H locs ls hP hS  (lv_sub hl [0, 1, 2, 3, 4, 5] rfl) hf
                · have hf := ifF hf c19
                  refine lv_aload_n hx hb dX9_fits_110 rfl (lv_at hl 2 rfl) ?_
                  refine lv_aload_n hx hb dX9_fits_111 rfl (lv_at hl 0 rfl) ?_
                  have t20 : kdC (R x0 1) = 1 := wt hT h0 rfl
                  refine mm_getr hx hb hts hown hKK hP fk9_1 (Nat.le_of_ble_eq_true rfl) lkX9_20 (kdC_lt h0 (Nat.succ_ne_zero _)) h0 (nC t20 (Nat.succ_ne_zero _)) dX9_fits_112 ?_
                  refine lv_iload hx hb dX9_fits_115 (lv_at hl 5 rfl) ?_
                  obtain ⟨g21, hf⟩ := grd hf
                  refine mm_iald hx hb hKK hP (kdC_lt t20 (Nat.succ_ne_zero _)) t20 g21 dX9_fits_117 ?_
                  refine lv_iload hx hb dX9_fits_118 (lv_at hl 3 rfl) ?_
                  obtain ⟨r22, e22, hf⟩ := bd1_o hf
                  refine mm_Vi (rest := []) hx hb hml hown hts hKK hP hS hA (kdC_lt h2 (Nat.succ_ne_zero _)) h2 (show vwCl[8]? = some (yX8_sameParts.cls, TX8, 3) from rfl) vkX9_78 (k_X8_sameParts l D ce b I_13 L R hT x2 (I_13 (R x0 1) r11.toNatClampNeg) x4 h2 r22 e22) rfl hl.1 rfl (Nat.le_of_ble_eq_true rfl) ⟨rfl, rfl⟩ ⟨Nat.le_of_ble_eq_true rfl, Nat.le_of_ble_eq_true rfl⟩ ⟨Nat.zero_le _, Nat.zero_le _⟩ dX9_fits_120 (fun H locs hP hT hS => ?_)
                  refine lv_if_ne (tgt := 128) hx hb dX9_fits_123 (by decide) (fun c23 => ?_) (fun c23 => ?_)
                  · have hf := ifF hf c23
                    exact hJ128_14  H locs ls hP hS  (lv_sub hl [0, 1, 2, 3, 4, 5] rfl) hf
                  · have hf := ifT hf c23
                    refine lv_iconst (v := (0 : Int32)) hx hb dX9_fits_126 (by decide) ?_
                    exact kr (0 : Int32) I_13 hf H locs ls _ dX9_fits_127 rfl hP hT hS
              clear ej_13
              refine lv_if_eq (tgt := 105) hx hb dX9_fits_82 (by decide) (fun c24 => ?_) (fun c24 => ?_)
              · have hf := ifT hf c24
                exact hJ105_13 I H locs ls hP hS  (lv_sub hl [0, 1, 2, 3, 4, 5] rfl) hf
              · have hf := ifF hf c24
                refine lv_aload_n hx hb dX9_fits_85 rfl (lv_at hl 0 rfl) ?_
                have t25 : kdC (R x0 1) = 1 := wt hT h0 rfl
                refine mm_getr hx hb hts hown hKK hP fk9_1 (Nat.le_of_ble_eq_true rfl) lkX9_20 (kdC_lt h0 (Nat.succ_ne_zero _)) h0 (nC t25 (Nat.succ_ne_zero _)) dX9_fits_86 ?_
                refine lv_iload hx hb dX9_fits_89 (lv_at hl 5 rfl) ?_
                obtain ⟨g26, hf⟩ := grd hf
                refine mm_iald hx hb hKK hP (kdC_lt t25 (Nat.succ_ne_zero _)) t25 g26 dX9_fits_91 ?_
                refine lv_iconst (v := (-1 : Int32)) hx hb dX9_fits_92 (by decide) ?_
                refine lv_icmp_ne (tgt := 105) hx hb dX9_fits_93 (by decide) (fun c27 => ?_) (fun c27 => ?_)
                · have hf := ifF hf c27
                  exact hJ105_13 I H locs ls hP hS  (lv_sub hl [0, 1, 2, 3, 4, 5] rfl) hf
                · have hf := ifT hf c27
                  refine lv_aload_n hx hb dX9_fits_96 rfl (lv_at hl 0 rfl) ?_
                  refine mm_getr hx hb hts hown hKK hP fk9_1 (Nat.le_of_ble_eq_true rfl) lkX9_20 (kdC_lt h0 (Nat.succ_ne_zero _)) h0 (nC t25 (Nat.succ_ne_zero _)) dX9_fits_97 ?_
                  refine lv_iload hx hb dX9_fits_100 (lv_at hl 5 rfl) ?_
                  refine lv_iload hx hb dX9_fits_102 (lv_at hl 3 rfl) ?_
                  refine jnE hf (fun I28 eI28 hf => ?_)
                  refine mm_iast hx hb hKK hP hA hS (kdC_lt t25 (Nat.succ_ne_zero _)) t25 g26 dX9_fits_104 (fun H locs hP hS => ?_)
                  rw [← eI28] at hP
                  exact hJ105_13 I28 H locs ls hP hS  (lv_sub hl [0, 1, 2, 3, 4, 5] rfl) hf
            clear ej_12
            refine lv_if_ne (tgt := 80) hx hb dX9_fits_63 (by decide) (fun c29 => ?_) (fun c29 => ?_)
            · have hf := ifF hf c29
              exact hJ80_12  H locs ls hP hS  (lv_sub hl [2, 3, 4, 5, 6, 0] rfl) hf
            · have hf := ifT hf c29
              refine lv_aload_n hx hb dX9_fits_66 rfl (lv_at hl 4 rfl) ?_
              have t30 : kdC (R x2 0) = 1 := wt hT h2 rfl
              refine mm_getr hx hb hts hown hKK hP fk8_0 (Nat.le_of_ble_eq_true rfl) lkX9_71 (kdC_lt h2 (Nat.succ_ne_zero _)) h2 (nC t30 (Nat.succ_ne_zero _)) dX9_fits_67 ?_
              refine lv_iload hx hb dX9_fits_70 (lv_at hl 5 rfl) ?_
              obtain ⟨g31, hf⟩ := grd hf
              refine mm_iald hx hb hKK hP (kdC_lt t30 (Nat.succ_ne_zero _)) t30 g31 dX9_fits_72 ?_
              refine lv_iload hx hb dX9_fits_73 (lv_at hl 1 rfl) ?_
              refine lv_icmp_eq (tgt := 80) hx hb dX9_fits_75 (by decide) (fun c32 => ?_) (fun c32 => ?_)
              · have hf := ifT hf c32
                exact hJ80_12  H locs ls hP hS  (lv_sub hl [2, 3, 4, 5, 6, 0] rfl) hf
              · have hf := ifF hf c32
                refine lv_iconst (v := (0 : Int32)) hx hb dX9_fits_78 (by decide) ?_
                exact kr (0 : Int32) I hf H locs ls _ dX9_fits_79 rfl hP hT hS
          · have hf := ifF hf c8
            refine lv_iconst (v := (0 : Int32)) hx hb dX9_fits_43 (by decide) ?_
            exact kr (0 : Int32) I hf H locs ls _ dX9_fits_44 rfl hP hT hS
  obtain ⟨q_33, e_33, hf⟩ := bdS_o hf
  refine lp20 FU x0 x1 x2 x3 (0 : Int32) I5 L R q_33 H locs ls hP hS hT h0 h1 h2 (lv_sub hl [2, 3, 4, 1, 0] rfl) e_33 (fun I_33 hq H locs ls hP hS hl => ?_) (fun r_33 I_33 hq H locs ls pc1 hd hz hP hT hS => ?_)
  · have hf := elR1 hf (Option.some.inj hq).symm
    refine lv_iconst (v := (1 : Int32)) hx hb dX9_fits_155 (by decide) ?_
    exact hret (1 : Int32) I_33 hf H locs ls _ dX9_fits_156 rfl hP hT hS
  · have hf := elL2 hf (Option.some.inj hq).symm
    exact hret r_33 I_33 hf H locs ls pc1 hd hz hP hT hS
def rmX9_leastRuleAt : Room := { frames := 2, cells := 0, slots := 0, locals := 51 }
set_option maxHeartbeats 4000000 in
set_option maxRecDepth 100000 in
theorem k_X9_leastRuleAt (l : Launch) (D : va_G) (ce : Nat → ClassId) (b : Nat) (I : mI) (L : mL) (R : mR) (hT : WT kdC R) (x0 : Nat) (x1 : Nat) (x2 : Nat) (x3 : Int32) (h0 : kdC x0 = 15) (h1 : kdC x1 = 13) (h2 : kdC x2 = 14) (o1 : Int32) (o2 : mI) (hf : f_X9_leastRuleAt x0 x1 x2 x3 I R = some (o1, o2)) : Met l yX9_leastRuleAt (Cond.code yX9_leastRuleAt cX9_leastRuleAt 5 (some .int) :: GW) rmX9_leastRuleAt (va_Pc [.ref (b + x0), .ref (b + x1), .ref (b + x2), .int x3] (PW D ce b kdC lnC 272 I L R)) (va_Qi (fun r u => r = o1 ∧ u = (o2, L, R)) (QW D ce b kdC lnC 272) (box b 272)) 0 0 (box b 272) := by
  refine Met.ofW (cc := cX9_leastRuleAt) (maxL := 5) (ret := (some .int)) (by decide) rfl ?_
  intro p e s m args below meth c s₁ B hml hv
  obtain ⟨rfl, hP, hKK⟩ := hv
  have hx := B.exec
  have hb := B.bytes
  have hr := B.returns
  have hts0 := atoms_spec (ws := Cond.code yX9_leastRuleAt cX9_leastRuleAt 5 (some .int) :: GW) B.pre
  have hts : ∀ w ∈ GW, w.before _ s = true := fun w h => hts0 w (List.mem_cons_of_mem _ h)
  clear hts0
  have hown : s.vm.findClass RX9 = some m.cls := findClass_of_methodNamed B.named
  have hlocks := B.notSynchronized
  have hA : ∀ q, box b 272 q → box b 272 q := fun _ h => h
  have hS : va_S (box b 272) s.heap s.heap [] := va_S.rf
  have hl := lv_entry ([.ref (b + x0), .ref (b + x1), .ref (b + x2), .int x3]) (n := 5) (Nat.le_of_ble_eq_true rfl)
  rw [lg_entry_eq]
  generalize (lg_sl ([.ref (b + x0), .ref (b + x1), .ref (b + x2), .int x3]) ++ List.replicate (5 - (lg_sl ([.ref (b + x0), .ref (b + x1), .ref (b + x2), .int x3])).length) Slot.unset).toArray = ls at hl ⊢
  have hl : lv_has ls 5 [(0, .ref (b + x0)), (1, .ref (b + x1)), (2, .ref (b + x2)), (3, .int x3)] := hl
  generalize ([.ref (b + x0), .ref (b + x1), .ref (b + x2), .int x3] : List Value).toArray = av at hts ⊢
  show W p l e rmX9_leastRuleAt s m av below meth c s.heap [] 0 0 _ _
  obtain ⟨QQ, hQQ⟩ : ∃ z, z = MQ below (va_Qi (fun r u => r = o1 ∧ u = (o2, L, R)) (QW D ce b kdC lnC 272) (box b 272)) av s 0 0 (box b 272) := ⟨_, rfl⟩
  rw [← hQQ]
  have hret : ∀ (r : Int32) (I1 : mI), some (r, I1) = some (o1, o2) → ∀ (H1 : Heap) (locs1 : List Loc) (ls1 : Array Slot) (pc1 : Nat), decode cX9_leastRuleAt pc1 = .ok (.ireturn, 1) → va_P D vwCl (wd ce b kdC lnC 272 I1 L R) H1 → WT kdC R → va_S (box b 272) s.heap H1 locs1 → W p l e rmX9_leastRuleAt s m av below meth c H1 locs1 0 0 QQ (F0 m pc1 ls1 [.int r]) := by
    intro r I1 hq H1 locs1 ls1 pc1 hd hP hT hS
    cases hq
    rw [hQQ]
    exact mm_iret hx hb hr hlocks hP hT hS hd
  unfold f_X9_leastRuleAt at hf
  obtain ⟨H, hH⟩ : ∃ z, z = s.heap := ⟨_, rfl⟩
  obtain ⟨locs, hlo⟩ : ∃ z : List Loc, z = [] := ⟨_, rfl⟩
  have hP : va_P D vwCl (wd ce b kdC lnC 272 I L R) H := by rw [hH]; exact hP
  have hS : va_S (box b 272) s.heap H locs := by rw [hH, hlo]; exact hS
  rw [show W p l e rmX9_leastRuleAt s m av below meth c s.heap [] 0 0 QQ = W p l e rmX9_leastRuleAt s m av below meth c H locs 0 0 QQ by rw [hH, hlo]]
  clear hH hlo
  clear hQQ
  show W p l e rmX9_leastRuleAt s m av below meth c H locs 0 0 QQ (F0 m 0 ls [])
  refine lv_iconst (v := (0 : Int32)) hx hb dX9_leastRuleAt_0 (by decide) ?_
  refine lv_istore (lv' := [(4, .int (0 : Int32)), (0, .ref (b + x0)), (1, .ref (b + x1)), (2, .ref (b + x2)), (3, .int x3)]) hx hb dX9_leastRuleAt_1 hl (Nat.le_of_ble_eq_true rfl) rfl (fun ls hl => ?_)
  have lp3 : ∀ (n : Nat) (x0 : Nat) (x1 : Nat) (x2 : Nat) (x3 : Int32) (x4 : Int32) (I : mI) (L : mL) (R : mR) (q : (Int32 × mI) ⊕ (mI)) (H : Heap) (locs : List Loc) (ls : Array Slot), va_P D vwCl (wd ce b kdC lnC 272 I L R) H → va_S (box b 272) s.heap H locs → WT kdC R → kdC x0 = 15 → kdC x1 = 13 → kdC x2 = 14 → lv_has ls 5 [(0, .ref (b + x0)), (1, .ref (b + x1)), (2, .ref (b + x2)), (3, .int x3), (4, .int x4)] → f_X9_leastRuleAt_L3 n x0 x1 x2 x3 x4 I R = some q → (∀ (I1 : mI), some (Sum.inr I1) = some q → ∀ (H1 : Heap) (locs1 : List Loc) (ls1 : Array Slot), va_P D vwCl (wd ce b kdC lnC 272 I1 L R) H1 → va_S (box b 272) s.heap H1 locs1 → lv_has ls1 5 [] → W p l e rmX9_leastRuleAt s m av below meth c H1 locs1 0 0 QQ (F0 m 40 ls1 [])) → (∀ (r : Int32) (I1 : mI), some (Sum.inl (r, I1)) = some q → ∀ (H1 : Heap) (locs1 : List Loc) (ls1 : Array Slot) (pc1 : Nat), decode cX9_leastRuleAt pc1 = .ok (.ireturn, 1) → va_P D vwCl (wd ce b kdC lnC 272 I1 L R) H1 → WT kdC R → va_S (box b 272) s.heap H1 locs1 → W p l e rmX9_leastRuleAt s m av below meth c H1 locs1 0 0 QQ (F0 m pc1 ls1 [.int r])) → W p l e rmX9_leastRuleAt s m av below meth c H locs 0 0 QQ (F0 m 3 ls []) := by
    intro n
    induction n with
    | zero =>
      intro x0 x1 x2 x3 x4 I L R q H locs ls hP hS hT h0 h1 h2 hl hf kx kr
      exact absurd (show (none : Option ((Int32 × mI) ⊕ (mI))) = some _ from hf) (by simp)
    | succ n ih =>
      intro x0 x1 x2 x3 x4 I L R q H locs ls hP hS hT h0 h1 h2 hl hf kx kr
      rw [f_X9_leastRuleAt_L3] at hf
      refine lv_iload hx hb dX9_leastRuleAt_3 (lv_at hl 4 rfl) ?_
      refine lv_aload_n hx hb dX9_leastRuleAt_5 rfl (lv_at hl 1 rfl) ?_
      refine mm_geti hx hb hts hown hKK hP fk7_2 (Or.inl rfl) lkX9_59 (kdC_lt h1 (Nat.succ_ne_zero _)) h1 dX9_leastRuleAt_6 ?_
      refine lv_icmp_ge (tgt := 40) hx hb dX9_leastRuleAt_9 (by decide) (fun c1 => ?_) (fun c1 => ?_)
      · have hf := ifT hf c1
        exact kx I hf H locs ls hP hS (lv_sub hl [] rfl)
      · have hf := ifF hf c1
        refine lv_aload_n hx hb dX9_leastRuleAt_12 rfl (lv_at hl 0 rfl) ?_
        refine lv_aload_n hx hb dX9_leastRuleAt_13 rfl (lv_at hl 1 rfl) ?_
        have t2 : kdC (R x1 0) = 4 := wt hT h1 rfl
        refine mm_getr hx hb hts hown hKK hP fk7_0 (Nat.le_of_ble_eq_true rfl) lkX9_28 (kdC_lt h1 (Nat.succ_ne_zero _)) h1 (nC t2 (Nat.succ_ne_zero _)) dX9_leastRuleAt_14 ?_
        refine lv_iload hx hb dX9_leastRuleAt_17 (lv_at hl 4 rfl) ?_
        obtain ⟨g3, hf⟩ := grd hf
        have t4 : kdC (R (R x1 0) x4.toNatClampNeg) = 9 := wt hT t2 rfl
        refine mm_aald4 hx hb hKK hP (kdC_lt t2 (Nat.succ_ne_zero _)) t2 g3 (nC t4 (Nat.succ_ne_zero _)) dX9_leastRuleAt_19 ?_
        have t5 : kdC (R (R (R x1 0) x4.toNatClampNeg) 0) = 14 := wt hT t4 rfl
        refine mm_getr hx hb hts hown hKK hP fk3_0 (Nat.le_of_ble_eq_true rfl) lkX9_62 (kdC_lt t4 (Nat.succ_ne_zero _)) t4 (nC t5 (Nat.succ_ne_zero _)) dX9_leastRuleAt_20 ?_
        refine lv_aload_n hx hb dX9_leastRuleAt_23 rfl (lv_at hl 2 rfl) ?_
        refine lv_iload_n hx hb dX9_leastRuleAt_24 rfl (lv_at hl 3 rfl) ?_
        obtain ⟨r6, I6, e6, hf⟩ := bd2_o hf
        refine mm_Vi (rest := []) hx hb hml hown hts hKK hP hS hA (kdC_lt h0 (Nat.succ_ne_zero _)) h0 (show vwCl[9]? = some (yX9_fits.cls, TX9, 4) from rfl) vkX9_67 (k_X9_fits l D ce b I L R hT x0 (R (R (R x1 0) x4.toNatClampNeg) 0) x2 x3 h0 t5 h2 r6 I6 e6) rfl hl.1 rfl (Nat.le_of_ble_eq_true rfl) ⟨rfl, rfl⟩ ⟨Nat.le_of_ble_eq_true rfl, Nat.le_of_ble_eq_true rfl⟩ ⟨Nat.zero_le _, Nat.zero_le _⟩ dX9_leastRuleAt_25 (fun H locs hP hT hS => ?_)
        refine lv_if_eq (tgt := 34) hx hb dX9_leastRuleAt_28 (by decide) (fun c7 => ?_) (fun c7 => ?_)
        · have hf := ifT hf c7
          refine lv_iinc (v := (x4 + (1 : Int32))) (lv' := [(4, .int (x4 + (1 : Int32))), (0, .ref (b + x0)), (1, .ref (b + x1)), (2, .ref (b + x2)), (3, .int x3)]) hx hb dX9_leastRuleAt_34 hl (k := 4) rfl rfl (Nat.le_of_ble_eq_true rfl) rfl (fun ls hl => ?_)
          refine lv_goto (tgt := 3) hx hb dX9_leastRuleAt_37 (by decide) ?_
          exact ih x0 x1 x2 x3 (x4 + (1 : Int32)) I6 L R q H locs ls hP hS hT h0 h1 h2 (lv_sub hl [1, 2, 3, 4, 0] rfl) hf kx kr
        · have hf := ifF hf c7
          refine lv_iload hx hb dX9_leastRuleAt_31 (lv_at hl 4 rfl) ?_
          exact kr x4 I6 hf H locs ls _ dX9_leastRuleAt_33 hP hT hS
  obtain ⟨q_8, e_8, hf⟩ := bdS_o hf
  refine lp3 FU x0 x1 x2 x3 (0 : Int32) I L R q_8 H locs ls hP hS hT h0 h1 h2 (lv_sub hl [1, 2, 3, 4, 0] rfl) e_8 (fun I_8 hq H locs ls hP hS hl => ?_) (fun r_8 I_8 hq H locs ls pc1 hd hP hT hS => ?_)
  · have hf := elR1 hf (Option.some.inj hq).symm
    refine lv_iconst (v := (-1 : Int32)) hx hb dX9_leastRuleAt_40 (by decide) ?_
    exact hret (-1 : Int32) I_8 hf H locs ls _ dX9_leastRuleAt_41 hP hT hS
  · have hf := elL2 hf (Option.some.inj hq).symm
    exact hret r_8 I_8 hf H locs ls pc1 hd hP hT hS
def rmX9_seek : Room := { frames := 3, cells := 0, slots := 0, locals := 75 }
set_option maxHeartbeats 4000000 in
set_option maxRecDepth 100000 in
theorem k_X9_seek (l : Launch) (D : va_G) (ce : Nat → ClassId) (b : Nat) (I : mI) (L : mL) (R : mR) (hT : WT kdC R) (x0 : Nat) (x1 : Nat) (x2 : Nat) (h0 : kdC x0 = 15) (h1 : kdC x1 = 13) (h2 : kdC x2 = 14) (o1 : Int32) (o2 : mI) (hf : f_X9_seek x0 x1 x2 I R = some (o1, o2)) : Met l yX9_seek (Cond.code yX9_seek cX9_seek 5 (some .boolean) :: GW) rmX9_seek (va_Pc [.ref (b + x0), .ref (b + x1), .ref (b + x2)] (PW D ce b kdC lnC 272 I L R)) (va_Qi (fun r u => r = o1 ∧ u = (o2, L, R)) (QW D ce b kdC lnC 272) (box b 272)) 0 0 (box b 272) := by
  refine Met.ofW (cc := cX9_seek) (maxL := 5) (ret := (some .boolean)) (by decide) rfl ?_
  intro p e s m args below meth c s₁ B hml hv
  obtain ⟨rfl, hP, hKK⟩ := hv
  have hx := B.exec
  have hb := B.bytes
  have hr := B.returns
  have hts0 := atoms_spec (ws := Cond.code yX9_seek cX9_seek 5 (some .boolean) :: GW) B.pre
  have hts : ∀ w ∈ GW, w.before _ s = true := fun w h => hts0 w (List.mem_cons_of_mem _ h)
  clear hts0
  have hown : s.vm.findClass RX9 = some m.cls := findClass_of_methodNamed B.named
  have hlocks := B.notSynchronized
  have hA : ∀ q, box b 272 q → box b 272 q := fun _ h => h
  have hS : va_S (box b 272) s.heap s.heap [] := va_S.rf
  have hl := lv_entry ([.ref (b + x0), .ref (b + x1), .ref (b + x2)]) (n := 5) (Nat.le_of_ble_eq_true rfl)
  rw [lg_entry_eq]
  generalize (lg_sl ([.ref (b + x0), .ref (b + x1), .ref (b + x2)]) ++ List.replicate (5 - (lg_sl ([.ref (b + x0), .ref (b + x1), .ref (b + x2)])).length) Slot.unset).toArray = ls at hl ⊢
  have hl : lv_has ls 5 [(0, .ref (b + x0)), (1, .ref (b + x1)), (2, .ref (b + x2))] := hl
  generalize ([.ref (b + x0), .ref (b + x1), .ref (b + x2)] : List Value).toArray = av at hts ⊢
  show W p l e rmX9_seek s m av below meth c s.heap [] 0 0 _ _
  obtain ⟨QQ, hQQ⟩ : ∃ z, z = MQ below (va_Qi (fun r u => r = o1 ∧ u = (o2, L, R)) (QW D ce b kdC lnC 272) (box b 272)) av s 0 0 (box b 272) := ⟨_, rfl⟩
  rw [← hQQ]
  have hret : ∀ (r : Int32) (I1 : mI), some (r, I1) = some (o1, o2) → ∀ (H1 : Heap) (locs1 : List Loc) (ls1 : Array Slot) (pc1 : Nat), decode cX9_seek pc1 = .ok (.ireturn, 1) → zb r = true → va_P D vwCl (wd ce b kdC lnC 272 I1 L R) H1 → WT kdC R → va_S (box b 272) s.heap H1 locs1 → W p l e rmX9_seek s m av below meth c H1 locs1 0 0 QQ (F0 m pc1 ls1 [.int r]) := by
    intro r I1 hq H1 locs1 ls1 pc1 hd hz hP hT hS
    cases hq
    rw [hQQ]
    exact mm_zret hx hb hr hlocks hz hP hT hS hd
  unfold f_X9_seek at hf
  obtain ⟨H, hH⟩ : ∃ z, z = s.heap := ⟨_, rfl⟩
  obtain ⟨locs, hlo⟩ : ∃ z : List Loc, z = [] := ⟨_, rfl⟩
  have hP : va_P D vwCl (wd ce b kdC lnC 272 I L R) H := by rw [hH]; exact hP
  have hS : va_S (box b 272) s.heap H locs := by rw [hH, hlo]; exact hS
  rw [show W p l e rmX9_seek s m av below meth c s.heap [] 0 0 QQ = W p l e rmX9_seek s m av below meth c H locs 0 0 QQ by rw [hH, hlo]]
  clear hH hlo
  clear hQQ
  show W p l e rmX9_seek s m av below meth c H locs 0 0 QQ (F0 m 0 ls [])
  refine lv_aload_n hx hb dX9_seek_0 rfl (lv_at hl 0 rfl) ?_
  refine lv_iconst (v := (-1 : Int32)) hx hb dX9_seek_1 (by decide) ?_
  refine jnE hf (fun I1 eI1 hf => ?_)
  refine mm_puti hx hb hts hown hKK hP hA hS fk9_2 (Or.inl rfl) fw9_2 lkX9_46 (kdC_lt h0 (Nat.succ_ne_zero _)) h0 rfl rfl dX9_seek_2 (fun H locs hP hS => ?_)
  rw [← eI1] at hP
  refine lv_iconst (v := (0 : Int32)) hx hb dX9_seek_5 (by decide) ?_
  refine lv_istore_n (lv' := [(3, .int (0 : Int32)), (0, .ref (b + x0)), (1, .ref (b + x1)), (2, .ref (b + x2))]) hx hb dX9_seek_6 rfl hl (Nat.le_of_ble_eq_true rfl) rfl (fun ls hl => ?_)
  have lp7 : ∀ (n : Nat) (x0 : Nat) (x1 : Nat) (x2 : Nat) (x3 : Int32) (I : mI) (L : mL) (R : mR) (a1 : mI) (H : Heap) (locs : List Loc) (ls : Array Slot), va_P D vwCl (wd ce b kdC lnC 272 I L R) H → va_S (box b 272) s.heap H locs → WT kdC R → kdC x0 = 15 → kdC x1 = 13 → kdC x2 = 14 → lv_has ls 5 [(0, .ref (b + x0)), (1, .ref (b + x1)), (2, .ref (b + x2)), (3, .int x3)] → f_X9_seek_L7 n x0 x1 x2 x3 I R = some a1 → (∀ (H1 : Heap) (locs1 : List Loc) (ls1 : Array Slot), va_P D vwCl (wd ce b kdC lnC 272 a1 L R) H1 → va_S (box b 272) s.heap H1 locs1 → lv_has ls1 5 [(0, .ref (b + x0))] → W p l e rmX9_seek s m av below meth c H1 locs1 0 0 QQ (F0 m 71 ls1 [])) → W p l e rmX9_seek s m av below meth c H locs 0 0 QQ (F0 m 7 ls []) := by
    intro n
    induction n with
    | zero =>
      intro x0 x1 x2 x3 I L R a1 H locs ls hP hS hT h0 h1 h2 hl hf kx
      exact absurd (show (none : Option (mI)) = some _ from hf) (by simp)
    | succ n ih =>
      intro x0 x1 x2 x3 I L R a1 H locs ls hP hS hT h0 h1 h2 hl hf kx
      rw [f_X9_seek_L7] at hf
      refine lv_iload_n hx hb dX9_seek_7 rfl (lv_at hl 3 rfl) ?_
      refine lv_aload_n hx hb dX9_seek_8 rfl (lv_at hl 2 rfl) ?_
      refine mm_geti hx hb hts hown hKK hP fk8_2 (Or.inl rfl) lkX9_49 (kdC_lt h2 (Nat.succ_ne_zero _)) h2 dX9_seek_9 ?_
      refine lv_icmp_ge (tgt := 71) hx hb dX9_seek_12 (by decide) (fun c2 => ?_) (fun c2 => ?_)
      · have hf := ifT hf c2
        cases hf
        exact kx H locs ls hP hS (lv_sub hl [0] rfl)
      · have hf := ifF hf c2
        refine lv_aload_n hx hb dX9_seek_15 rfl (lv_at hl 0 rfl) ?_
        refine mm_geti hx hb hts hown hKK hP fk9_2 (Or.inl rfl) lkX9_46 (kdC_lt h0 (Nat.succ_ne_zero _)) h0 dX9_seek_16 ?_
        refine lv_iconst (v := (-1 : Int32)) hx hb dX9_seek_19 (by decide) ?_
        refine jnE hf (fun j39_3 ej_3 hf => ?_)
        have hJ39_3 : ∀ (H : Heap) (locs : List Loc) (ls : Array Slot), va_P D vwCl (wd ce b kdC lnC 272 I L R) H → va_S (box b 272) s.heap H locs → lv_has ls 5 [(0, .ref (b + x0)), (1, .ref (b + x1)), (2, .ref (b + x2)), (3, .int x3)] → j39_3  = some a1 → W p l e rmX9_seek s m av below meth c H locs 0 0 QQ (F0 m 39 ls []) := by
          intro  H locs ls hP hS  hl hf
          rw [ej_3] at hf
          try dsimp only at hf
          refine lv_aload_n hx hb dX9_seek_39 rfl (lv_at hl 0 rfl) ?_
          refine lv_aload_n hx hb dX9_seek_40 rfl (lv_at hl 1 rfl) ?_
          refine lv_aload_n hx hb dX9_seek_41 rfl (lv_at hl 2 rfl) ?_
          refine lv_iload_n hx hb dX9_seek_42 rfl (lv_at hl 3 rfl) ?_
          obtain ⟨r4, I4, e4, hf⟩ := bd2_o hf
          refine mm_Vi (rest := []) hx hb hml hown hts hKK hP hS hA (kdC_lt h0 (Nat.succ_ne_zero _)) h0 (show vwCl[9]? = some (yX9_leastRuleAt.cls, TX9, 4) from rfl) vkX9_55 (k_X9_leastRuleAt l D ce b I L R hT x0 x1 x2 x3 h0 h1 h2 r4 I4 e4) rfl hl.1 rfl (Nat.le_of_ble_eq_true rfl) ⟨rfl, rfl⟩ ⟨Nat.le_of_ble_eq_true rfl, Nat.le_of_ble_eq_true rfl⟩ ⟨Nat.zero_le _, Nat.zero_le _⟩ dX9_seek_43 (fun H locs hP hT hS => ?_)
          refine lv_istore (lv' := [(4, .int r4), (0, .ref (b + x0)), (1, .ref (b + x1)), (2, .ref (b + x2)), (3, .int x3)]) hx hb dX9_seek_46 hl (Nat.le_of_ble_eq_true rfl) rfl (fun ls hl => ?_)
          refine lv_iload hx hb dX9_seek_48 (lv_at hl 0 rfl) ?_
          refine lv_iconst (v := (-1 : Int32)) hx hb dX9_seek_50 (by decide) ?_
          refine jnE hf (fun j65_5 ej_5 hf => ?_)
          have hJ65_5 : ∀ (I_5 : mI) (H : Heap) (locs : List Loc) (ls : Array Slot), va_P D vwCl (wd ce b kdC lnC 272 I_5 L R) H → va_S (box b 272) s.heap H locs → lv_has ls 5 [(0, .ref (b + x0)), (1, .ref (b + x1)), (2, .ref (b + x2)), (3, .int x3)] → j65_5 I_5 = some a1 → W p l e rmX9_seek s m av below meth c H locs 0 0 QQ (F0 m 65 ls []) := by
            intro I_5 H locs ls hP hS  hl hf
            rw [ej_5] at hf
            try dsimp only at hf
            refine lv_iinc (v := (x3 + (1 : Int32))) (lv' := [(3, .int (x3 + (1 : Int32))), (0, .ref (b + x0)), (1, .ref (b + x1)), (2, .ref (b + x2))]) hx hb dX9_seek_65 hl (k := 3) rfl rfl (Nat.le_of_ble_eq_true rfl) rfl (fun ls hl => ?_)
            refine lv_goto (tgt := 7) hx hb dX9_seek_68 (by decide) ?_
            exact ih x0 x1 x2 (x3 + (1 : Int32)) I_5 L R a1 H locs ls hP hS hT h0 h1 h2 (lv_sub hl [1, 2, 3, 0] rfl) hf kx
          clear ej_5
          refine lv_icmp_eq (tgt := 65) hx hb dX9_seek_51 (by decide) (fun c6 => ?_) (fun c6 => ?_)
          · have hf := ifT hf c6
            exact hJ65_5 I4 H locs ls hP hS  (lv_sub hl [1, 2, 3, 4] rfl) hf
          · have hf := ifF hf c6
            refine lv_aload_n hx hb dX9_seek_54 rfl (lv_at hl 1 rfl) ?_
            refine lv_iload_n hx hb dX9_seek_55 rfl (lv_at hl 4 rfl) ?_
            refine jnE hf (fun I7 eI7 hf => ?_)
            refine mm_puti hx hb hts hown hKK hP hA hS fk9_2 (Or.inl rfl) fw9_2 lkX9_46 (kdC_lt h0 (Nat.succ_ne_zero _)) h0 rfl rfl dX9_seek_56 (fun H locs hP hS => ?_)
            rw [← eI7] at hP
            refine lv_aload_n hx hb dX9_seek_59 rfl (lv_at hl 1 rfl) ?_
            refine lv_iload hx hb dX9_seek_60 (lv_at hl 0 rfl) ?_
            refine jnE hf (fun I8 eI8 hf => ?_)
            refine mm_puti hx hb hts hown hKK hP hA hS fk9_3 (Or.inl rfl) fw9_3 lkX9_34 (kdC_lt h0 (Nat.succ_ne_zero _)) h0 rfl rfl dX9_seek_62 (fun H locs hP hS => ?_)
            rw [← eI8] at hP
            exact hJ65_5 I8 H locs ls hP hS  (lv_sub hl [1, 2, 3, 4] rfl) hf
        clear ej_3
        refine lv_icmp_eq (tgt := 39) hx hb dX9_seek_20 (by decide) (fun c9 => ?_) (fun c9 => ?_)
        · have hf := ifT hf c9
          exact hJ39_3  H locs ls hP hS  (lv_sub hl [0, 1, 2, 3] rfl) hf
        · have hf := ifF hf c9
          refine lv_iload_n hx hb dX9_seek_23 rfl (lv_at hl 3 rfl) ?_
          refine lv_aload_n hx hb dX9_seek_24 rfl (lv_at hl 2 rfl) ?_
          have t10 : kdC (R x2 1) = 1 := wt hT h2 rfl
          refine mm_getr hx hb hts hown hKK hP fk8_1 (Nat.le_of_ble_eq_true rfl) lkX9_52 (kdC_lt h2 (Nat.succ_ne_zero _)) h2 (nC t10 (Nat.succ_ne_zero _)) dX9_seek_25 ?_
          refine lv_aload_n hx hb dX9_seek_28 rfl (lv_at hl 0 rfl) ?_
          refine mm_geti hx hb hts hown hKK hP fk9_2 (Or.inl rfl) lkX9_46 (kdC_lt h0 (Nat.succ_ne_zero _)) h0 dX9_seek_29 ?_
          obtain ⟨g11, hf⟩ := grd hf
          refine mm_iald hx hb hKK hP (kdC_lt t10 (Nat.succ_ne_zero _)) t10 g11 dX9_seek_32 ?_
          refine lv_icmp_lt (tgt := 39) hx hb dX9_seek_33 (by decide) (fun c12 => ?_) (fun c12 => ?_)
          · have hf := ifT hf c12
            exact hJ39_3  H locs ls hP hS  (lv_sub hl [0, 1, 2, 3] rfl) hf
          · have hf := ifF hf c12
            refine lv_goto (tgt := 71) hx hb dX9_seek_36 (by decide) ?_
            cases hf
            exact kx H locs ls hP hS (lv_sub hl [0] rfl)
  obtain ⟨I_13, e_13, hf⟩ := bd1_o hf
  refine lp7 FU x0 x1 x2 (0 : Int32) I1 L R I_13 H locs ls hP hS hT h0 h1 h2 (lv_sub hl [1, 2, 3, 0] rfl) e_13 (fun H locs ls hP hS hl => ?_)
  refine lv_aload_n hx hb dX9_seek_71 rfl (lv_at hl 0 rfl) ?_
  refine mm_geti hx hb hts hown hKK hP fk9_2 (Or.inl rfl) lkX9_46 (kdC_lt h0 (Nat.succ_ne_zero _)) h0 dX9_seek_72 ?_
  refine lv_iconst (v := (-1 : Int32)) hx hb dX9_seek_75 (by decide) ?_
  refine lv_icmp_eq (tgt := 83) hx hb dX9_seek_76 (by decide) (fun c14 => ?_) (fun c14 => ?_)
  · have hf := ifT hf c14
    refine lv_iconst (v := (0 : Int32)) hx hb dX9_seek_83 (by decide) ?_
    exact hret (0 : Int32) I_13 hf H locs ls _ dX9_seek_84 rfl hP hT hS
  · have hf := ifF hf c14
    refine lv_iconst (v := (1 : Int32)) hx hb dX9_seek_79 (by decide) ?_
    refine lv_goto (tgt := 84) hx hb dX9_seek_80 (by decide) ?_
    exact hret (1 : Int32) I_13 hf H locs ls _ dX9_seek_84 rfl hP hT hS
def rmX9_sizeBehind : Room := { frames := 1, cells := 0, slots := 0, locals := 21 }
set_option maxHeartbeats 4000000 in
set_option maxRecDepth 100000 in
theorem k_X9_sizeBehind (l : Launch) (D : va_G) (ce : Nat → ClassId) (b : Nat) (I : mI) (L : mL) (R : mR) (hT : WT kdC R) (x0 : Nat) (x1 : Nat) (x2 : Nat) (h0 : kdC x0 = 15) (h1 : kdC x1 = 14) (h2 : kdC x2 = 14) (o1 : Int32) (hf : f_X9_sizeBehind x0 x1 x2 I R = some o1) : Met l yX9_sizeBehind (Cond.code yX9_sizeBehind cX9_sizeBehind 6 (some .int) :: GW) rmX9_sizeBehind (va_Pc [.ref (b + x0), .ref (b + x1), .ref (b + x2)] (PW D ce b kdC lnC 272 I L R)) (va_Qi (fun r u => r = o1 ∧ u = (I, L, R)) (QW D ce b kdC lnC 272) (box b 272)) 0 0 (box b 272) := by
  refine Met.ofW (cc := cX9_sizeBehind) (maxL := 6) (ret := (some .int)) (by decide) rfl ?_
  intro p e s m args below meth c s₁ B hml hv
  obtain ⟨rfl, hP, hKK⟩ := hv
  have hx := B.exec
  have hb := B.bytes
  have hr := B.returns
  have hts0 := atoms_spec (ws := Cond.code yX9_sizeBehind cX9_sizeBehind 6 (some .int) :: GW) B.pre
  have hts : ∀ w ∈ GW, w.before _ s = true := fun w h => hts0 w (List.mem_cons_of_mem _ h)
  clear hts0
  have hown : s.vm.findClass RX9 = some m.cls := findClass_of_methodNamed B.named
  have hlocks := B.notSynchronized
  have hA : ∀ q, box b 272 q → box b 272 q := fun _ h => h
  have hS : va_S (box b 272) s.heap s.heap [] := va_S.rf
  have hl := lv_entry ([.ref (b + x0), .ref (b + x1), .ref (b + x2)]) (n := 6) (Nat.le_of_ble_eq_true rfl)
  rw [lg_entry_eq]
  generalize (lg_sl ([.ref (b + x0), .ref (b + x1), .ref (b + x2)]) ++ List.replicate (6 - (lg_sl ([.ref (b + x0), .ref (b + x1), .ref (b + x2)])).length) Slot.unset).toArray = ls at hl ⊢
  have hl : lv_has ls 6 [(0, .ref (b + x0)), (1, .ref (b + x1)), (2, .ref (b + x2))] := hl
  generalize ([.ref (b + x0), .ref (b + x1), .ref (b + x2)] : List Value).toArray = av at hts ⊢
  show W p l e rmX9_sizeBehind s m av below meth c s.heap [] 0 0 _ _
  obtain ⟨QQ, hQQ⟩ : ∃ z, z = MQ below (va_Qi (fun r u => r = o1 ∧ u = (I, L, R)) (QW D ce b kdC lnC 272) (box b 272)) av s 0 0 (box b 272) := ⟨_, rfl⟩
  rw [← hQQ]
  have hret : ∀ (r : Int32), some r = some o1 → ∀ (H1 : Heap) (locs1 : List Loc) (ls1 : Array Slot) (pc1 : Nat), decode cX9_sizeBehind pc1 = .ok (.ireturn, 1) → va_P D vwCl (wd ce b kdC lnC 272 I L R) H1 → WT kdC R → va_S (box b 272) s.heap H1 locs1 → W p l e rmX9_sizeBehind s m av below meth c H1 locs1 0 0 QQ (F0 m pc1 ls1 [.int r]) := by
    intro r hq H1 locs1 ls1 pc1 hd hP hT hS
    cases hq
    rw [hQQ]
    exact mm_iret hx hb hr hlocks hP hT hS hd
  unfold f_X9_sizeBehind at hf
  obtain ⟨H, hH⟩ : ∃ z, z = s.heap := ⟨_, rfl⟩
  obtain ⟨locs, hlo⟩ : ∃ z : List Loc, z = [] := ⟨_, rfl⟩
  have hP : va_P D vwCl (wd ce b kdC lnC 272 I L R) H := by rw [hH]; exact hP
  have hS : va_S (box b 272) s.heap H locs := by rw [hH, hlo]; exact hS
  rw [show W p l e rmX9_sizeBehind s m av below meth c s.heap [] 0 0 QQ = W p l e rmX9_sizeBehind s m av below meth c H locs 0 0 QQ by rw [hH, hlo]]
  clear hH hlo
  clear hQQ
  show W p l e rmX9_sizeBehind s m av below meth c H locs 0 0 QQ (F0 m 0 ls [])
  refine lv_aload_n hx hb dX9_sizeBehind_0 rfl (lv_at hl 2 rfl) ?_
  refine mm_geti hx hb hts hown hKK hP fk8_2 (Or.inl rfl) lkX9_49 (kdC_lt h2 (Nat.succ_ne_zero _)) h2 dX9_sizeBehind_1 ?_
  refine lv_aload_n hx hb dX9_sizeBehind_4 rfl (lv_at hl 2 rfl) ?_
  refine lv_aload_n hx hb dX9_sizeBehind_5 rfl (lv_at hl 0 rfl) ?_
  refine mm_geti hx hb hts hown hKK hP fk9_2 (Or.inl rfl) lkX9_46 (kdC_lt h0 (Nat.succ_ne_zero _)) h0 dX9_sizeBehind_6 ?_
  obtain ⟨r1, e1, hf⟩ := bd1_o hf
  refine mm_Vi (rest := [.int (I x2 2)]) hx hb hml hown hts hKK hP hS hA (kdC_lt h2 (Nat.succ_ne_zero _)) h2 (show vwCl[8]? = some (yX8_partSize.cls, TX8, 3) from rfl) vkX9_103 (k_X8_partSize l D ce b I L R hT x2 (I x0 2) h2 r1 e1) rfl hl.1 rfl (Nat.le_of_ble_eq_true rfl) ⟨rfl, rfl⟩ ⟨Nat.le_of_ble_eq_true rfl, Nat.le_of_ble_eq_true rfl⟩ ⟨Nat.zero_le _, Nat.zero_le _⟩ dX9_sizeBehind_9 (fun H locs hP hT hS => ?_)
  refine lv_isub hx hb dX9_sizeBehind_12 ?_
  refine lv_istore_n (lv' := [(3, .int ((I x2 2) - r1)), (0, .ref (b + x0)), (1, .ref (b + x1)), (2, .ref (b + x2))]) hx hb dX9_sizeBehind_13 rfl hl (Nat.le_of_ble_eq_true rfl) rfl (fun ls hl => ?_)
  refine lv_iconst (v := (0 : Int32)) hx hb dX9_sizeBehind_14 (by decide) ?_
  refine lv_istore (lv' := [(4, .int (0 : Int32)), (3, .int ((I x2 2) - r1)), (0, .ref (b + x0)), (1, .ref (b + x1)), (2, .ref (b + x2))]) hx hb dX9_sizeBehind_15 hl (Nat.le_of_ble_eq_true rfl) rfl (fun ls hl => ?_)
  have lp17 : ∀ (n : Nat) (x0 : Nat) (x1 : Nat) (x2 : Nat) (x3 : Int32) (x4 : Int32) (I : mI) (L : mL) (R : mR) (a1 : Int32) (H : Heap) (locs : List Loc) (ls : Array Slot), va_P D vwCl (wd ce b kdC lnC 272 I L R) H → va_S (box b 272) s.heap H locs → WT kdC R → kdC x0 = 15 → kdC x1 = 14 → kdC x2 = 14 → lv_has ls 6 [(0, .ref (b + x0)), (1, .ref (b + x1)), (2, .ref (b + x2)), (3, .int x3), (4, .int x4)] → f_X9_sizeBehind_L17 n x0 x1 x2 x3 x4 I R = some a1 → (∀ (H1 : Heap) (locs1 : List Loc) (ls1 : Array Slot), va_P D vwCl (wd ce b kdC lnC 272 I L R) H1 → va_S (box b 272) s.heap H1 locs1 → lv_has ls1 6 [(3, .int a1)] → W p l e rmX9_sizeBehind s m av below meth c H1 locs1 0 0 QQ (F0 m 67 ls1 [])) → W p l e rmX9_sizeBehind s m av below meth c H locs 0 0 QQ (F0 m 17 ls []) := by
    intro n
    induction n with
    | zero =>
      intro x0 x1 x2 x3 x4 I L R a1 H locs ls hP hS hT h0 h1 h2 hl hf kx
      exact absurd (show (none : Option (Int32)) = some _ from hf) (by simp)
    | succ n ih =>
      intro x0 x1 x2 x3 x4 I L R a1 H locs ls hP hS hT h0 h1 h2 hl hf kx
      rw [f_X9_sizeBehind_L17] at hf
      refine lv_iload hx hb dX9_sizeBehind_17 (lv_at hl 4 rfl) ?_
      refine lv_aload_n hx hb dX9_sizeBehind_19 rfl (lv_at hl 1 rfl) ?_
      refine mm_geti hx hb hts hown hKK hP fk8_2 (Or.inl rfl) lkX9_49 (kdC_lt h1 (Nat.succ_ne_zero _)) h1 dX9_sizeBehind_20 ?_
      refine lv_icmp_ge (tgt := 67) hx hb dX9_sizeBehind_23 (by decide) (fun c2 => ?_) (fun c2 => ?_)
      · have hf := ifT hf c2
        cases hf
        exact kx H locs ls hP hS (lv_sub hl [3] rfl)
      · have hf := ifF hf c2
        refine lv_aload_n hx hb dX9_sizeBehind_26 rfl (lv_at hl 1 rfl) ?_
        have t3 : kdC (R x1 0) = 1 := wt hT h1 rfl
        refine mm_getr hx hb hts hown hKK hP fk8_0 (Nat.le_of_ble_eq_true rfl) lkX9_71 (kdC_lt h1 (Nat.succ_ne_zero _)) h1 (nC t3 (Nat.succ_ne_zero _)) dX9_sizeBehind_27 ?_
        refine lv_iload hx hb dX9_sizeBehind_30 (lv_at hl 4 rfl) ?_
        obtain ⟨g4, hf⟩ := grd hf
        refine mm_iald hx hb hKK hP (kdC_lt t3 (Nat.succ_ne_zero _)) t3 g4 dX9_sizeBehind_32 ?_
        obtain ⟨r5, e5, hf⟩ := bd1_o hf
        refine mm_Ni (rest := []) hx hb hml hown hts hKK hP hS hA nkX9_74 (k_X10_unknownBit l D ce b I L R hT (I (R x1 0) x4.toNatClampNeg)  r5 e5) rfl hl.1 rfl (Nat.le_of_ble_eq_true rfl) ⟨rfl, rfl⟩ ⟨Nat.le_of_ble_eq_true rfl, Nat.le_of_ble_eq_true rfl⟩ ⟨Nat.zero_le _, Nat.zero_le _⟩ dX9_sizeBehind_33 (fun H locs hP hT hS => ?_)
        refine lv_istore (lv' := [(5, .int r5), (0, .ref (b + x0)), (1, .ref (b + x1)), (2, .ref (b + x2)), (3, .int x3), (4, .int x4)]) hx hb dX9_sizeBehind_36 hl (Nat.le_of_ble_eq_true rfl) rfl (fun ls hl => ?_)
        refine lv_iload_n hx hb dX9_sizeBehind_38 rfl (lv_at hl 4 rfl) ?_
        refine lv_iload hx hb dX9_sizeBehind_39 (lv_at hl 0 rfl) ?_
        refine jnE hf (fun j59_6 ej_6 hf => ?_)
        have hJ59_6 : ∀ (w1_6 : Int32) (H : Heap) (locs : List Loc) (ls : Array Slot), va_P D vwCl (wd ce b kdC lnC 272 I L R) H → va_S (box b 272) s.heap H locs → lv_has ls 6 [(0, .ref (b + x0)), (1, .ref (b + x1)), (2, .ref (b + x2)), (4, .int x4)] → j59_6 w1_6 = some a1 → W p l e rmX9_sizeBehind s m av below meth c H locs 0 0 QQ (F0 m 59 ls [.int w1_6, .int x3]) := by
          intro w1_6 H locs ls hP hS  hl hf
          rw [ej_6] at hf
          try dsimp only at hf
          refine lv_iadd hx hb dX9_sizeBehind_59 ?_
          refine lv_istore_n (lv' := [(3, .int (x3 + w1_6)), (0, .ref (b + x0)), (1, .ref (b + x1)), (2, .ref (b + x2)), (4, .int x4)]) hx hb dX9_sizeBehind_60 rfl hl (Nat.le_of_ble_eq_true rfl) rfl (fun ls hl => ?_)
          refine lv_iinc (v := (x4 + (1 : Int32))) (lv' := [(4, .int (x4 + (1 : Int32))), (3, .int (x3 + w1_6)), (0, .ref (b + x0)), (1, .ref (b + x1)), (2, .ref (b + x2))]) hx hb dX9_sizeBehind_61 hl (k := 4) rfl rfl (Nat.le_of_ble_eq_true rfl) rfl (fun ls hl => ?_)
          refine lv_goto (tgt := 17) hx hb dX9_sizeBehind_64 (by decide) ?_
          exact ih x0 x1 x2 (x3 + w1_6) (x4 + (1 : Int32)) I L R a1 H locs ls hP hS hT h0 h1 h2 (lv_sub hl [2, 3, 4, 1, 0] rfl) hf kx
        clear ej_6
        refine lv_if_ne (tgt := 48) hx hb dX9_sizeBehind_41 (by decide) (fun c7 => ?_) (fun c7 => ?_)
        · have hf := ifF hf c7
          refine lv_aload_n hx hb dX9_sizeBehind_48 rfl (lv_at hl 3 rfl) ?_
          refine lv_aload_n hx hb dX9_sizeBehind_49 rfl (lv_at hl 1 rfl) ?_
          have t8 : kdC (R x0 1) = 1 := wt hT h0 rfl
          refine mm_getr hx hb hts hown hKK hP fk9_1 (Nat.le_of_ble_eq_true rfl) lkX9_20 (kdC_lt h0 (Nat.succ_ne_zero _)) h0 (nC t8 (Nat.succ_ne_zero _)) dX9_sizeBehind_50 ?_
          refine lv_iload hx hb dX9_sizeBehind_53 (lv_at hl 0 rfl) ?_
          obtain ⟨g9, hf⟩ := grd hf
          refine mm_iald hx hb hKK hP (kdC_lt t8 (Nat.succ_ne_zero _)) t8 g9 dX9_sizeBehind_55 ?_
          obtain ⟨r10, e10, hf⟩ := bd1_o hf
          refine mm_Vi (rest := [.int x3]) hx hb hml hown hts hKK hP hS hA (kdC_lt h2 (Nat.succ_ne_zero _)) h2 (show vwCl[8]? = some (yX8_partSize.cls, TX8, 3) from rfl) vkX9_103 (k_X8_partSize l D ce b I L R hT x2 (I (R x0 1) r5.toNatClampNeg) h2 r10 e10) rfl hl.1 rfl (Nat.le_of_ble_eq_true rfl) ⟨rfl, rfl⟩ ⟨Nat.le_of_ble_eq_true rfl, Nat.le_of_ble_eq_true rfl⟩ ⟨Nat.zero_le _, Nat.zero_le _⟩ dX9_sizeBehind_56 (fun H locs hP hT hS => ?_)
          exact hJ59_6 r10 H locs ls hP hS  (lv_sub hl [1, 2, 3, 5] rfl) hf
        · have hf := ifT hf c7
          refine lv_iconst (v := (1 : Int32)) hx hb dX9_sizeBehind_44 (by decide) ?_
          refine lv_goto (tgt := 59) hx hb dX9_sizeBehind_45 (by decide) ?_
          exact hJ59_6 (1 : Int32) H locs ls hP hS  (lv_sub hl [1, 2, 3, 5] rfl) hf
  obtain ⟨y3_11, e_11, hf⟩ := bd1_o hf
  refine lp17 FU x0 x1 x2 ((I x2 2) - r1) (0 : Int32) I L R y3_11 H locs ls hP hS hT h0 h1 h2 (lv_sub hl [2, 3, 4, 1, 0] rfl) e_11 (fun H locs ls hP hS hl => ?_)
  refine lv_iload_n hx hb dX9_sizeBehind_67 rfl (lv_at hl 0 rfl) ?_
  exact hret y3_11 hf H locs ls _ dX9_sizeBehind_68 hP hT hS
def rmX8_addPart : Room := { frames := 1, cells := 0, slots := 0, locals := 21 }
set_option maxHeartbeats 4000000 in
set_option maxRecDepth 100000 in
theorem k_X8_addPart (l : Launch) (D : va_G) (ce : Nat → ClassId) (b : Nat) (I : mI) (L : mL) (R : mR) (hT : WT kdC R) (x0 : Nat) (x1 : Nat) (x2 : Int32) (h0 : kdC x0 = 14) (h1 : kdC x1 = 14) (o1 : mI) (hf : f_X8_addPart x0 x1 x2 I R = some o1) : Met l yX8_addPart (Cond.code yX8_addPart cX8_addPart 5 none :: GW) rmX8_addPart (va_Pc [.ref (b + x0), .ref (b + x1), .int x2] (PW D ce b kdC lnC 272 I L R)) (va_Qv (fun u => u = (o1, L, R)) (QW D ce b kdC lnC 272) (box b 272)) 0 0 (box b 272) := by
  refine Met.ofW (cc := cX8_addPart) (maxL := 5) (ret := none) (by decide) rfl ?_
  intro p e s m args below meth c s₁ B hml hv
  obtain ⟨rfl, hP, hKK⟩ := hv
  have hx := B.exec
  have hb := B.bytes
  have hr := B.returns
  have hts0 := atoms_spec (ws := Cond.code yX8_addPart cX8_addPart 5 none :: GW) B.pre
  have hts : ∀ w ∈ GW, w.before _ s = true := fun w h => hts0 w (List.mem_cons_of_mem _ h)
  clear hts0
  have hown : s.vm.findClass RX8 = some m.cls := findClass_of_methodNamed B.named
  have hlocks := B.notSynchronized
  have hA : ∀ q, box b 272 q → box b 272 q := fun _ h => h
  have hS : va_S (box b 272) s.heap s.heap [] := va_S.rf
  have hl := lv_entry ([.ref (b + x0), .ref (b + x1), .int x2]) (n := 5) (Nat.le_of_ble_eq_true rfl)
  rw [lg_entry_eq]
  generalize (lg_sl ([.ref (b + x0), .ref (b + x1), .int x2]) ++ List.replicate (5 - (lg_sl ([.ref (b + x0), .ref (b + x1), .int x2])).length) Slot.unset).toArray = ls at hl ⊢
  have hl : lv_has ls 5 [(0, .ref (b + x0)), (1, .ref (b + x1)), (2, .int x2)] := hl
  generalize ([.ref (b + x0), .ref (b + x1), .int x2] : List Value).toArray = av at hts ⊢
  show W p l e rmX8_addPart s m av below meth c s.heap [] 0 0 _ _
  obtain ⟨QQ, hQQ⟩ : ∃ z, z = MQ below (va_Qv (fun u => u = (o1, L, R)) (QW D ce b kdC lnC 272) (box b 272)) av s 0 0 (box b 272) := ⟨_, rfl⟩
  rw [← hQQ]
  have hret : ∀ (I1 : mI), some I1 = some o1 → ∀ (H1 : Heap) (locs1 : List Loc) (ls1 : Array Slot) (pc1 : Nat), decode cX8_addPart pc1 = .ok (.return_, 1) → va_P D vwCl (wd ce b kdC lnC 272 I1 L R) H1 → WT kdC R → va_S (box b 272) s.heap H1 locs1 → W p l e rmX8_addPart s m av below meth c H1 locs1 0 0 QQ (F0 m pc1 ls1 []) := by
    intro I1 hq H1 locs1 ls1 pc1 hd hP hT hS
    cases hq
    rw [hQQ]
    exact mm_vret hx hb hr hlocks hP hT hS hd
  unfold f_X8_addPart at hf
  obtain ⟨H, hH⟩ : ∃ z, z = s.heap := ⟨_, rfl⟩
  obtain ⟨locs, hlo⟩ : ∃ z : List Loc, z = [] := ⟨_, rfl⟩
  have hP : va_P D vwCl (wd ce b kdC lnC 272 I L R) H := by rw [hH]; exact hP
  have hS : va_S (box b 272) s.heap H locs := by rw [hH, hlo]; exact hS
  rw [show W p l e rmX8_addPart s m av below meth c s.heap [] 0 0 QQ = W p l e rmX8_addPart s m av below meth c H locs 0 0 QQ by rw [hH, hlo]]
  clear hH hlo
  clear hQQ
  show W p l e rmX8_addPart s m av below meth c H locs 0 0 QQ (F0 m 0 ls [])
  refine lv_iload_n hx hb dX8_addPart_0 rfl (lv_at hl 2 rfl) ?_
  refine lv_if_lt (tgt := 12) hx hb dX8_addPart_1 (by decide) (fun c1 => ?_) (fun c1 => ?_)
  · have hf := ifT hf c1
    exact hret I hf H locs ls _ dX8_addPart_12 hP hT hS
  · have hf := ifF hf c1
    refine lv_iload_n hx hb dX8_addPart_4 rfl (lv_at hl 2 rfl) ?_
    refine lv_aload_n hx hb dX8_addPart_5 rfl (lv_at hl 1 rfl) ?_
    refine mm_geti hx hb hts hown hKK hP fk8_2 (Or.inl rfl) lkX8_22 (kdC_lt h1 (Nat.succ_ne_zero _)) h1 dX8_addPart_6 ?_
    refine lv_icmp_lt (tgt := 13) hx hb dX8_addPart_9 (by decide) (fun c2 => ?_) (fun c2 => ?_)
    · have hf := ifT hf c2
      refine lv_aload_n hx hb dX8_addPart_13 rfl (lv_at hl 1 rfl) ?_
      have t3 : kdC (R x1 1) = 1 := wt hT h1 rfl
      refine mm_getr hx hb hts hown hKK hP fk8_1 (Nat.le_of_ble_eq_true rfl) lkX8_19 (kdC_lt h1 (Nat.succ_ne_zero _)) h1 (nC t3 (Nat.succ_ne_zero _)) dX8_addPart_14 ?_
      refine lv_iload_n hx hb dX8_addPart_17 rfl (lv_at hl 2 rfl) ?_
      obtain ⟨g4, hf⟩ := grd hf
      refine mm_iald hx hb hKK hP (kdC_lt t3 (Nat.succ_ne_zero _)) t3 g4 dX8_addPart_18 ?_
      refine lv_istore_n (lv' := [(3, .int (I (R x1 1) x2.toNatClampNeg)), (0, .ref (b + x0)), (1, .ref (b + x1)), (2, .int x2)]) hx hb dX8_addPart_19 rfl hl (Nat.le_of_ble_eq_true rfl) rfl (fun ls hl => ?_)
      refine lv_iload_n hx hb dX8_addPart_20 rfl (lv_at hl 3 rfl) ?_
      refine lv_istore (lv' := [(4, .int x2), (3, .int (I (R x1 1) x2.toNatClampNeg)), (0, .ref (b + x0)), (1, .ref (b + x1)), (2, .int x2)]) hx hb dX8_addPart_21 hl (Nat.le_of_ble_eq_true rfl) rfl (fun ls hl => ?_)
      have lp23 : ∀ (n : Nat) (x0 : Nat) (x1 : Nat) (x3 : Int32) (x4 : Int32) (I : mI) (L : mL) (R : mR) (a1 : mI) (H : Heap) (locs : List Loc) (ls : Array Slot), va_P D vwCl (wd ce b kdC lnC 272 I L R) H → va_S (box b 272) s.heap H locs → WT kdC R → kdC x0 = 14 → kdC x1 = 14 → lv_has ls 5 [(0, .ref (b + x0)), (1, .ref (b + x1)), (3, .int x3), (4, .int x4)] → f_X8_addPart_L23 n x0 x1 x3 x4 I R = some a1 → (∀ (H1 : Heap) (locs1 : List Loc) (ls1 : Array Slot), va_P D vwCl (wd ce b kdC lnC 272 a1 L R) H1 → va_S (box b 272) s.heap H1 locs1 → lv_has ls1 5 [] → W p l e rmX8_addPart s m av below meth c H1 locs1 0 0 QQ (F0 m 46 ls1 [])) → W p l e rmX8_addPart s m av below meth c H locs 0 0 QQ (F0 m 23 ls []) := by
        intro n
        induction n with
        | zero =>
          intro x0 x1 x3 x4 I L R a1 H locs ls hP hS hT h0 h1 hl hf kx
          exact absurd (show (none : Option (mI)) = some _ from hf) (by simp)
        | succ n ih =>
          intro x0 x1 x3 x4 I L R a1 H locs ls hP hS hT h0 h1 hl hf kx
          rw [f_X8_addPart_L23] at hf
          refine lv_iload hx hb dX8_addPart_23 (lv_at hl 3 rfl) ?_
          refine lv_iload_n hx hb dX8_addPart_25 rfl (lv_at hl 2 rfl) ?_
          refine lv_icmp_ge (tgt := 46) hx hb dX8_addPart_26 (by decide) (fun c5 => ?_) (fun c5 => ?_)
          · have hf := ifT hf c5
            cases hf
            exact kx H locs ls hP hS (lv_sub hl [] rfl)
          · have hf := ifF hf c5
            refine lv_aload_n hx hb dX8_addPart_29 rfl (lv_at hl 0 rfl) ?_
            refine lv_aload_n hx hb dX8_addPart_30 rfl (lv_at hl 1 rfl) ?_
            have t6 : kdC (R x1 0) = 1 := wt hT h1 rfl
            refine mm_getr hx hb hts hown hKK hP fk8_0 (Nat.le_of_ble_eq_true rfl) lkX8_13 (kdC_lt h1 (Nat.succ_ne_zero _)) h1 (nC t6 (Nat.succ_ne_zero _)) dX8_addPart_31 ?_
            refine lv_iload hx hb dX8_addPart_34 (lv_at hl 3 rfl) ?_
            obtain ⟨g7, hf⟩ := grd hf
            refine mm_iald hx hb hKK hP (kdC_lt t6 (Nat.succ_ne_zero _)) t6 g7 dX8_addPart_36 ?_
            obtain ⟨I8, e8, hf⟩ := bd1_o hf
            refine mm_Vv (rest := []) hx hb hml hown hts hKK hP hS hA (kdC_lt h0 (Nat.succ_ne_zero _)) h0 (show vwCl[8]? = some (yX8_addLetter.cls, TX8, 3) from rfl) vkX8_26 (k_X8_addLetter l D ce b I L R hT x0 (I (R x1 0) x4.toNatClampNeg) h0 I8 e8) rfl hl.1 rfl (Nat.le_of_ble_eq_true rfl) ⟨rfl, rfl⟩ ⟨Nat.le_of_ble_eq_true rfl, Nat.le_of_ble_eq_true rfl⟩ ⟨Nat.zero_le _, Nat.zero_le _⟩ dX8_addPart_37 (fun H locs hP hT hS => ?_)
            refine lv_iinc (v := (x4 + (1 : Int32))) (lv' := [(4, .int (x4 + (1 : Int32))), (0, .ref (b + x0)), (1, .ref (b + x1)), (3, .int x3)]) hx hb dX8_addPart_40 hl (k := 3) rfl rfl (Nat.le_of_ble_eq_true rfl) rfl (fun ls hl => ?_)
            refine lv_goto (tgt := 23) hx hb dX8_addPart_43 (by decide) ?_
            exact ih x0 x1 x3 (x4 + (1 : Int32)) I8 L R a1 H locs ls hP hS hT h0 h1 (lv_sub hl [1, 2, 3, 0] rfl) hf kx
      obtain ⟨I_9, e_9, hf⟩ := bd1_o hf
      refine lp23 FU x0 x1 (I (R x1 1) x2.toNatClampNeg) x2 I L R I_9 H locs ls hP hS hT h0 h1 (lv_sub hl [2, 3, 1, 0] rfl) e_9 (fun H locs ls hP hS hl => ?_)
      exact hret I_9 hf H locs ls _ dX8_addPart_46 hP hT hS
    · have hf := ifF hf c2
      exact hret I hf H locs ls _ dX8_addPart_12 hP hT hS
def rmX9_build : Room := { frames := 2, cells := 0, slots := 0, locals := 51 }
set_option maxHeartbeats 4000000 in
set_option maxRecDepth 100000 in
theorem k_X9_build (l : Launch) (D : va_G) (ce : Nat → ClassId) (b : Nat) (I : mI) (L : mL) (R : mR) (hT : WT kdC R) (x0 : Nat) (x1 : Nat) (x2 : Nat) (h0 : kdC x0 = 15) (h1 : kdC x1 = 9) (h2 : kdC x2 = 14) (o1 : Int32) (o2 : mI) (hf : f_X9_build x0 x1 x2 I R = some (o1, o2)) : Met l yX9_build (Cond.code yX9_build cX9_build 5 (some .boolean) :: GW) rmX9_build (va_Pc [.ref (b + x0), .ref (b + x1), .ref (b + x2)] (PW D ce b kdC lnC 272 I L R)) (va_Qi (fun r u => r = o1 ∧ u = (o2, L, R)) (QW D ce b kdC lnC 272) (box b 272)) 0 0 (box b 272) := by
  refine Met.ofW (cc := cX9_build) (maxL := 5) (ret := (some .boolean)) (by decide) rfl ?_
  intro p e s m args below meth c s₁ B hml hv
  obtain ⟨rfl, hP, hKK⟩ := hv
  have hx := B.exec
  have hb := B.bytes
  have hr := B.returns
  have hts0 := atoms_spec (ws := Cond.code yX9_build cX9_build 5 (some .boolean) :: GW) B.pre
  have hts : ∀ w ∈ GW, w.before _ s = true := fun w h => hts0 w (List.mem_cons_of_mem _ h)
  clear hts0
  have hown : s.vm.findClass RX9 = some m.cls := findClass_of_methodNamed B.named
  have hlocks := B.notSynchronized
  have hA : ∀ q, box b 272 q → box b 272 q := fun _ h => h
  have hS : va_S (box b 272) s.heap s.heap [] := va_S.rf
  have hl := lv_entry ([.ref (b + x0), .ref (b + x1), .ref (b + x2)]) (n := 5) (Nat.le_of_ble_eq_true rfl)
  rw [lg_entry_eq]
  generalize (lg_sl ([.ref (b + x0), .ref (b + x1), .ref (b + x2)]) ++ List.replicate (5 - (lg_sl ([.ref (b + x0), .ref (b + x1), .ref (b + x2)])).length) Slot.unset).toArray = ls at hl ⊢
  have hl : lv_has ls 5 [(0, .ref (b + x0)), (1, .ref (b + x1)), (2, .ref (b + x2))] := hl
  generalize ([.ref (b + x0), .ref (b + x1), .ref (b + x2)] : List Value).toArray = av at hts ⊢
  show W p l e rmX9_build s m av below meth c s.heap [] 0 0 _ _
  obtain ⟨QQ, hQQ⟩ : ∃ z, z = MQ below (va_Qi (fun r u => r = o1 ∧ u = (o2, L, R)) (QW D ce b kdC lnC 272) (box b 272)) av s 0 0 (box b 272) := ⟨_, rfl⟩
  rw [← hQQ]
  have hret : ∀ (r : Int32) (I1 : mI), some (r, I1) = some (o1, o2) → ∀ (H1 : Heap) (locs1 : List Loc) (ls1 : Array Slot) (pc1 : Nat), decode cX9_build pc1 = .ok (.ireturn, 1) → zb r = true → va_P D vwCl (wd ce b kdC lnC 272 I1 L R) H1 → WT kdC R → va_S (box b 272) s.heap H1 locs1 → W p l e rmX9_build s m av below meth c H1 locs1 0 0 QQ (F0 m pc1 ls1 [.int r]) := by
    intro r I1 hq H1 locs1 ls1 pc1 hd hz hP hT hS
    cases hq
    rw [hQQ]
    exact mm_zret hx hb hr hlocks hz hP hT hS hd
  unfold f_X9_build at hf
  obtain ⟨H, hH⟩ : ∃ z, z = s.heap := ⟨_, rfl⟩
  obtain ⟨locs, hlo⟩ : ∃ z : List Loc, z = [] := ⟨_, rfl⟩
  have hP : va_P D vwCl (wd ce b kdC lnC 272 I L R) H := by rw [hH]; exact hP
  have hS : va_S (box b 272) s.heap H locs := by rw [hH, hlo]; exact hS
  rw [show W p l e rmX9_build s m av below meth c s.heap [] 0 0 QQ = W p l e rmX9_build s m av below meth c H locs 0 0 QQ by rw [hH, hlo]]
  clear hH hlo
  clear hQQ
  show W p l e rmX9_build s m av below meth c H locs 0 0 QQ (F0 m 0 ls [])
  refine lv_aload_n hx hb dX9_build_0 rfl (lv_at hl 0 rfl) ?_
  refine lv_aload_n hx hb dX9_build_1 rfl (lv_at hl 1 rfl) ?_
  have t1 : kdC (R x1 0) = 14 := wt hT h1 rfl
  refine mm_getr hx hb hts hown hKK hP fk3_0 (Nat.le_of_ble_eq_true rfl) lkX9_62 (kdC_lt h1 (Nat.succ_ne_zero _)) h1 (nC t1 (Nat.succ_ne_zero _)) dX9_build_2 ?_
  refine lv_aload_n hx hb dX9_build_5 rfl (lv_at hl 2 rfl) ?_
  refine lv_aload_n hx hb dX9_build_6 rfl (lv_at hl 0 rfl) ?_
  refine mm_geti hx hb hts hown hKK hP fk9_2 (Or.inl rfl) lkX9_46 (kdC_lt h0 (Nat.succ_ne_zero _)) h0 dX9_build_7 ?_
  obtain ⟨r2, I2, e2, hf⟩ := bd2_o hf
  refine mm_Vi (rest := []) hx hb hml hown hts hKK hP hS hA (kdC_lt h0 (Nat.succ_ne_zero _)) h0 (show vwCl[9]? = some (yX9_fits.cls, TX9, 4) from rfl) vkX9_67 (k_X9_fits l D ce b I L R hT x0 (R x1 0) x2 (I x0 2) h0 t1 h2 r2 I2 e2) rfl hl.1 rfl (Nat.le_of_ble_eq_true rfl) ⟨rfl, rfl⟩ ⟨Nat.le_of_ble_eq_true rfl, Nat.le_of_ble_eq_true rfl⟩ ⟨Nat.zero_le _, Nat.zero_le _⟩ dX9_build_10 (fun H locs hP hT hS => ?_)
  refine lv_if_eq (tgt := 30) hx hb dX9_build_13 (by decide) (fun c3 => ?_) (fun c3 => ?_)
  · have hf := ifT hf c3
    refine lv_iconst (v := (0 : Int32)) hx hb dX9_build_30 (by decide) ?_
    exact hret (0 : Int32) I2 hf H locs ls _ dX9_build_31 rfl hP hT hS
  · have hf := ifF hf c3
    refine lv_aload_n hx hb dX9_build_16 rfl (lv_at hl 0 rfl) ?_
    refine lv_aload_n hx hb dX9_build_17 rfl (lv_at hl 1 rfl) ?_
    have t4 : kdC (R x1 1) = 14 := wt hT h1 rfl
    refine mm_getr hx hb hts hown hKK hP fk3_1 (Nat.le_of_ble_eq_true rfl) lkX9_82 (kdC_lt h1 (Nat.succ_ne_zero _)) h1 (nC t4 (Nat.succ_ne_zero _)) dX9_build_18 ?_
    refine lv_aload_n hx hb dX9_build_21 rfl (lv_at hl 2 rfl) ?_
    obtain ⟨r5, e5, hf⟩ := bd1_o hf
    refine mm_Vi (rest := []) hx hb hml hown hts hKK hP hS hA (kdC_lt h0 (Nat.succ_ne_zero _)) h0 (show vwCl[9]? = some (yX9_sizeBehind.cls, TX9, 4) from rfl) vkX9_85 (k_X9_sizeBehind l D ce b I2 L R hT x0 (R x1 1) x2 h0 t4 h2 r5 e5) rfl hl.1 rfl (Nat.le_of_ble_eq_true rfl) ⟨rfl, rfl⟩ ⟨Nat.le_of_ble_eq_true rfl, Nat.le_of_ble_eq_true rfl⟩ ⟨Nat.zero_le _, Nat.zero_le _⟩ dX9_build_22 (fun H locs hP hT hS => ?_)
    refine lv_bipush (v := (60 : Int32)) hx hb dX9_build_25 (by decide) ?_
    refine lv_icmp_le (tgt := 32) hx hb dX9_build_27 (by decide) (fun c6 => ?_) (fun c6 => ?_)
    · have hf := ifT hf c6
      refine lv_aload_n hx hb dX9_build_32 rfl (lv_at hl 0 rfl) ?_
      have t7 : kdC (R x0 0) = 14 := wt hT h0 rfl
      refine mm_getr hx hb hts hown hKK hP fk9_0 (Nat.le_of_ble_eq_true rfl) lkX9_14 (kdC_lt h0 (Nat.succ_ne_zero _)) h0 (nC t7 (Nat.succ_ne_zero _)) dX9_build_33 ?_
      refine lv_iconst (v := (0 : Int32)) hx hb dX9_build_36 (by decide) ?_
      refine jnE hf (fun I8 eI8 hf => ?_)
      refine mm_puti hx hb hts hown hKK hP hA hS fk8_2 (Or.inl rfl) fw8_2 lkX9_49 (kdC_lt t7 (Nat.succ_ne_zero _)) t7 rfl rfl dX9_build_37 (fun H locs hP hS => ?_)
      rw [← eI8] at hP
      refine lv_iconst (v := (0 : Int32)) hx hb dX9_build_40 (by decide) ?_
      refine lv_istore_n (lv' := [(3, .int (0 : Int32)), (0, .ref (b + x0)), (1, .ref (b + x1)), (2, .ref (b + x2))]) hx hb dX9_build_41 rfl hl (Nat.le_of_ble_eq_true rfl) rfl (fun ls hl => ?_)
      have lp42 : ∀ (n : Nat) (x0 : Nat) (x1 : Nat) (x2 : Nat) (x3 : Int32) (I : mI) (L : mL) (R : mR) (a1 : mI) (H : Heap) (locs : List Loc) (ls : Array Slot), va_P D vwCl (wd ce b kdC lnC 272 I L R) H → va_S (box b 272) s.heap H locs → WT kdC R → kdC x0 = 15 → kdC x1 = 9 → kdC x2 = 14 → lv_has ls 5 [(0, .ref (b + x0)), (1, .ref (b + x1)), (2, .ref (b + x2)), (3, .int x3)] → f_X9_build_L42 n x0 x1 x2 x3 I R = some a1 → (∀ (H1 : Heap) (locs1 : List Loc) (ls1 : Array Slot), va_P D vwCl (wd ce b kdC lnC 272 a1 L R) H1 → va_S (box b 272) s.heap H1 locs1 → lv_has ls1 5 [(0, .ref (b + x0)), (1, .ref (b + x1)), (2, .ref (b + x2))] → W p l e rmX9_build s m av below meth c H1 locs1 0 0 QQ (F0 m 69 ls1 [])) → W p l e rmX9_build s m av below meth c H locs 0 0 QQ (F0 m 42 ls []) := by
        intro n
        induction n with
        | zero =>
          intro x0 x1 x2 x3 I L R a1 H locs ls hP hS hT h0 h1 h2 hl hf kx
          exact absurd (show (none : Option (mI)) = some _ from hf) (by simp)
        | succ n ih =>
          intro x0 x1 x2 x3 I L R a1 H locs ls hP hS hT h0 h1 h2 hl hf kx
          rw [f_X9_build_L42] at hf
          refine lv_iload_n hx hb dX9_build_42 rfl (lv_at hl 3 rfl) ?_
          refine lv_aload_n hx hb dX9_build_43 rfl (lv_at hl 0 rfl) ?_
          refine mm_geti hx hb hts hown hKK hP fk9_2 (Or.inl rfl) lkX9_46 (kdC_lt h0 (Nat.succ_ne_zero _)) h0 dX9_build_44 ?_
          refine lv_icmp_ge (tgt := 69) hx hb dX9_build_47 (by decide) (fun c9 => ?_) (fun c9 => ?_)
          · have hf := ifT hf c9
            cases hf
            exact kx H locs ls hP hS (lv_sub hl [0, 1, 2] rfl)
          · have hf := ifF hf c9
            refine lv_aload_n hx hb dX9_build_50 rfl (lv_at hl 0 rfl) ?_
            have t10 : kdC (R x0 0) = 14 := wt hT h0 rfl
            refine mm_getr hx hb hts hown hKK hP fk9_0 (Nat.le_of_ble_eq_true rfl) lkX9_14 (kdC_lt h0 (Nat.succ_ne_zero _)) h0 (nC t10 (Nat.succ_ne_zero _)) dX9_build_51 ?_
            refine lv_aload_n hx hb dX9_build_54 rfl (lv_at hl 2 rfl) ?_
            have t11 : kdC (R x2 0) = 1 := wt hT h2 rfl
            refine mm_getr hx hb hts hown hKK hP fk8_0 (Nat.le_of_ble_eq_true rfl) lkX9_71 (kdC_lt h2 (Nat.succ_ne_zero _)) h2 (nC t11 (Nat.succ_ne_zero _)) dX9_build_55 ?_
            refine lv_iload_n hx hb dX9_build_58 rfl (lv_at hl 3 rfl) ?_
            obtain ⟨g12, hf⟩ := grd hf
            refine mm_iald hx hb hKK hP (kdC_lt t11 (Nat.succ_ne_zero _)) t11 g12 dX9_build_59 ?_
            obtain ⟨I13, e13, hf⟩ := bd1_o hf
            refine mm_Vv (rest := []) hx hb hml hown hts hKK hP hS hA (kdC_lt t10 (Nat.succ_ne_zero _)) t10 (show vwCl[8]? = some (yX8_addLetter.cls, TX8, 3) from rfl) vkX9_89 (k_X8_addLetter l D ce b I L R hT (R x0 0) (I (R x2 0) x3.toNatClampNeg) t10 I13 e13) rfl hl.1 rfl (Nat.le_of_ble_eq_true rfl) ⟨rfl, rfl⟩ ⟨Nat.le_of_ble_eq_true rfl, Nat.le_of_ble_eq_true rfl⟩ ⟨Nat.zero_le _, Nat.zero_le _⟩ dX9_build_60 (fun H locs hP hT hS => ?_)
            refine lv_iinc (v := (x3 + (1 : Int32))) (lv' := [(3, .int (x3 + (1 : Int32))), (0, .ref (b + x0)), (1, .ref (b + x1)), (2, .ref (b + x2))]) hx hb dX9_build_63 hl (k := 3) rfl rfl (Nat.le_of_ble_eq_true rfl) rfl (fun ls hl => ?_)
            refine lv_goto (tgt := 42) hx hb dX9_build_66 (by decide) ?_
            exact ih x0 x1 x2 (x3 + (1 : Int32)) I13 L R a1 H locs ls hP hS hT h0 h1 h2 (lv_sub hl [1, 2, 3, 0] rfl) hf kx
      obtain ⟨I_14, e_14, hf⟩ := bd1_o hf
      refine lp42 FU x0 x1 x2 (0 : Int32) I8 L R I_14 H locs ls hP hS hT h0 h1 h2 (lv_sub hl [1, 2, 3, 0] rfl) e_14 (fun H locs ls hP hS hl => ?_)
      refine lv_iconst (v := (0 : Int32)) hx hb dX9_build_69 (by decide) ?_
      refine lv_istore_n (lv' := [(3, .int (0 : Int32)), (0, .ref (b + x0)), (1, .ref (b + x1)), (2, .ref (b + x2))]) hx hb dX9_build_70 rfl hl (Nat.le_of_ble_eq_true rfl) rfl (fun ls hl => ?_)
      have lp71 : ∀ (n : Nat) (x0 : Nat) (x1 : Nat) (x2 : Nat) (x3 : Int32) (I : mI) (L : mL) (R : mR) (a1 : mI) (H : Heap) (locs : List Loc) (ls : Array Slot), va_P D vwCl (wd ce b kdC lnC 272 I L R) H → va_S (box b 272) s.heap H locs → WT kdC R → kdC x0 = 15 → kdC x1 = 9 → kdC x2 = 14 → lv_has ls 5 [(0, .ref (b + x0)), (1, .ref (b + x1)), (2, .ref (b + x2)), (3, .int x3)] → f_X9_build_L71 n x0 x1 x2 x3 I R = some a1 → (∀ (H1 : Heap) (locs1 : List Loc) (ls1 : Array Slot), va_P D vwCl (wd ce b kdC lnC 272 a1 L R) H1 → va_S (box b 272) s.heap H1 locs1 → lv_has ls1 5 [(0, .ref (b + x0)), (2, .ref (b + x2))] → W p l e rmX9_build s m av below meth c H1 locs1 0 0 QQ (F0 m 137 ls1 [])) → W p l e rmX9_build s m av below meth c H locs 0 0 QQ (F0 m 71 ls []) := by
        intro n
        induction n with
        | zero =>
          intro x0 x1 x2 x3 I L R a1 H locs ls hP hS hT h0 h1 h2 hl hf kx
          exact absurd (show (none : Option (mI)) = some _ from hf) (by simp)
        | succ n ih =>
          intro x0 x1 x2 x3 I L R a1 H locs ls hP hS hT h0 h1 h2 hl hf kx
          rw [f_X9_build_L71] at hf
          refine lv_iload_n hx hb dX9_build_71 rfl (lv_at hl 3 rfl) ?_
          refine lv_aload_n hx hb dX9_build_72 rfl (lv_at hl 1 rfl) ?_
          have t15 : kdC (R x1 1) = 14 := wt hT h1 rfl
          refine mm_getr hx hb hts hown hKK hP fk3_1 (Nat.le_of_ble_eq_true rfl) lkX9_82 (kdC_lt h1 (Nat.succ_ne_zero _)) h1 (nC t15 (Nat.succ_ne_zero _)) dX9_build_73 ?_
          refine mm_geti hx hb hts hown hKK hP fk8_2 (Or.inl rfl) lkX9_49 (kdC_lt t15 (Nat.succ_ne_zero _)) t15 dX9_build_76 ?_
          refine lv_icmp_ge (tgt := 137) hx hb dX9_build_79 (by decide) (fun c16 => ?_) (fun c16 => ?_)
          · have hf := ifT hf c16
            cases hf
            exact kx H locs ls hP hS (lv_sub hl [0, 2] rfl)
          · have hf := ifF hf c16
            refine lv_aload_n hx hb dX9_build_82 rfl (lv_at hl 1 rfl) ?_
            refine mm_getr hx hb hts hown hKK hP fk3_1 (Nat.le_of_ble_eq_true rfl) lkX9_82 (kdC_lt h1 (Nat.succ_ne_zero _)) h1 (nC t15 (Nat.succ_ne_zero _)) dX9_build_83 ?_
            have t17 : kdC (R (R x1 1) 0) = 1 := wt hT t15 rfl
            refine mm_getr hx hb hts hown hKK hP fk8_0 (Nat.le_of_ble_eq_true rfl) lkX9_71 (kdC_lt t15 (Nat.succ_ne_zero _)) t15 (nC t17 (Nat.succ_ne_zero _)) dX9_build_86 ?_
            refine lv_iload_n hx hb dX9_build_89 rfl (lv_at hl 3 rfl) ?_
            obtain ⟨g18, hf⟩ := grd hf
            refine mm_iald hx hb hKK hP (kdC_lt t17 (Nat.succ_ne_zero _)) t17 g18 dX9_build_90 ?_
            refine lv_istore (lv' := [(4, .int (I (R (R x1 1) 0) x3.toNatClampNeg)), (0, .ref (b + x0)), (1, .ref (b + x1)), (2, .ref (b + x2)), (3, .int x3)]) hx hb dX9_build_91 hl (Nat.le_of_ble_eq_true rfl) rfl (fun ls hl => ?_)
            refine lv_iload hx hb dX9_build_93 (lv_at hl 0 rfl) ?_
            obtain ⟨r19, e19, hf⟩ := bd1_o hf
            refine mm_Ni (rest := []) hx hb hml hown hts hKK hP hS hA nkX9_92 (k_X10_isUnknown l D ce b I L R hT (I (R (R x1 1) 0) x3.toNatClampNeg)  r19 e19) rfl hl.1 rfl (Nat.le_of_ble_eq_true rfl) ⟨rfl, rfl⟩ ⟨Nat.le_of_ble_eq_true rfl, Nat.le_of_ble_eq_true rfl⟩ ⟨Nat.zero_le _, Nat.zero_le _⟩ dX9_build_95 (fun H locs hP hT hS => ?_)
            refine jnE hf (fun j131_20 ej_20 hf => ?_)
            have hJ131_20 : ∀ (I_20 : mI) (H : Heap) (locs : List Loc) (ls : Array Slot), va_P D vwCl (wd ce b kdC lnC 272 I_20 L R) H → va_S (box b 272) s.heap H locs → lv_has ls 5 [(0, .ref (b + x0)), (1, .ref (b + x1)), (2, .ref (b + x2)), (3, .int x3)] → j131_20 I_20 = some a1 → W p l e rmX9_build s m av below meth c H locs 0 0 QQ (F0 m 131 ls []) := by
              intro I_20 H locs ls hP hS  hl hf
              rw [ej_20] at hf
              try dsimp only at hf
              refine lv_iinc (v := (x3 + (1 : Int32))) (lv' := [(3, .int (x3 + (1 : Int32))), (0, .ref (b + x0)), (1, .ref (b + x1)), (2, .ref (b + x2))]) hx hb dX9_build_131 hl (k := 3) rfl rfl (Nat.le_of_ble_eq_true rfl) rfl (fun ls hl => ?_)
              refine lv_goto (tgt := 71) hx hb dX9_build_134 (by decide) ?_
              exact ih x0 x1 x2 (x3 + (1 : Int32)) I_20 L R a1 H locs ls hP hS hT h0 h1 h2 (lv_sub hl [1, 2, 3, 0] rfl) hf kx
            clear ej_20
            refine lv_if_eq (tgt := 122) hx hb dX9_build_98 (by decide) (fun c21 => ?_) (fun c21 => ?_)
            · have hf := ifT hf c21
              refine lv_aload_n hx hb dX9_build_122 rfl (lv_at hl 1 rfl) ?_
              have t22 : kdC (R x0 0) = 14 := wt hT h0 rfl
              refine mm_getr hx hb hts hown hKK hP fk9_0 (Nat.le_of_ble_eq_true rfl) lkX9_14 (kdC_lt h0 (Nat.succ_ne_zero _)) h0 (nC t22 (Nat.succ_ne_zero _)) dX9_build_123 ?_
              refine lv_iload hx hb dX9_build_126 (lv_at hl 0 rfl) ?_
              obtain ⟨I23, e23, hf⟩ := bd1_o hf
              refine mm_Vv (rest := []) hx hb hml hown hts hKK hP hS hA (kdC_lt t22 (Nat.succ_ne_zero _)) t22 (show vwCl[8]? = some (yX8_addLetter.cls, TX8, 3) from rfl) vkX9_89 (k_X8_addLetter l D ce b I L R hT (R x0 0) (I (R (R x1 1) 0) x3.toNatClampNeg) t22 I23 e23) rfl hl.1 rfl (Nat.le_of_ble_eq_true rfl) ⟨rfl, rfl⟩ ⟨Nat.le_of_ble_eq_true rfl, Nat.le_of_ble_eq_true rfl⟩ ⟨Nat.zero_le _, Nat.zero_le _⟩ dX9_build_128 (fun H locs hP hT hS => ?_)
              exact hJ131_20 I23 H locs ls hP hS  (lv_sub hl [1, 2, 3, 4] rfl) hf
            · have hf := ifF hf c21
              refine lv_aload_n hx hb dX9_build_101 rfl (lv_at hl 1 rfl) ?_
              have t24 : kdC (R x0 0) = 14 := wt hT h0 rfl
              refine mm_getr hx hb hts hown hKK hP fk9_0 (Nat.le_of_ble_eq_true rfl) lkX9_14 (kdC_lt h0 (Nat.succ_ne_zero _)) h0 (nC t24 (Nat.succ_ne_zero _)) dX9_build_102 ?_
              refine lv_aload_n hx hb dX9_build_105 rfl (lv_at hl 3 rfl) ?_
              refine lv_aload_n hx hb dX9_build_106 rfl (lv_at hl 1 rfl) ?_
              have t25 : kdC (R x0 1) = 1 := wt hT h0 rfl
              refine mm_getr hx hb hts hown hKK hP fk9_1 (Nat.le_of_ble_eq_true rfl) lkX9_20 (kdC_lt h0 (Nat.succ_ne_zero _)) h0 (nC t25 (Nat.succ_ne_zero _)) dX9_build_107 ?_
              refine lv_iload hx hb dX9_build_110 (lv_at hl 0 rfl) ?_
              obtain ⟨r26, e26, hf⟩ := bd1_o hf
              refine mm_Ni (rest := [.ref (b + (R x0 1)), .ref (b + x2), .ref (b + (R x0 0))]) hx hb hml hown hts hKK hP hS hA nkX9_74 (k_X10_unknownBit l D ce b I L R hT (I (R (R x1 1) 0) x3.toNatClampNeg)  r26 e26) rfl hl.1 rfl (Nat.le_of_ble_eq_true rfl) ⟨rfl, rfl⟩ ⟨Nat.le_of_ble_eq_true rfl, Nat.le_of_ble_eq_true rfl⟩ ⟨Nat.zero_le _, Nat.zero_le _⟩ dX9_build_112 (fun H locs hP hT hS => ?_)
              obtain ⟨g27, hf⟩ := grd hf
              refine mm_iald hx hb hKK hP (kdC_lt t25 (Nat.succ_ne_zero _)) t25 g27 dX9_build_115 ?_
              obtain ⟨I28, e28, hf⟩ := bd1_o hf
              refine mm_Vv (rest := []) hx hb hml hown hts hKK hP hS hA (kdC_lt t24 (Nat.succ_ne_zero _)) t24 (show vwCl[8]? = some (yX8_addPart.cls, TX8, 3) from rfl) vkX9_96 (k_X8_addPart l D ce b I L R hT (R x0 0) x2 (I (R x0 1) r26.toNatClampNeg) t24 h2 I28 e28) rfl hl.1 rfl (Nat.le_of_ble_eq_true rfl) ⟨rfl, rfl⟩ ⟨Nat.le_of_ble_eq_true rfl, Nat.le_of_ble_eq_true rfl⟩ ⟨Nat.zero_le _, Nat.zero_le _⟩ dX9_build_116 (fun H locs hP hT hS => ?_)
              refine lv_goto (tgt := 131) hx hb dX9_build_119 (by decide) ?_
              exact hJ131_20 I28 H locs ls hP hS  (lv_sub hl [1, 2, 3, 4] rfl) hf
      obtain ⟨I_29, e_29, hf⟩ := bd1_o hf
      refine lp71 FU x0 x1 x2 (0 : Int32) I_14 L R I_29 H locs ls hP hS hT h0 h1 h2 (lv_sub hl [1, 2, 3, 0] rfl) e_29 (fun H locs ls hP hS hl => ?_)
      refine lv_aload_n hx hb dX9_build_137 rfl (lv_at hl 1 rfl) ?_
      have t30 : kdC (R x2 1) = 1 := wt hT h2 rfl
      refine mm_getr hx hb hts hown hKK hP fk8_1 (Nat.le_of_ble_eq_true rfl) lkX9_52 (kdC_lt h2 (Nat.succ_ne_zero _)) h2 (nC t30 (Nat.succ_ne_zero _)) dX9_build_138 ?_
      refine lv_aload_n hx hb dX9_build_141 rfl (lv_at hl 0 rfl) ?_
      refine mm_geti hx hb hts hown hKK hP fk9_2 (Or.inl rfl) lkX9_46 (kdC_lt h0 (Nat.succ_ne_zero _)) h0 dX9_build_142 ?_
      obtain ⟨g31, hf⟩ := grd hf
      refine mm_iald hx hb hKK hP (kdC_lt t30 (Nat.succ_ne_zero _)) t30 g31 dX9_build_145 ?_
      refine lv_istore_n (lv' := [(3, .int (I_29 (R x2 1) ((I_29 x0 2)).toNatClampNeg)), (0, .ref (b + x0)), (2, .ref (b + x2))]) hx hb dX9_build_146 rfl hl (Nat.le_of_ble_eq_true rfl) rfl (fun ls hl => ?_)
      have lp147 : ∀ (n : Nat) (x0 : Nat) (x2 : Nat) (x3 : Int32) (I : mI) (L : mL) (R : mR) (a1 : mI) (H : Heap) (locs : List Loc) (ls : Array Slot), va_P D vwCl (wd ce b kdC lnC 272 I L R) H → va_S (box b 272) s.heap H locs → WT kdC R → kdC x0 = 15 → kdC x2 = 14 → lv_has ls 5 [(0, .ref (b + x0)), (2, .ref (b + x2)), (3, .int x3)] → f_X9_build_L147 n x0 x2 x3 I R = some a1 → (∀ (H1 : Heap) (locs1 : List Loc) (ls1 : Array Slot), va_P D vwCl (wd ce b kdC lnC 272 a1 L R) H1 → va_S (box b 272) s.heap H1 locs1 → lv_has ls1 5 [(0, .ref (b + x0))] → W p l e rmX9_build s m av below meth c H1 locs1 0 0 QQ (F0 m 174 ls1 [])) → W p l e rmX9_build s m av below meth c H locs 0 0 QQ (F0 m 147 ls []) := by
        intro n
        induction n with
        | zero =>
          intro x0 x2 x3 I L R a1 H locs ls hP hS hT h0 h2 hl hf kx
          exact absurd (show (none : Option (mI)) = some _ from hf) (by simp)
        | succ n ih =>
          intro x0 x2 x3 I L R a1 H locs ls hP hS hT h0 h2 hl hf kx
          rw [f_X9_build_L147] at hf
          refine lv_iload_n hx hb dX9_build_147 rfl (lv_at hl 2 rfl) ?_
          refine lv_aload_n hx hb dX9_build_148 rfl (lv_at hl 1 rfl) ?_
          refine mm_geti hx hb hts hown hKK hP fk8_2 (Or.inl rfl) lkX9_49 (kdC_lt h2 (Nat.succ_ne_zero _)) h2 dX9_build_149 ?_
          refine lv_icmp_ge (tgt := 174) hx hb dX9_build_152 (by decide) (fun c32 => ?_) (fun c32 => ?_)
          · have hf := ifT hf c32
            cases hf
            exact kx H locs ls hP hS (lv_sub hl [0] rfl)
          · have hf := ifF hf c32
            refine lv_aload_n hx hb dX9_build_155 rfl (lv_at hl 0 rfl) ?_
            have t33 : kdC (R x0 0) = 14 := wt hT h0 rfl
            refine mm_getr hx hb hts hown hKK hP fk9_0 (Nat.le_of_ble_eq_true rfl) lkX9_14 (kdC_lt h0 (Nat.succ_ne_zero _)) h0 (nC t33 (Nat.succ_ne_zero _)) dX9_build_156 ?_
            refine lv_aload_n hx hb dX9_build_159 rfl (lv_at hl 1 rfl) ?_
            have t34 : kdC (R x2 0) = 1 := wt hT h2 rfl
            refine mm_getr hx hb hts hown hKK hP fk8_0 (Nat.le_of_ble_eq_true rfl) lkX9_71 (kdC_lt h2 (Nat.succ_ne_zero _)) h2 (nC t34 (Nat.succ_ne_zero _)) dX9_build_160 ?_
            refine lv_iload_n hx hb dX9_build_163 rfl (lv_at hl 2 rfl) ?_
            obtain ⟨g35, hf⟩ := grd hf
            refine mm_iald hx hb hKK hP (kdC_lt t34 (Nat.succ_ne_zero _)) t34 g35 dX9_build_164 ?_
            obtain ⟨I36, e36, hf⟩ := bd1_o hf
            refine mm_Vv (rest := []) hx hb hml hown hts hKK hP hS hA (kdC_lt t33 (Nat.succ_ne_zero _)) t33 (show vwCl[8]? = some (yX8_addLetter.cls, TX8, 3) from rfl) vkX9_89 (k_X8_addLetter l D ce b I L R hT (R x0 0) (I (R x2 0) x3.toNatClampNeg) t33 I36 e36) rfl hl.1 rfl (Nat.le_of_ble_eq_true rfl) ⟨rfl, rfl⟩ ⟨Nat.le_of_ble_eq_true rfl, Nat.le_of_ble_eq_true rfl⟩ ⟨Nat.zero_le _, Nat.zero_le _⟩ dX9_build_165 (fun H locs hP hT hS => ?_)
            refine lv_iinc (v := (x3 + (1 : Int32))) (lv' := [(3, .int (x3 + (1 : Int32))), (0, .ref (b + x0)), (2, .ref (b + x2))]) hx hb dX9_build_168 hl (k := 2) rfl rfl (Nat.le_of_ble_eq_true rfl) rfl (fun ls hl => ?_)
            refine lv_goto (tgt := 147) hx hb dX9_build_171 (by decide) ?_
            exact ih x0 x2 (x3 + (1 : Int32)) I36 L R a1 H locs ls hP hS hT h0 h2 (lv_sub hl [1, 2, 0] rfl) hf kx
      obtain ⟨I_37, e_37, hf⟩ := bd1_o hf
      refine lp147 FU x0 x2 (I_29 (R x2 1) ((I_29 x0 2)).toNatClampNeg) I_29 L R I_37 H locs ls hP hS hT h0 h2 (lv_sub hl [1, 2, 0] rfl) e_37 (fun H locs ls hP hS hl => ?_)
      refine lv_aload_n hx hb dX9_build_174 rfl (lv_at hl 0 rfl) ?_
      refine mm_getr hx hb hts hown hKK hP fk9_0 (Nat.le_of_ble_eq_true rfl) lkX9_14 (kdC_lt h0 (Nat.succ_ne_zero _)) h0 (nC t7 (Nat.succ_ne_zero _)) dX9_build_175 ?_
      obtain ⟨I38, e38, hf⟩ := bd1_o hf
      refine mm_Vv (rest := []) hx hb hml hown hts hKK hP hS hA (kdC_lt t7 (Nat.succ_ne_zero _)) t7 (show vwCl[8]? = some (yX8_findEnds.cls, TX8, 3) from rfl) vkX9_100 (k_X8_findEnds l D ce b I_37 L R hT (R x0 0) t7 I38 e38) rfl hl.1 rfl (Nat.le_of_ble_eq_true rfl) ⟨rfl, rfl⟩ ⟨Nat.le_of_ble_eq_true rfl, Nat.le_of_ble_eq_true rfl⟩ ⟨Nat.zero_le _, Nat.zero_le _⟩ dX9_build_178 (fun H locs hP hT hS => ?_)
      refine lv_iconst (v := (1 : Int32)) hx hb dX9_build_181 (by decide) ?_
      exact hret (1 : Int32) I38 hf H locs ls _ dX9_build_182 rfl hP hT hS
    · have hf := ifF hf c6
      refine lv_iconst (v := (0 : Int32)) hx hb dX9_build_30 (by decide) ?_
      exact hret (0 : Int32) I2 hf H locs ls _ dX9_build_31 rfl hP hT hS
