def rmX10_refuseBad : Room := { frames := 0, cells := 0, slots := 0, locals := 0 }
set_option maxHeartbeats 4000000 in
set_option maxRecDepth 100000 in
theorem k_X10_refuseBad (l : Launch) (D : va_G) (ce : Nat → ClassId) (b : Nat) (I : mI) (L : mL) (R : mR) (hT : WT kdC R) (x0 : Nat) (h0 : kdC x0 = 16) (o1 : Int32) (o2 : mI) (hf : f_X10_refuseBad x0 I = some (o1, o2)) : Met l yX10_refuseBad (Cond.code yX10_refuseBad cX10_refuseBad 1 (some .int) :: GW) rmX10_refuseBad (va_Pc [.ref (b + x0)] (PW D ce b kdC lnC 272 I L R)) (va_Qi (fun r u => r = o1 ∧ u = (o2, L, R)) (QW D ce b kdC lnC 272) (box b 272)) 0 0 (box b 272) := by
  refine Met.ofW (cc := cX10_refuseBad) (maxL := 1) (ret := (some .int)) (by decide) rfl ?_
  intro p e s m args below meth c s₁ B hml hv
  obtain ⟨rfl, hP, hKK⟩ := hv
  have hx := B.exec
  have hb := B.bytes
  have hr := B.returns
  have hts0 := atoms_spec (ws := Cond.code yX10_refuseBad cX10_refuseBad 1 (some .int) :: GW) B.pre
  have hts : ∀ w ∈ GW, w.before _ s = true := fun w h => hts0 w (List.mem_cons_of_mem _ h)
  clear hts0
  have hown : s.vm.findClass RX10 = some m.cls := findClass_of_methodNamed B.named
  have hlocks := B.notSynchronized
  have hA : ∀ q, box b 272 q → box b 272 q := fun _ h => h
  have hS : va_S (box b 272) s.heap s.heap [] := va_S.rf
  have hl := lv_entry ([.ref (b + x0)]) (n := 1) (Nat.le_of_ble_eq_true rfl)
  rw [lg_entry_eq]
  generalize (lg_sl ([.ref (b + x0)]) ++ List.replicate (1 - (lg_sl ([.ref (b + x0)])).length) Slot.unset).toArray = ls at hl ⊢
  have hl : lv_has ls 1 [(0, .ref (b + x0))] := hl
  generalize ([.ref (b + x0)] : List Value).toArray = av at hts ⊢
  show W p l e rmX10_refuseBad s m av below meth c s.heap [] 0 0 _ _
  obtain ⟨QQ, hQQ⟩ : ∃ z, z = MQ below (va_Qi (fun r u => r = o1 ∧ u = (o2, L, R)) (QW D ce b kdC lnC 272) (box b 272)) av s 0 0 (box b 272) := ⟨_, rfl⟩
  rw [← hQQ]
  have hret : ∀ (r : Int32) (I1 : mI), some (r, I1) = some (o1, o2) → ∀ (H1 : Heap) (locs1 : List Loc) (ls1 : Array Slot) (pc1 : Nat), decode cX10_refuseBad pc1 = .ok (.ireturn, 1) → va_P D vwCl (wd ce b kdC lnC 272 I1 L R) H1 → WT kdC R → va_S (box b 272) s.heap H1 locs1 → W p l e rmX10_refuseBad s m av below meth c H1 locs1 0 0 QQ (F0 m pc1 ls1 [.int r]) := by
    intro r I1 hq H1 locs1 ls1 pc1 hd hP hT hS
    cases hq
    rw [hQQ]
    exact mm_iret hx hb hr hlocks hP hT hS hd
  unfold f_X10_refuseBad at hf
  obtain ⟨H, hH⟩ : ∃ z, z = s.heap := ⟨_, rfl⟩
  obtain ⟨locs, hlo⟩ : ∃ z : List Loc, z = [] := ⟨_, rfl⟩
  have hP : va_P D vwCl (wd ce b kdC lnC 272 I L R) H := by rw [hH]; exact hP
  have hS : va_S (box b 272) s.heap H locs := by rw [hH, hlo]; exact hS
  rw [show W p l e rmX10_refuseBad s m av below meth c s.heap [] 0 0 QQ = W p l e rmX10_refuseBad s m av below meth c H locs 0 0 QQ by rw [hH, hlo]]
  clear hH hlo
  clear hQQ
  show W p l e rmX10_refuseBad s m av below meth c H locs 0 0 QQ (F0 m 0 ls [])
  refine lv_aload_n hx hb dX10_refuseBad_0 rfl (lv_at hl 0 rfl) ?_
  refine lv_dup hx hb dX10_refuseBad_1 rfl ?_
  refine mm_geti hx hb hts hown hKK hP fk10_12 (Or.inl rfl) lkX10_239 (kdC_lt h0 (Nat.succ_ne_zero _)) h0 dX10_refuseBad_2 ?_
  refine lv_iconst (v := (1 : Int32)) hx hb dX10_refuseBad_5 (by decide) ?_
  refine lv_iadd hx hb dX10_refuseBad_6 ?_
  refine jnE hf (fun I1 eI1 hf => ?_)
  refine mm_puti hx hb hts hown hKK hP hA hS fk10_12 (Or.inl rfl) fw10_12 lkX10_239 (kdC_lt h0 (Nat.succ_ne_zero _)) h0 rfl rfl dX10_refuseBad_7 (fun H locs hP hS => ?_)
  rw [← eI1] at hP
  refine lv_bipush (v := (-2 : Int32)) hx hb dX10_refuseBad_10 (by decide) ?_
  exact hret (-2 : Int32) I1 hf H locs ls _ dX10_refuseBad_12 hP hT hS
def rmX2_append : Room := { frames := 0, cells := 0, slots := 0, locals := 0 }
set_option maxHeartbeats 4000000 in
set_option maxRecDepth 100000 in
theorem k_X2_append (l : Launch) (D : va_G) (ce : Nat → ClassId) (b : Nat) (I : mI) (L : mL) (R : mR) (hT : WT kdC R) (x0 : Nat) (x1 : Int32) (h0 : kdC x0 = 8) (o1 : mI) (hf : f_X2_append x0 x1 I R = some o1) : Met l yX2_append (Cond.code yX2_append cX2_append 2 none :: GW) rmX2_append (va_Pc [.ref (b + x0), .int x1] (PW D ce b kdC lnC 272 I L R)) (va_Qv (fun u => u = (o1, L, R)) (QW D ce b kdC lnC 272) (box b 272)) 0 0 (box b 272) := by
  refine Met.ofW (cc := cX2_append) (maxL := 2) (ret := none) (by decide) rfl ?_
  intro p e s m args below meth c s₁ B hml hv
  obtain ⟨rfl, hP, hKK⟩ := hv
  have hx := B.exec
  have hb := B.bytes
  have hr := B.returns
  have hts0 := atoms_spec (ws := Cond.code yX2_append cX2_append 2 none :: GW) B.pre
  have hts : ∀ w ∈ GW, w.before _ s = true := fun w h => hts0 w (List.mem_cons_of_mem _ h)
  clear hts0
  have hown : s.vm.findClass RX2 = some m.cls := findClass_of_methodNamed B.named
  have hlocks := B.notSynchronized
  have hA : ∀ q, box b 272 q → box b 272 q := fun _ h => h
  have hS : va_S (box b 272) s.heap s.heap [] := va_S.rf
  have hl := lv_entry ([.ref (b + x0), .int x1]) (n := 2) (Nat.le_of_ble_eq_true rfl)
  rw [lg_entry_eq]
  generalize (lg_sl ([.ref (b + x0), .int x1]) ++ List.replicate (2 - (lg_sl ([.ref (b + x0), .int x1])).length) Slot.unset).toArray = ls at hl ⊢
  have hl : lv_has ls 2 [(0, .ref (b + x0)), (1, .int x1)] := hl
  generalize ([.ref (b + x0), .int x1] : List Value).toArray = av at hts ⊢
  show W p l e rmX2_append s m av below meth c s.heap [] 0 0 _ _
  obtain ⟨QQ, hQQ⟩ : ∃ z, z = MQ below (va_Qv (fun u => u = (o1, L, R)) (QW D ce b kdC lnC 272) (box b 272)) av s 0 0 (box b 272) := ⟨_, rfl⟩
  rw [← hQQ]
  have hret : ∀ (I1 : mI), some I1 = some o1 → ∀ (H1 : Heap) (locs1 : List Loc) (ls1 : Array Slot) (pc1 : Nat), decode cX2_append pc1 = .ok (.return_, 1) → va_P D vwCl (wd ce b kdC lnC 272 I1 L R) H1 → WT kdC R → va_S (box b 272) s.heap H1 locs1 → W p l e rmX2_append s m av below meth c H1 locs1 0 0 QQ (F0 m pc1 ls1 []) := by
    intro I1 hq H1 locs1 ls1 pc1 hd hP hT hS
    cases hq
    rw [hQQ]
    exact mm_vret hx hb hr hlocks hP hT hS hd
  unfold f_X2_append at hf
  obtain ⟨H, hH⟩ : ∃ z, z = s.heap := ⟨_, rfl⟩
  obtain ⟨locs, hlo⟩ : ∃ z : List Loc, z = [] := ⟨_, rfl⟩
  have hP : va_P D vwCl (wd ce b kdC lnC 272 I L R) H := by rw [hH]; exact hP
  have hS : va_S (box b 272) s.heap H locs := by rw [hH, hlo]; exact hS
  rw [show W p l e rmX2_append s m av below meth c s.heap [] 0 0 QQ = W p l e rmX2_append s m av below meth c H locs 0 0 QQ by rw [hH, hlo]]
  clear hH hlo
  clear hQQ
  show W p l e rmX2_append s m av below meth c H locs 0 0 QQ (F0 m 0 ls [])
  refine lv_aload_n hx hb dX2_append_0 rfl (lv_at hl 0 rfl) ?_
  refine mm_geti hx hb hts hown hKK hP fk2_2 (Or.inl rfl) lkX2_18 (kdC_lt h0 (Nat.succ_ne_zero _)) h0 dX2_append_1 ?_
  refine lv_bipush (v := (120 : Int32)) hx hb dX2_append_4 (by decide) ?_
  refine lv_icmp_ge (tgt := 29) hx hb dX2_append_6 (by decide) (fun c1 => ?_) (fun c1 => ?_)
  · have hf := ifT hf c1
    exact hret I hf H locs ls _ dX2_append_29 hP hT hS
  · have hf := ifF hf c1
    refine lv_aload_n hx hb dX2_append_9 rfl (lv_at hl 0 rfl) ?_
    have t2 : kdC (R x0 0) = 1 := wt hT h0 rfl
    refine mm_getr hx hb hts hown hKK hP fk2_0 (Nat.le_of_ble_eq_true rfl) lkX2_9 (kdC_lt h0 (Nat.succ_ne_zero _)) h0 (nC t2 (Nat.succ_ne_zero _)) dX2_append_10 ?_
    refine lv_aload_n hx hb dX2_append_13 rfl (lv_at hl 0 rfl) ?_
    refine mm_geti hx hb hts hown hKK hP fk2_2 (Or.inl rfl) lkX2_18 (kdC_lt h0 (Nat.succ_ne_zero _)) h0 dX2_append_14 ?_
    refine lv_iload_n hx hb dX2_append_17 rfl (lv_at hl 1 rfl) ?_
    obtain ⟨g3, hf⟩ := grd hf
    refine jnE hf (fun I4 eI4 hf => ?_)
    refine mm_iast hx hb hKK hP hA hS (kdC_lt t2 (Nat.succ_ne_zero _)) t2 g3 dX2_append_18 (fun H locs hP hS => ?_)
    rw [← eI4] at hP
    refine lv_aload_n hx hb dX2_append_19 rfl (lv_at hl 0 rfl) ?_
    refine lv_dup hx hb dX2_append_20 rfl ?_
    refine mm_geti hx hb hts hown hKK hP fk2_2 (Or.inl rfl) lkX2_18 (kdC_lt h0 (Nat.succ_ne_zero _)) h0 dX2_append_21 ?_
    refine lv_iconst (v := (1 : Int32)) hx hb dX2_append_24 (by decide) ?_
    refine lv_iadd hx hb dX2_append_25 ?_
    refine jnE hf (fun I5 eI5 hf => ?_)
    refine mm_puti hx hb hts hown hKK hP hA hS fk2_2 (Or.inl rfl) fw2_2 lkX2_18 (kdC_lt h0 (Nat.succ_ne_zero _)) h0 rfl rfl dX2_append_26 (fun H locs hP hS => ?_)
    rw [← eI5] at hP
    exact hret I5 hf H locs ls _ dX2_append_29 hP hT hS
def rmX10_type : Room := { frames := 1, cells := 0, slots := 0, locals := 21 }
set_option maxHeartbeats 4000000 in
set_option maxRecDepth 100000 in
theorem k_X10_type (l : Launch) (D : va_G) (ce : Nat → ClassId) (b : Nat) (I : mI) (L : mL) (R : mR) (hT : WT kdC R) (x0 : Nat) (x1 : Int32) (h0 : kdC x0 = 16) (o1 : Int32) (o2 : mI) (hf : f_X10_type x0 x1 I R = some (o1, o2)) : Met l yX10_type (Cond.code yX10_type cX10_type 2 (some .int) :: GW) rmX10_type (va_Pc [.ref (b + x0), .int x1] (PW D ce b kdC lnC 272 I L R)) (va_Qi (fun r u => r = o1 ∧ u = (o2, L, R)) (QW D ce b kdC lnC 272) (box b 272)) 0 0 (box b 272) := by
  refine Met.ofW (cc := cX10_type) (maxL := 2) (ret := (some .int)) (by decide) rfl ?_
  intro p e s m args below meth c s₁ B hml hv
  obtain ⟨rfl, hP, hKK⟩ := hv
  have hx := B.exec
  have hb := B.bytes
  have hr := B.returns
  have hts0 := atoms_spec (ws := Cond.code yX10_type cX10_type 2 (some .int) :: GW) B.pre
  have hts : ∀ w ∈ GW, w.before _ s = true := fun w h => hts0 w (List.mem_cons_of_mem _ h)
  clear hts0
  have hown : s.vm.findClass RX10 = some m.cls := findClass_of_methodNamed B.named
  have hlocks := B.notSynchronized
  have hA : ∀ q, box b 272 q → box b 272 q := fun _ h => h
  have hS : va_S (box b 272) s.heap s.heap [] := va_S.rf
  have hl := lv_entry ([.ref (b + x0), .int x1]) (n := 2) (Nat.le_of_ble_eq_true rfl)
  rw [lg_entry_eq]
  generalize (lg_sl ([.ref (b + x0), .int x1]) ++ List.replicate (2 - (lg_sl ([.ref (b + x0), .int x1])).length) Slot.unset).toArray = ls at hl ⊢
  have hl : lv_has ls 2 [(0, .ref (b + x0)), (1, .int x1)] := hl
  generalize ([.ref (b + x0), .int x1] : List Value).toArray = av at hts ⊢
  show W p l e rmX10_type s m av below meth c s.heap [] 0 0 _ _
  obtain ⟨QQ, hQQ⟩ : ∃ z, z = MQ below (va_Qi (fun r u => r = o1 ∧ u = (o2, L, R)) (QW D ce b kdC lnC 272) (box b 272)) av s 0 0 (box b 272) := ⟨_, rfl⟩
  rw [← hQQ]
  have hret : ∀ (r : Int32) (I1 : mI), some (r, I1) = some (o1, o2) → ∀ (H1 : Heap) (locs1 : List Loc) (ls1 : Array Slot) (pc1 : Nat), decode cX10_type pc1 = .ok (.ireturn, 1) → va_P D vwCl (wd ce b kdC lnC 272 I1 L R) H1 → WT kdC R → va_S (box b 272) s.heap H1 locs1 → W p l e rmX10_type s m av below meth c H1 locs1 0 0 QQ (F0 m pc1 ls1 [.int r]) := by
    intro r I1 hq H1 locs1 ls1 pc1 hd hP hT hS
    cases hq
    rw [hQQ]
    exact mm_iret hx hb hr hlocks hP hT hS hd
  unfold f_X10_type at hf
  obtain ⟨H, hH⟩ : ∃ z, z = s.heap := ⟨_, rfl⟩
  obtain ⟨locs, hlo⟩ : ∃ z : List Loc, z = [] := ⟨_, rfl⟩
  have hP : va_P D vwCl (wd ce b kdC lnC 272 I L R) H := by rw [hH]; exact hP
  have hS : va_S (box b 272) s.heap H locs := by rw [hH, hlo]; exact hS
  rw [show W p l e rmX10_type s m av below meth c s.heap [] 0 0 QQ = W p l e rmX10_type s m av below meth c H locs 0 0 QQ by rw [hH, hlo]]
  clear hH hlo
  clear hQQ
  show W p l e rmX10_type s m av below meth c H locs 0 0 QQ (F0 m 0 ls [])
  refine lv_iload_n hx hb dX10_type_0 rfl (lv_at hl 1 rfl) ?_
  refine jnE hf (fun j10_1 ej_1 hf => ?_)
  have hJ10_1 : ∀ (H : Heap) (locs : List Loc) (ls : Array Slot), va_P D vwCl (wd ce b kdC lnC 272 I L R) H → va_S (box b 272) s.heap H locs → lv_has ls 2 [(0, .ref (b + x0))] → j10_1  = some (o1, o2) → W p l e rmX10_type s m av below meth c H locs 0 0 QQ (F0 m 10 ls []) := by
    intro  H locs ls hP hS  hl hf
    rw [ej_1] at hf
    try dsimp only at hf
    refine lv_aload_n hx hb dX10_type_10 rfl (lv_at hl 0 rfl) ?_
    obtain ⟨r2, I2, e2, hf⟩ := bd2_o hf
    refine mm_Vi (rest := []) hx hb hml hown hts hKK hP hS hA (kdC_lt h0 (Nat.succ_ne_zero _)) h0 (show vwCl[10]? = some (yX10_refuseBad.cls, TX10, 15) from rfl) vkX10_81 (k_X10_refuseBad l D ce b I L R hT x0 h0 r2 I2 e2) rfl hl.1 rfl (Nat.le_of_ble_eq_true rfl) ⟨rfl, rfl⟩ ⟨Nat.le_of_ble_eq_true rfl, Nat.le_of_ble_eq_true rfl⟩ ⟨Nat.zero_le _, Nat.zero_le _⟩ dX10_type_11 (fun H locs hP hT hS => ?_)
    exact hret r2 I2 hf H locs ls _ dX10_type_14 hP hT hS
  clear ej_1
  refine lv_if_lt (tgt := 10) hx hb dX10_type_1 (by decide) (fun c3 => ?_) (fun c3 => ?_)
  · have hf := ifT hf c3
    exact hJ10_1  H locs ls hP hS  (lv_sub hl [0] rfl) hf
  · have hf := ifF hf c3
    refine lv_iload_n hx hb dX10_type_4 rfl (lv_at hl 1 rfl) ?_
    refine lv_bipush (v := (127 : Int32)) hx hb dX10_type_5 (by decide) ?_
    refine lv_icmp_le (tgt := 15) hx hb dX10_type_7 (by decide) (fun c4 => ?_) (fun c4 => ?_)
    · have hf := ifT hf c4
      refine lv_aload_n hx hb dX10_type_15 rfl (lv_at hl 0 rfl) ?_
      have t5 : kdC (R x0 2) = 8 := wt hT h0 rfl
      refine mm_getr hx hb hts hown hKK hP fk10_2 (Nat.le_of_ble_eq_true rfl) lkX10_26 (kdC_lt h0 (Nat.succ_ne_zero _)) h0 (nC t5 (Nat.succ_ne_zero _)) dX10_type_16 ?_
      refine mm_geti hx hb hts hown hKK hP fk2_2 (Or.inl rfl) lkX10_85 (kdC_lt t5 (Nat.succ_ne_zero _)) t5 dX10_type_19 ?_
      refine lv_bipush (v := (120 : Int32)) hx hb dX10_type_22 (by decide) ?_
      refine lv_icmp_lt (tgt := 40) hx hb dX10_type_24 (by decide) (fun c6 => ?_) (fun c6 => ?_)
      · have hf := ifT hf c6
        refine lv_aload_n hx hb dX10_type_40 rfl (lv_at hl 0 rfl) ?_
        refine mm_getr hx hb hts hown hKK hP fk10_2 (Nat.le_of_ble_eq_true rfl) lkX10_26 (kdC_lt h0 (Nat.succ_ne_zero _)) h0 (nC t5 (Nat.succ_ne_zero _)) dX10_type_41 ?_
        refine lv_iload_n hx hb dX10_type_44 rfl (lv_at hl 1 rfl) ?_
        obtain ⟨I7, e7, hf⟩ := bd1_o hf
        refine mm_Vv (rest := []) hx hb hml hown hts hKK hP hS hA (kdC_lt t5 (Nat.succ_ne_zero _)) t5 (show vwCl[2]? = some (yX2_append.cls, TX2, 5) from rfl) vkX10_91 (k_X2_append l D ce b I L R hT (R x0 2) x1 t5 I7 e7) rfl hl.1 rfl (Nat.le_of_ble_eq_true rfl) ⟨rfl, rfl⟩ ⟨Nat.le_of_ble_eq_true rfl, Nat.le_of_ble_eq_true rfl⟩ ⟨Nat.zero_le _, Nat.zero_le _⟩ dX10_type_45 (fun H locs hP hT hS => ?_)
        refine lv_aload_n hx hb dX10_type_48 rfl (lv_at hl 0 rfl) ?_
        refine mm_getr hx hb hts hown hKK hP fk10_2 (Nat.le_of_ble_eq_true rfl) lkX10_26 (kdC_lt h0 (Nat.succ_ne_zero _)) h0 (nC t5 (Nat.succ_ne_zero _)) dX10_type_49 ?_
        refine mm_geti hx hb hts hown hKK hP fk2_2 (Or.inl rfl) lkX10_85 (kdC_lt t5 (Nat.succ_ne_zero _)) t5 dX10_type_52 ?_
        exact hret (I7 (R x0 2) 2) I7 hf H locs ls _ dX10_type_55 hP hT hS
      · have hf := ifF hf c6
        refine lv_aload_n hx hb dX10_type_27 rfl (lv_at hl 0 rfl) ?_
        refine lv_dup hx hb dX10_type_28 rfl ?_
        refine mm_geti hx hb hts hown hKK hP fk10_14 (Or.inl rfl) lkX10_88 (kdC_lt h0 (Nat.succ_ne_zero _)) h0 dX10_type_29 ?_
        refine lv_iconst (v := (1 : Int32)) hx hb dX10_type_32 (by decide) ?_
        refine lv_iadd hx hb dX10_type_33 ?_
        refine jnE hf (fun I8 eI8 hf => ?_)
        refine mm_puti hx hb hts hown hKK hP hA hS fk10_14 (Or.inl rfl) fw10_14 lkX10_88 (kdC_lt h0 (Nat.succ_ne_zero _)) h0 rfl rfl dX10_type_34 (fun H locs hP hS => ?_)
        rw [← eI8] at hP
        refine lv_bipush (v := (-4 : Int32)) hx hb dX10_type_37 (by decide) ?_
        exact hret (-4 : Int32) I8 hf H locs ls _ dX10_type_39 hP hT hS
    · have hf := ifF hf c4
      exact hJ10_1  H locs ls hP hS  (lv_sub hl [0] rfl) hf
def rmX10_clear : Room := { frames := 0, cells := 0, slots := 0, locals := 0 }
set_option maxHeartbeats 4000000 in
set_option maxRecDepth 100000 in
theorem k_X10_clear (l : Launch) (D : va_G) (ce : Nat → ClassId) (b : Nat) (I : mI) (L : mL) (R : mR) (hT : WT kdC R) (x0 : Nat) (h0 : kdC x0 = 16) (o1 : Int32) (o2 : mI) (hf : f_X10_clear x0 I R = some (o1, o2)) : Met l yX10_clear (Cond.code yX10_clear cX10_clear 2 (some .int) :: GW) rmX10_clear (va_Pc [.ref (b + x0)] (PW D ce b kdC lnC 272 I L R)) (va_Qi (fun r u => r = o1 ∧ u = (o2, L, R)) (QW D ce b kdC lnC 272) (box b 272)) 0 0 (box b 272) := by
  refine Met.ofW (cc := cX10_clear) (maxL := 2) (ret := (some .int)) (by decide) rfl ?_
  intro p e s m args below meth c s₁ B hml hv
  obtain ⟨rfl, hP, hKK⟩ := hv
  have hx := B.exec
  have hb := B.bytes
  have hr := B.returns
  have hts0 := atoms_spec (ws := Cond.code yX10_clear cX10_clear 2 (some .int) :: GW) B.pre
  have hts : ∀ w ∈ GW, w.before _ s = true := fun w h => hts0 w (List.mem_cons_of_mem _ h)
  clear hts0
  have hown : s.vm.findClass RX10 = some m.cls := findClass_of_methodNamed B.named
  have hlocks := B.notSynchronized
  have hA : ∀ q, box b 272 q → box b 272 q := fun _ h => h
  have hS : va_S (box b 272) s.heap s.heap [] := va_S.rf
  have hl := lv_entry ([.ref (b + x0)]) (n := 2) (Nat.le_of_ble_eq_true rfl)
  rw [lg_entry_eq]
  generalize (lg_sl ([.ref (b + x0)]) ++ List.replicate (2 - (lg_sl ([.ref (b + x0)])).length) Slot.unset).toArray = ls at hl ⊢
  have hl : lv_has ls 2 [(0, .ref (b + x0))] := hl
  generalize ([.ref (b + x0)] : List Value).toArray = av at hts ⊢
  show W p l e rmX10_clear s m av below meth c s.heap [] 0 0 _ _
  obtain ⟨QQ, hQQ⟩ : ∃ z, z = MQ below (va_Qi (fun r u => r = o1 ∧ u = (o2, L, R)) (QW D ce b kdC lnC 272) (box b 272)) av s 0 0 (box b 272) := ⟨_, rfl⟩
  rw [← hQQ]
  have hret : ∀ (r : Int32) (I1 : mI), some (r, I1) = some (o1, o2) → ∀ (H1 : Heap) (locs1 : List Loc) (ls1 : Array Slot) (pc1 : Nat), decode cX10_clear pc1 = .ok (.ireturn, 1) → va_P D vwCl (wd ce b kdC lnC 272 I1 L R) H1 → WT kdC R → va_S (box b 272) s.heap H1 locs1 → W p l e rmX10_clear s m av below meth c H1 locs1 0 0 QQ (F0 m pc1 ls1 [.int r]) := by
    intro r I1 hq H1 locs1 ls1 pc1 hd hP hT hS
    cases hq
    rw [hQQ]
    exact mm_iret hx hb hr hlocks hP hT hS hd
  unfold f_X10_clear at hf
  obtain ⟨H, hH⟩ : ∃ z, z = s.heap := ⟨_, rfl⟩
  obtain ⟨locs, hlo⟩ : ∃ z : List Loc, z = [] := ⟨_, rfl⟩
  have hP : va_P D vwCl (wd ce b kdC lnC 272 I L R) H := by rw [hH]; exact hP
  have hS : va_S (box b 272) s.heap H locs := by rw [hH, hlo]; exact hS
  rw [show W p l e rmX10_clear s m av below meth c s.heap [] 0 0 QQ = W p l e rmX10_clear s m av below meth c H locs 0 0 QQ by rw [hH, hlo]]
  clear hH hlo
  clear hQQ
  show W p l e rmX10_clear s m av below meth c H locs 0 0 QQ (F0 m 0 ls [])
  refine lv_aload_n hx hb dX10_clear_0 rfl (lv_at hl 0 rfl) ?_
  have t1 : kdC (R x0 2) = 8 := wt hT h0 rfl
  refine mm_getr hx hb hts hown hKK hP fk10_2 (Nat.le_of_ble_eq_true rfl) lkX10_26 (kdC_lt h0 (Nat.succ_ne_zero _)) h0 (nC t1 (Nat.succ_ne_zero _)) dX10_clear_1 ?_
  refine mm_geti hx hb hts hown hKK hP fk2_2 (Or.inl rfl) lkX10_85 (kdC_lt t1 (Nat.succ_ne_zero _)) t1 dX10_clear_4 ?_
  refine lv_istore_n (lv' := [(1, .int (I (R x0 2) 2)), (0, .ref (b + x0))]) hx hb dX10_clear_7 rfl hl (Nat.le_of_ble_eq_true rfl) rfl (fun ls hl => ?_)
  refine lv_aload_n hx hb dX10_clear_8 rfl (lv_at hl 1 rfl) ?_
  refine mm_getr hx hb hts hown hKK hP fk10_2 (Nat.le_of_ble_eq_true rfl) lkX10_26 (kdC_lt h0 (Nat.succ_ne_zero _)) h0 (nC t1 (Nat.succ_ne_zero _)) dX10_clear_9 ?_
  refine lv_iconst (v := (0 : Int32)) hx hb dX10_clear_12 (by decide) ?_
  refine jnE hf (fun I2 eI2 hf => ?_)
  refine mm_puti hx hb hts hown hKK hP hA hS fk2_2 (Or.inl rfl) fw2_2 lkX10_85 (kdC_lt t1 (Nat.succ_ne_zero _)) t1 rfl rfl dX10_clear_13 (fun H locs hP hS => ?_)
  rw [← eI2] at hP
  refine lv_iload_n hx hb dX10_clear_16 rfl (lv_at hl 0 rfl) ?_
  exact hret (I (R x0 2) 2) I2 hf H locs ls _ dX10_clear_17 hP hT hS
def rmX2_skipBlanks : Room := { frames := 0, cells := 0, slots := 0, locals := 0 }
set_option maxHeartbeats 4000000 in
set_option maxRecDepth 100000 in
theorem k_X2_skipBlanks (l : Launch) (D : va_G) (ce : Nat → ClassId) (b : Nat) (I : mI) (L : mL) (R : mR) (hT : WT kdC R) (x0 : Nat) (h0 : kdC x0 = 8) (o1 : mI) (hf : f_X2_skipBlanks x0 I R = some o1) : Met l yX2_skipBlanks (Cond.code yX2_skipBlanks cX2_skipBlanks 1 none :: GW) rmX2_skipBlanks (va_Pc [.ref (b + x0)] (PW D ce b kdC lnC 272 I L R)) (va_Qv (fun u => u = (o1, L, R)) (QW D ce b kdC lnC 272) (box b 272)) 0 0 (box b 272) := by
  refine Met.ofW (cc := cX2_skipBlanks) (maxL := 1) (ret := none) (by decide) rfl ?_
  intro p e s m args below meth c s₁ B hml hv
  obtain ⟨rfl, hP, hKK⟩ := hv
  have hx := B.exec
  have hb := B.bytes
  have hr := B.returns
  have hts0 := atoms_spec (ws := Cond.code yX2_skipBlanks cX2_skipBlanks 1 none :: GW) B.pre
  have hts : ∀ w ∈ GW, w.before _ s = true := fun w h => hts0 w (List.mem_cons_of_mem _ h)
  clear hts0
  have hown : s.vm.findClass RX2 = some m.cls := findClass_of_methodNamed B.named
  have hlocks := B.notSynchronized
  have hA : ∀ q, box b 272 q → box b 272 q := fun _ h => h
  have hS : va_S (box b 272) s.heap s.heap [] := va_S.rf
  have hl := lv_entry ([.ref (b + x0)]) (n := 1) (Nat.le_of_ble_eq_true rfl)
  rw [lg_entry_eq]
  generalize (lg_sl ([.ref (b + x0)]) ++ List.replicate (1 - (lg_sl ([.ref (b + x0)])).length) Slot.unset).toArray = ls at hl ⊢
  have hl : lv_has ls 1 [(0, .ref (b + x0))] := hl
  generalize ([.ref (b + x0)] : List Value).toArray = av at hts ⊢
  show W p l e rmX2_skipBlanks s m av below meth c s.heap [] 0 0 _ _
  obtain ⟨QQ, hQQ⟩ : ∃ z, z = MQ below (va_Qv (fun u => u = (o1, L, R)) (QW D ce b kdC lnC 272) (box b 272)) av s 0 0 (box b 272) := ⟨_, rfl⟩
  rw [← hQQ]
  have hret : ∀ (I1 : mI), some I1 = some o1 → ∀ (H1 : Heap) (locs1 : List Loc) (ls1 : Array Slot) (pc1 : Nat), decode cX2_skipBlanks pc1 = .ok (.return_, 1) → va_P D vwCl (wd ce b kdC lnC 272 I1 L R) H1 → WT kdC R → va_S (box b 272) s.heap H1 locs1 → W p l e rmX2_skipBlanks s m av below meth c H1 locs1 0 0 QQ (F0 m pc1 ls1 []) := by
    intro I1 hq H1 locs1 ls1 pc1 hd hP hT hS
    cases hq
    rw [hQQ]
    exact mm_vret hx hb hr hlocks hP hT hS hd
  unfold f_X2_skipBlanks at hf
  obtain ⟨H, hH⟩ : ∃ z, z = s.heap := ⟨_, rfl⟩
  obtain ⟨locs, hlo⟩ : ∃ z : List Loc, z = [] := ⟨_, rfl⟩
  have hP : va_P D vwCl (wd ce b kdC lnC 272 I L R) H := by rw [hH]; exact hP
  have hS : va_S (box b 272) s.heap H locs := by rw [hH, hlo]; exact hS
  rw [show W p l e rmX2_skipBlanks s m av below meth c s.heap [] 0 0 QQ = W p l e rmX2_skipBlanks s m av below meth c H locs 0 0 QQ by rw [hH, hlo]]
  clear hH hlo
  clear hQQ
  show W p l e rmX2_skipBlanks s m av below meth c H locs 0 0 QQ (F0 m 0 ls [])
  have lp0 : ∀ (n : Nat) (x0 : Nat) (I : mI) (L : mL) (R : mR) (a1 : mI) (H : Heap) (locs : List Loc) (ls : Array Slot), va_P D vwCl (wd ce b kdC lnC 272 I L R) H → va_S (box b 272) s.heap H locs → WT kdC R → kdC x0 = 8 → lv_has ls 1 [(0, .ref (b + x0))] → f_X2_skipBlanks_L0 n x0 I R = some a1 → (∀ (H1 : Heap) (locs1 : List Loc) (ls1 : Array Slot), va_P D vwCl (wd ce b kdC lnC 272 a1 L R) H1 → va_S (box b 272) s.heap H1 locs1 → lv_has ls1 1 [] → W p l e rmX2_skipBlanks s m av below meth c H1 locs1 0 0 QQ (F0 m 38 ls1 [])) → W p l e rmX2_skipBlanks s m av below meth c H locs 0 0 QQ (F0 m 0 ls []) := by
    intro n
    induction n with
    | zero =>
      intro x0 I L R a1 H locs ls hP hS hT h0 hl hf kx
      exact absurd (show (none : Option (mI)) = some _ from hf) (by simp)
    | succ n ih =>
      intro x0 I L R a1 H locs ls hP hS hT h0 hl hf kx
      rw [f_X2_skipBlanks_L0] at hf
      refine lv_aload_n hx hb dX2_skipBlanks_0 rfl (lv_at hl 0 rfl) ?_
      refine mm_geti hx hb hts hown hKK hP fk2_3 (Or.inl rfl) lkX2_22 (kdC_lt h0 (Nat.succ_ne_zero _)) h0 dX2_skipBlanks_1 ?_
      refine lv_aload_n hx hb dX2_skipBlanks_4 rfl (lv_at hl 0 rfl) ?_
      refine mm_geti hx hb hts hown hKK hP fk2_2 (Or.inl rfl) lkX2_18 (kdC_lt h0 (Nat.succ_ne_zero _)) h0 dX2_skipBlanks_5 ?_
      refine lv_icmp_ge (tgt := 38) hx hb dX2_skipBlanks_8 (by decide) (fun c1 => ?_) (fun c1 => ?_)
      · have hf := ifT hf c1
        cases hf
        exact kx H locs ls hP hS (lv_sub hl [] rfl)
      · have hf := ifF hf c1
        refine lv_aload_n hx hb dX2_skipBlanks_11 rfl (lv_at hl 0 rfl) ?_
        have t2 : kdC (R x0 0) = 1 := wt hT h0 rfl
        refine mm_getr hx hb hts hown hKK hP fk2_0 (Nat.le_of_ble_eq_true rfl) lkX2_9 (kdC_lt h0 (Nat.succ_ne_zero _)) h0 (nC t2 (Nat.succ_ne_zero _)) dX2_skipBlanks_12 ?_
        refine lv_aload_n hx hb dX2_skipBlanks_15 rfl (lv_at hl 0 rfl) ?_
        refine mm_geti hx hb hts hown hKK hP fk2_3 (Or.inl rfl) lkX2_22 (kdC_lt h0 (Nat.succ_ne_zero _)) h0 dX2_skipBlanks_16 ?_
        obtain ⟨g3, hf⟩ := grd hf
        refine mm_iald hx hb hKK hP (kdC_lt t2 (Nat.succ_ne_zero _)) t2 g3 dX2_skipBlanks_19 ?_
        refine lv_bipush (v := (32 : Int32)) hx hb dX2_skipBlanks_20 (by decide) ?_
        refine lv_icmp_ne (tgt := 38) hx hb dX2_skipBlanks_22 (by decide) (fun c4 => ?_) (fun c4 => ?_)
        · have hf := ifF hf c4
          cases hf
          exact kx H locs ls hP hS (lv_sub hl [] rfl)
        · have hf := ifT hf c4
          refine lv_aload_n hx hb dX2_skipBlanks_25 rfl (lv_at hl 0 rfl) ?_
          refine lv_dup hx hb dX2_skipBlanks_26 rfl ?_
          refine mm_geti hx hb hts hown hKK hP fk2_3 (Or.inl rfl) lkX2_22 (kdC_lt h0 (Nat.succ_ne_zero _)) h0 dX2_skipBlanks_27 ?_
          refine lv_iconst (v := (1 : Int32)) hx hb dX2_skipBlanks_30 (by decide) ?_
          refine lv_iadd hx hb dX2_skipBlanks_31 ?_
          refine jnE hf (fun I5 eI5 hf => ?_)
          refine mm_puti hx hb hts hown hKK hP hA hS fk2_3 (Or.inl rfl) fw2_3 lkX2_22 (kdC_lt h0 (Nat.succ_ne_zero _)) h0 rfl rfl dX2_skipBlanks_32 (fun H locs hP hS => ?_)
          rw [← eI5] at hP
          refine lv_goto (tgt := 0) hx hb dX2_skipBlanks_35 (by decide) ?_
          exact ih x0 I5 L R a1 H locs ls hP hS hT h0 (lv_sub hl [0] rfl) hf kx
  obtain ⟨I_6, e_6, hf⟩ := bd1_o hf
  refine lp0 FU x0 I L R I_6 H locs ls hP hS hT h0 (lv_sub hl [0] rfl) e_6 (fun H locs ls hP hS hl => ?_)
  exact hret I_6 hf H locs ls _ dX2_skipBlanks_38 hP hT hS
def rmX10_slotOf : Room := { frames := 0, cells := 0, slots := 0, locals := 0 }
set_option maxHeartbeats 4000000 in
set_option maxRecDepth 100000 in
theorem k_X10_slotOf (l : Launch) (D : va_G) (ce : Nat → ClassId) (b : Nat) (I : mI) (L : mL) (R : mR) (hT : WT kdC R) (x0 : Int32)  (o1 : Int32) (hf : f_X10_slotOf x0  = some o1) : Met l yX10_slotOf (Cond.code yX10_slotOf cX10_slotOf 1 (some .int) :: GW) rmX10_slotOf (va_Pc [.int x0] (PW D ce b kdC lnC 272 I L R)) (va_Qi (fun r u => r = o1 ∧ u = (I, L, R)) (QW D ce b kdC lnC 272) (box b 272)) 0 0 (box b 272) := by
  refine Met.ofW (cc := cX10_slotOf) (maxL := 1) (ret := (some .int)) (by decide) rfl ?_
  intro p e s m args below meth c s₁ B hml hv
  obtain ⟨rfl, hP, hKK⟩ := hv
  have hx := B.exec
  have hb := B.bytes
  have hr := B.returns
  have hts0 := atoms_spec (ws := Cond.code yX10_slotOf cX10_slotOf 1 (some .int) :: GW) B.pre
  have hts : ∀ w ∈ GW, w.before _ s = true := fun w h => hts0 w (List.mem_cons_of_mem _ h)
  clear hts0
  have hown : s.vm.findClass RX10 = some m.cls := findClass_of_methodNamed B.named
  have hlocks := B.notSynchronized
  have hA : ∀ q, box b 272 q → box b 272 q := fun _ h => h
  have hS : va_S (box b 272) s.heap s.heap [] := va_S.rf
  have hl := lv_entry ([.int x0]) (n := 1) (Nat.le_of_ble_eq_true rfl)
  rw [lg_entry_eq]
  generalize (lg_sl ([.int x0]) ++ List.replicate (1 - (lg_sl ([.int x0])).length) Slot.unset).toArray = ls at hl ⊢
  have hl : lv_has ls 1 [(0, .int x0)] := hl
  generalize ([.int x0] : List Value).toArray = av at hts ⊢
  show W p l e rmX10_slotOf s m av below meth c s.heap [] 0 0 _ _
  obtain ⟨QQ, hQQ⟩ : ∃ z, z = MQ below (va_Qi (fun r u => r = o1 ∧ u = (I, L, R)) (QW D ce b kdC lnC 272) (box b 272)) av s 0 0 (box b 272) := ⟨_, rfl⟩
  rw [← hQQ]
  have hret : ∀ (r : Int32), some r = some o1 → ∀ (H1 : Heap) (locs1 : List Loc) (ls1 : Array Slot) (pc1 : Nat), decode cX10_slotOf pc1 = .ok (.ireturn, 1) → va_P D vwCl (wd ce b kdC lnC 272 I L R) H1 → WT kdC R → va_S (box b 272) s.heap H1 locs1 → W p l e rmX10_slotOf s m av below meth c H1 locs1 0 0 QQ (F0 m pc1 ls1 [.int r]) := by
    intro r hq H1 locs1 ls1 pc1 hd hP hT hS
    cases hq
    rw [hQQ]
    exact mm_iret hx hb hr hlocks hP hT hS hd
  unfold f_X10_slotOf at hf
  obtain ⟨H, hH⟩ : ∃ z, z = s.heap := ⟨_, rfl⟩
  obtain ⟨locs, hlo⟩ : ∃ z : List Loc, z = [] := ⟨_, rfl⟩
  have hP : va_P D vwCl (wd ce b kdC lnC 272 I L R) H := by rw [hH]; exact hP
  have hS : va_S (box b 272) s.heap H locs := by rw [hH, hlo]; exact hS
  rw [show W p l e rmX10_slotOf s m av below meth c s.heap [] 0 0 QQ = W p l e rmX10_slotOf s m av below meth c H locs 0 0 QQ by rw [hH, hlo]]
  clear hH hlo
  clear hQQ
  show W p l e rmX10_slotOf s m av below meth c H locs 0 0 QQ (F0 m 0 ls [])
  refine lv_iload_n hx hb dX10_slotOf_0 rfl (lv_at hl 0 rfl) ?_
  by_cases c1 : x0 = (97 : Int32)
  · have hf := ifT hf c1
    refine lv_lookup (off := 59) (tgt := 60) hx hb dX10_slotOf_1 (by decide +kernel) (by rw [c1]; first | done | rfl) (by decide) ?_
    refine lv_iconst (v := (0 : Int32)) hx hb dX10_slotOf_60 (by decide) ?_
    exact hret (0 : Int32) hf H locs ls _ dX10_slotOf_61 hP hT hS
  · have hf := ifF hf c1
    by_cases c2 : x0 = (98 : Int32)
    · have hf := ifT hf c2
      refine lv_lookup (off := 61) (tgt := 62) hx hb dX10_slotOf_1 (by decide +kernel) (by rw [c2]; first | done | rfl) (by decide) ?_
      refine lv_iconst (v := (1 : Int32)) hx hb dX10_slotOf_62 (by decide) ?_
      exact hret (1 : Int32) hf H locs ls _ dX10_slotOf_63 hP hT hS
    · have hf := ifF hf c2
      by_cases c3 : x0 = (102 : Int32)
      · have hf := ifT hf c3
        refine lv_lookup (off := 63) (tgt := 64) hx hb dX10_slotOf_1 (by decide +kernel) (by rw [c3]; first | done | rfl) (by decide) ?_
        refine lv_iconst (v := (2 : Int32)) hx hb dX10_slotOf_64 (by decide) ?_
        exact hret (2 : Int32) hf H locs ls _ dX10_slotOf_65 hP hT hS
      · have hf := ifF hf c3
        by_cases c4 : x0 = (103 : Int32)
        · have hf := ifT hf c4
          refine lv_lookup (off := 65) (tgt := 66) hx hb dX10_slotOf_1 (by decide +kernel) (by rw [c4]; first | done | rfl) (by decide) ?_
          refine lv_iconst (v := (3 : Int32)) hx hb dX10_slotOf_66 (by decide) ?_
          exact hret (3 : Int32) hf H locs ls _ dX10_slotOf_67 hP hT hS
        · have hf := ifF hf c4
          by_cases c5 : x0 = (120 : Int32)
          · have hf := ifT hf c5
            refine lv_lookup (off := 67) (tgt := 68) hx hb dX10_slotOf_1 (by decide +kernel) (by rw [c5]; first | done | rfl) (by decide) ?_
            refine lv_iconst (v := (4 : Int32)) hx hb dX10_slotOf_68 (by decide) ?_
            exact hret (4 : Int32) hf H locs ls _ dX10_slotOf_69 hP hT hS
          · have hf := ifF hf c5
            by_cases c6 : x0 = (121 : Int32)
            · have hf := ifT hf c6
              refine lv_lookup (off := 69) (tgt := 70) hx hb dX10_slotOf_1 (by decide +kernel) (by rw [c6]; first | done | rfl) (by decide) ?_
              refine lv_iconst (v := (5 : Int32)) hx hb dX10_slotOf_70 (by decide) ?_
              exact hret (5 : Int32) hf H locs ls _ dX10_slotOf_71 hP hT hS
            · have hf := ifF hf c6
              have qc1 := lv_neT c1 (a := 97) rfl
              have qc2 := lv_neT c2 (a := 98) rfl
              have qc3 := lv_neT c3 (a := 102) rfl
              have qc4 := lv_neT c4 (a := 103) rfl
              have qc5 := lv_neT c5 (a := 120) rfl
              have qc6 := lv_neT c6 (a := 121) rfl
              refine lv_lookup (off := 71) (tgt := 72) hx hb dX10_slotOf_1 (by decide +kernel) (by refine (lv_osw c1 rfl).trans ?_; refine (lv_osw c2 rfl).trans ?_; refine (lv_osw c3 rfl).trans ?_; refine (lv_osw c4 rfl).trans ?_; refine (lv_osw c5 rfl).trans ?_; refine (lv_osw c6 rfl).trans ?_; rfl) (by decide) ?_
              refine lv_iconst (v := (-1 : Int32)) hx hb dX10_slotOf_72 (by decide) ?_
              exact hret (-1 : Int32) hf H locs ls _ dX10_slotOf_73 hP hT hS
def rmX10_unknownBit : Room := { frames := 0, cells := 0, slots := 0, locals := 0 }
set_option maxHeartbeats 4000000 in
set_option maxRecDepth 100000 in
theorem k_X10_unknownBit (l : Launch) (D : va_G) (ce : Nat → ClassId) (b : Nat) (I : mI) (L : mL) (R : mR) (hT : WT kdC R) (x0 : Int32)  (o1 : Int32) (hf : f_X10_unknownBit x0  = some o1) : Met l yX10_unknownBit (Cond.code yX10_unknownBit cX10_unknownBit 1 (some .int) :: GW) rmX10_unknownBit (va_Pc [.int x0] (PW D ce b kdC lnC 272 I L R)) (va_Qi (fun r u => r = o1 ∧ u = (I, L, R)) (QW D ce b kdC lnC 272) (box b 272)) 0 0 (box b 272) := by
  refine Met.ofW (cc := cX10_unknownBit) (maxL := 1) (ret := (some .int)) (by decide) rfl ?_
  intro p e s m args below meth c s₁ B hml hv
  obtain ⟨rfl, hP, hKK⟩ := hv
  have hx := B.exec
  have hb := B.bytes
  have hr := B.returns
  have hts0 := atoms_spec (ws := Cond.code yX10_unknownBit cX10_unknownBit 1 (some .int) :: GW) B.pre
  have hts : ∀ w ∈ GW, w.before _ s = true := fun w h => hts0 w (List.mem_cons_of_mem _ h)
  clear hts0
  have hown : s.vm.findClass RX10 = some m.cls := findClass_of_methodNamed B.named
  have hlocks := B.notSynchronized
  have hA : ∀ q, box b 272 q → box b 272 q := fun _ h => h
  have hS : va_S (box b 272) s.heap s.heap [] := va_S.rf
  have hl := lv_entry ([.int x0]) (n := 1) (Nat.le_of_ble_eq_true rfl)
  rw [lg_entry_eq]
  generalize (lg_sl ([.int x0]) ++ List.replicate (1 - (lg_sl ([.int x0])).length) Slot.unset).toArray = ls at hl ⊢
  have hl : lv_has ls 1 [(0, .int x0)] := hl
  generalize ([.int x0] : List Value).toArray = av at hts ⊢
  show W p l e rmX10_unknownBit s m av below meth c s.heap [] 0 0 _ _
  obtain ⟨QQ, hQQ⟩ : ∃ z, z = MQ below (va_Qi (fun r u => r = o1 ∧ u = (I, L, R)) (QW D ce b kdC lnC 272) (box b 272)) av s 0 0 (box b 272) := ⟨_, rfl⟩
  rw [← hQQ]
  have hret : ∀ (r : Int32), some r = some o1 → ∀ (H1 : Heap) (locs1 : List Loc) (ls1 : Array Slot) (pc1 : Nat), decode cX10_unknownBit pc1 = .ok (.ireturn, 1) → va_P D vwCl (wd ce b kdC lnC 272 I L R) H1 → WT kdC R → va_S (box b 272) s.heap H1 locs1 → W p l e rmX10_unknownBit s m av below meth c H1 locs1 0 0 QQ (F0 m pc1 ls1 [.int r]) := by
    intro r hq H1 locs1 ls1 pc1 hd hP hT hS
    cases hq
    rw [hQQ]
    exact mm_iret hx hb hr hlocks hP hT hS hd
  unfold f_X10_unknownBit at hf
  obtain ⟨H, hH⟩ : ∃ z, z = s.heap := ⟨_, rfl⟩
  obtain ⟨locs, hlo⟩ : ∃ z : List Loc, z = [] := ⟨_, rfl⟩
  have hP : va_P D vwCl (wd ce b kdC lnC 272 I L R) H := by rw [hH]; exact hP
  have hS : va_S (box b 272) s.heap H locs := by rw [hH, hlo]; exact hS
  rw [show W p l e rmX10_unknownBit s m av below meth c s.heap [] 0 0 QQ = W p l e rmX10_unknownBit s m av below meth c H locs 0 0 QQ by rw [hH, hlo]]
  clear hH hlo
  clear hQQ
  show W p l e rmX10_unknownBit s m av below meth c H locs 0 0 QQ (F0 m 0 ls [])
  refine lv_iload_n hx hb dX10_unknownBit_0 rfl (lv_at hl 0 rfl) ?_
  refine lv_bipush (v := (120 : Int32)) hx hb dX10_unknownBit_1 (by decide) ?_
  refine lv_icmp_ne (tgt := 8) hx hb dX10_unknownBit_3 (by decide) (fun c1 => ?_) (fun c1 => ?_)
  · have hf := ifF hf c1
    refine lv_iload_n hx hb dX10_unknownBit_8 rfl (lv_at hl 0 rfl) ?_
    refine lv_bipush (v := (121 : Int32)) hx hb dX10_unknownBit_9 (by decide) ?_
    refine lv_icmp_ne (tgt := 18) hx hb dX10_unknownBit_11 (by decide) (fun c2 => ?_) (fun c2 => ?_)
    · have hf := ifF hf c2
      refine lv_iconst (v := (0 : Int32)) hx hb dX10_unknownBit_18 (by decide) ?_
      exact hret (0 : Int32) hf H locs ls _ dX10_unknownBit_19 hP hT hS
    · have hf := ifT hf c2
      refine lv_iconst (v := (2 : Int32)) hx hb dX10_unknownBit_14 (by decide) ?_
      refine lv_goto (tgt := 19) hx hb dX10_unknownBit_15 (by decide) ?_
      exact hret (2 : Int32) hf H locs ls _ dX10_unknownBit_19 hP hT hS
  · have hf := ifT hf c1
    refine lv_iconst (v := (1 : Int32)) hx hb dX10_unknownBit_6 (by decide) ?_
    exact hret (1 : Int32) hf H locs ls _ dX10_unknownBit_7 hP hT hS
def rmX8_addLetter : Room := { frames := 0, cells := 0, slots := 0, locals := 0 }
set_option maxHeartbeats 4000000 in
set_option maxRecDepth 100000 in
theorem k_X8_addLetter (l : Launch) (D : va_G) (ce : Nat → ClassId) (b : Nat) (I : mI) (L : mL) (R : mR) (hT : WT kdC R) (x0 : Nat) (x1 : Int32) (h0 : kdC x0 = 14) (o1 : mI) (hf : f_X8_addLetter x0 x1 I R = some o1) : Met l yX8_addLetter (Cond.code yX8_addLetter cX8_addLetter 2 none :: GW) rmX8_addLetter (va_Pc [.ref (b + x0), .int x1] (PW D ce b kdC lnC 272 I L R)) (va_Qv (fun u => u = (o1, L, R)) (QW D ce b kdC lnC 272) (box b 272)) 0 0 (box b 272) := by
  refine Met.ofW (cc := cX8_addLetter) (maxL := 2) (ret := none) (by decide) rfl ?_
  intro p e s m args below meth c s₁ B hml hv
  obtain ⟨rfl, hP, hKK⟩ := hv
  have hx := B.exec
  have hb := B.bytes
  have hr := B.returns
  have hts0 := atoms_spec (ws := Cond.code yX8_addLetter cX8_addLetter 2 none :: GW) B.pre
  have hts : ∀ w ∈ GW, w.before _ s = true := fun w h => hts0 w (List.mem_cons_of_mem _ h)
  clear hts0
  have hown : s.vm.findClass RX8 = some m.cls := findClass_of_methodNamed B.named
  have hlocks := B.notSynchronized
  have hA : ∀ q, box b 272 q → box b 272 q := fun _ h => h
  have hS : va_S (box b 272) s.heap s.heap [] := va_S.rf
  have hl := lv_entry ([.ref (b + x0), .int x1]) (n := 2) (Nat.le_of_ble_eq_true rfl)
  rw [lg_entry_eq]
  generalize (lg_sl ([.ref (b + x0), .int x1]) ++ List.replicate (2 - (lg_sl ([.ref (b + x0), .int x1])).length) Slot.unset).toArray = ls at hl ⊢
  have hl : lv_has ls 2 [(0, .ref (b + x0)), (1, .int x1)] := hl
  generalize ([.ref (b + x0), .int x1] : List Value).toArray = av at hts ⊢
  show W p l e rmX8_addLetter s m av below meth c s.heap [] 0 0 _ _
  obtain ⟨QQ, hQQ⟩ : ∃ z, z = MQ below (va_Qv (fun u => u = (o1, L, R)) (QW D ce b kdC lnC 272) (box b 272)) av s 0 0 (box b 272) := ⟨_, rfl⟩
  rw [← hQQ]
  have hret : ∀ (I1 : mI), some I1 = some o1 → ∀ (H1 : Heap) (locs1 : List Loc) (ls1 : Array Slot) (pc1 : Nat), decode cX8_addLetter pc1 = .ok (.return_, 1) → va_P D vwCl (wd ce b kdC lnC 272 I1 L R) H1 → WT kdC R → va_S (box b 272) s.heap H1 locs1 → W p l e rmX8_addLetter s m av below meth c H1 locs1 0 0 QQ (F0 m pc1 ls1 []) := by
    intro I1 hq H1 locs1 ls1 pc1 hd hP hT hS
    cases hq
    rw [hQQ]
    exact mm_vret hx hb hr hlocks hP hT hS hd
  unfold f_X8_addLetter at hf
  obtain ⟨H, hH⟩ : ∃ z, z = s.heap := ⟨_, rfl⟩
  obtain ⟨locs, hlo⟩ : ∃ z : List Loc, z = [] := ⟨_, rfl⟩
  have hP : va_P D vwCl (wd ce b kdC lnC 272 I L R) H := by rw [hH]; exact hP
  have hS : va_S (box b 272) s.heap H locs := by rw [hH, hlo]; exact hS
  rw [show W p l e rmX8_addLetter s m av below meth c s.heap [] 0 0 QQ = W p l e rmX8_addLetter s m av below meth c H locs 0 0 QQ by rw [hH, hlo]]
  clear hH hlo
  clear hQQ
  show W p l e rmX8_addLetter s m av below meth c H locs 0 0 QQ (F0 m 0 ls [])
  refine lv_aload_n hx hb dX8_addLetter_0 rfl (lv_at hl 0 rfl) ?_
  refine mm_geti hx hb hts hown hKK hP fk8_2 (Or.inl rfl) lkX8_22 (kdC_lt h0 (Nat.succ_ne_zero _)) h0 dX8_addLetter_1 ?_
  refine lv_aload_n hx hb dX8_addLetter_4 rfl (lv_at hl 0 rfl) ?_
  have t1 : kdC (R x0 0) = 1 := wt hT h0 rfl
  refine mm_getr hx hb hts hown hKK hP fk8_0 (Nat.le_of_ble_eq_true rfl) lkX8_13 (kdC_lt h0 (Nat.succ_ne_zero _)) h0 (nC t1 (Nat.succ_ne_zero _)) dX8_addLetter_5 ?_
  refine mm_alen hx hb hKK hP (kdC_lt t1 (Nat.succ_ne_zero _)) t1 dX8_addLetter_8 ?_
  refine lv_icmp_ge (tgt := 32) hx hb dX8_addLetter_9 (by decide) (fun c2 => ?_) (fun c2 => ?_)
  · have hf := ifT hf c2
    exact hret I hf H locs ls _ dX8_addLetter_32 hP hT hS
  · have hf := ifF hf c2
    refine lv_aload_n hx hb dX8_addLetter_12 rfl (lv_at hl 0 rfl) ?_
    refine mm_getr hx hb hts hown hKK hP fk8_0 (Nat.le_of_ble_eq_true rfl) lkX8_13 (kdC_lt h0 (Nat.succ_ne_zero _)) h0 (nC t1 (Nat.succ_ne_zero _)) dX8_addLetter_13 ?_
    refine lv_aload_n hx hb dX8_addLetter_16 rfl (lv_at hl 0 rfl) ?_
    refine mm_geti hx hb hts hown hKK hP fk8_2 (Or.inl rfl) lkX8_22 (kdC_lt h0 (Nat.succ_ne_zero _)) h0 dX8_addLetter_17 ?_
    refine lv_iload_n hx hb dX8_addLetter_20 rfl (lv_at hl 1 rfl) ?_
    obtain ⟨g3, hf⟩ := grd hf
    refine jnE hf (fun I4 eI4 hf => ?_)
    refine mm_iast hx hb hKK hP hA hS (kdC_lt t1 (Nat.succ_ne_zero _)) t1 g3 dX8_addLetter_21 (fun H locs hP hS => ?_)
    rw [← eI4] at hP
    refine lv_aload_n hx hb dX8_addLetter_22 rfl (lv_at hl 0 rfl) ?_
    refine lv_dup hx hb dX8_addLetter_23 rfl ?_
    refine mm_geti hx hb hts hown hKK hP fk8_2 (Or.inl rfl) lkX8_22 (kdC_lt h0 (Nat.succ_ne_zero _)) h0 dX8_addLetter_24 ?_
    refine lv_iconst (v := (1 : Int32)) hx hb dX8_addLetter_27 (by decide) ?_
    refine lv_iadd hx hb dX8_addLetter_28 ?_
    refine jnE hf (fun I5 eI5 hf => ?_)
    refine mm_puti hx hb hts hown hKK hP hA hS fk8_2 (Or.inl rfl) fw8_2 lkX8_22 (kdC_lt h0 (Nat.succ_ne_zero _)) h0 rfl rfl dX8_addLetter_29 (fun H locs hP hS => ?_)
    rw [← eI5] at hP
    exact hret I5 hf H locs ls _ dX8_addLetter_32 hP hT hS
def rmX2_readLetter : Room := { frames := 1, cells := 0, slots := 0, locals := 21 }
set_option maxHeartbeats 4000000 in
set_option maxRecDepth 100000 in
theorem k_X2_readLetter (l : Launch) (D : va_G) (ce : Nat → ClassId) (b : Nat) (I : mI) (L : mL) (R : mR) (hT : WT kdC R) (x0 : Nat) (x1 : Nat) (x2 : Int32) (h0 : kdC x0 = 8) (h1 : kdC x1 = 14) (o1 : Int32) (o2 : mI) (hf : f_X2_readLetter x0 x1 x2 I R = some (o1, o2)) : Met l yX2_readLetter (Cond.code yX2_readLetter cX2_readLetter 4 (some .boolean) :: GW) rmX2_readLetter (va_Pc [.ref (b + x0), .ref (b + x1), .int x2] (PW D ce b kdC lnC 272 I L R)) (va_Qi (fun r u => r = o1 ∧ u = (o2, L, R)) (QW D ce b kdC lnC 272) (box b 272)) 0 0 (box b 272) := by
  refine Met.ofW (cc := cX2_readLetter) (maxL := 4) (ret := (some .boolean)) (by decide) rfl ?_
  intro p e s m args below meth c s₁ B hml hv
  obtain ⟨rfl, hP, hKK⟩ := hv
  have hx := B.exec
  have hb := B.bytes
  have hr := B.returns
  have hts0 := atoms_spec (ws := Cond.code yX2_readLetter cX2_readLetter 4 (some .boolean) :: GW) B.pre
  have hts : ∀ w ∈ GW, w.before _ s = true := fun w h => hts0 w (List.mem_cons_of_mem _ h)
  clear hts0
  have hown : s.vm.findClass RX2 = some m.cls := findClass_of_methodNamed B.named
  have hlocks := B.notSynchronized
  have hA : ∀ q, box b 272 q → box b 272 q := fun _ h => h
  have hS : va_S (box b 272) s.heap s.heap [] := va_S.rf
  have hl := lv_entry ([.ref (b + x0), .ref (b + x1), .int x2]) (n := 4) (Nat.le_of_ble_eq_true rfl)
  rw [lg_entry_eq]
  generalize (lg_sl ([.ref (b + x0), .ref (b + x1), .int x2]) ++ List.replicate (4 - (lg_sl ([.ref (b + x0), .ref (b + x1), .int x2])).length) Slot.unset).toArray = ls at hl ⊢
  have hl : lv_has ls 4 [(0, .ref (b + x0)), (1, .ref (b + x1)), (2, .int x2)] := hl
  generalize ([.ref (b + x0), .ref (b + x1), .int x2] : List Value).toArray = av at hts ⊢
  show W p l e rmX2_readLetter s m av below meth c s.heap [] 0 0 _ _
  obtain ⟨QQ, hQQ⟩ : ∃ z, z = MQ below (va_Qi (fun r u => r = o1 ∧ u = (o2, L, R)) (QW D ce b kdC lnC 272) (box b 272)) av s 0 0 (box b 272) := ⟨_, rfl⟩
  rw [← hQQ]
  have hret : ∀ (r : Int32) (I1 : mI), some (r, I1) = some (o1, o2) → ∀ (H1 : Heap) (locs1 : List Loc) (ls1 : Array Slot) (pc1 : Nat), decode cX2_readLetter pc1 = .ok (.ireturn, 1) → zb r = true → va_P D vwCl (wd ce b kdC lnC 272 I1 L R) H1 → WT kdC R → va_S (box b 272) s.heap H1 locs1 → W p l e rmX2_readLetter s m av below meth c H1 locs1 0 0 QQ (F0 m pc1 ls1 [.int r]) := by
    intro r I1 hq H1 locs1 ls1 pc1 hd hz hP hT hS
    cases hq
    rw [hQQ]
    exact mm_zret hx hb hr hlocks hz hP hT hS hd
  unfold f_X2_readLetter at hf
  obtain ⟨H, hH⟩ : ∃ z, z = s.heap := ⟨_, rfl⟩
  obtain ⟨locs, hlo⟩ : ∃ z : List Loc, z = [] := ⟨_, rfl⟩
  have hP : va_P D vwCl (wd ce b kdC lnC 272 I L R) H := by rw [hH]; exact hP
  have hS : va_S (box b 272) s.heap H locs := by rw [hH, hlo]; exact hS
  rw [show W p l e rmX2_readLetter s m av below meth c s.heap [] 0 0 QQ = W p l e rmX2_readLetter s m av below meth c H locs 0 0 QQ by rw [hH, hlo]]
  clear hH hlo
  clear hQQ
  show W p l e rmX2_readLetter s m av below meth c H locs 0 0 QQ (F0 m 0 ls [])
  refine lv_aload_n hx hb dX2_readLetter_0 rfl (lv_at hl 0 rfl) ?_
  obtain ⟨I1, e1, hf⟩ := bd1_o hf
  refine mm_Vv (rest := []) hx hb hml hown hts hKK hP hS hA (kdC_lt h0 (Nat.succ_ne_zero _)) h0 (show vwCl[2]? = some (yX2_skipBlanks.cls, TX2, 5) from rfl) vkX2_38 (k_X2_skipBlanks l D ce b I L R hT x0 h0 I1 e1) rfl hl.1 rfl (Nat.le_of_ble_eq_true rfl) ⟨rfl, rfl⟩ ⟨Nat.le_of_ble_eq_true rfl, Nat.le_of_ble_eq_true rfl⟩ ⟨Nat.zero_le _, Nat.zero_le _⟩ dX2_readLetter_1 (fun H locs hP hT hS => ?_)
  refine lv_aload_n hx hb dX2_readLetter_4 rfl (lv_at hl 0 rfl) ?_
  refine mm_geti hx hb hts hown hKK hP fk2_3 (Or.inl rfl) lkX2_22 (kdC_lt h0 (Nat.succ_ne_zero _)) h0 dX2_readLetter_5 ?_
  refine lv_aload_n hx hb dX2_readLetter_8 rfl (lv_at hl 0 rfl) ?_
  refine mm_geti hx hb hts hown hKK hP fk2_2 (Or.inl rfl) lkX2_18 (kdC_lt h0 (Nat.succ_ne_zero _)) h0 dX2_readLetter_9 ?_
  refine lv_icmp_ge (tgt := 31) hx hb dX2_readLetter_12 (by decide) (fun c2 => ?_) (fun c2 => ?_)
  · have hf := ifT hf c2
    refine lv_iconst (v := (0 : Int32)) hx hb dX2_readLetter_31 (by decide) ?_
    exact hret (0 : Int32) I1 hf H locs ls _ dX2_readLetter_32 rfl hP hT hS
  · have hf := ifF hf c2
    refine lv_aload_n hx hb dX2_readLetter_15 rfl (lv_at hl 0 rfl) ?_
    have t3 : kdC (R x0 0) = 1 := wt hT h0 rfl
    refine mm_getr hx hb hts hown hKK hP fk2_0 (Nat.le_of_ble_eq_true rfl) lkX2_9 (kdC_lt h0 (Nat.succ_ne_zero _)) h0 (nC t3 (Nat.succ_ne_zero _)) dX2_readLetter_16 ?_
    refine lv_aload_n hx hb dX2_readLetter_19 rfl (lv_at hl 0 rfl) ?_
    refine mm_geti hx hb hts hown hKK hP fk2_3 (Or.inl rfl) lkX2_22 (kdC_lt h0 (Nat.succ_ne_zero _)) h0 dX2_readLetter_20 ?_
    obtain ⟨g4, hf⟩ := grd hf
    refine mm_iald hx hb hKK hP (kdC_lt t3 (Nat.succ_ne_zero _)) t3 g4 dX2_readLetter_23 ?_
    obtain ⟨r5, e5, hf⟩ := bd1_o hf
    refine mm_Ni (rest := []) hx hb hml hown hts hKK hP hS hA nkX2_91 (k_X10_slotOf l D ce b I1 L R hT (I1 (R x0 0) ((I1 x0 3)).toNatClampNeg)  r5 e5) rfl hl.1 rfl (Nat.le_of_ble_eq_true rfl) ⟨rfl, rfl⟩ ⟨Nat.le_of_ble_eq_true rfl, Nat.le_of_ble_eq_true rfl⟩ ⟨Nat.zero_le _, Nat.zero_le _⟩ dX2_readLetter_24 (fun H locs hP hT hS => ?_)
    refine lv_iconst (v := (-1 : Int32)) hx hb dX2_readLetter_27 (by decide) ?_
    refine lv_icmp_ne (tgt := 33) hx hb dX2_readLetter_28 (by decide) (fun c6 => ?_) (fun c6 => ?_)
    · have hf := ifF hf c6
      refine lv_aload_n hx hb dX2_readLetter_33 rfl (lv_at hl 0 rfl) ?_
      refine mm_getr hx hb hts hown hKK hP fk2_0 (Nat.le_of_ble_eq_true rfl) lkX2_9 (kdC_lt h0 (Nat.succ_ne_zero _)) h0 (nC t3 (Nat.succ_ne_zero _)) dX2_readLetter_34 ?_
      refine lv_aload_n hx hb dX2_readLetter_37 rfl (lv_at hl 0 rfl) ?_
      refine mm_geti hx hb hts hown hKK hP fk2_3 (Or.inl rfl) lkX2_22 (kdC_lt h0 (Nat.succ_ne_zero _)) h0 dX2_readLetter_38 ?_
      refine mm_iald hx hb hKK hP (kdC_lt t3 (Nat.succ_ne_zero _)) t3 g4 dX2_readLetter_41 ?_
      obtain ⟨r7, e7, hf⟩ := bd1_o hf
      refine mm_Ni (rest := []) hx hb hml hown hts hKK hP hS hA nkX2_94 (k_X10_unknownBit l D ce b I1 L R hT (I1 (R x0 0) ((I1 x0 3)).toNatClampNeg)  r7 e7) rfl hl.1 rfl (Nat.le_of_ble_eq_true rfl) ⟨rfl, rfl⟩ ⟨Nat.le_of_ble_eq_true rfl, Nat.le_of_ble_eq_true rfl⟩ ⟨Nat.zero_le _, Nat.zero_le _⟩ dX2_readLetter_42 (fun H locs hP hT hS => ?_)
      refine lv_istore_n (lv' := [(3, .int r7), (0, .ref (b + x0)), (1, .ref (b + x1)), (2, .int x2)]) hx hb dX2_readLetter_45 rfl hl (Nat.le_of_ble_eq_true rfl) rfl (fun ls hl => ?_)
      refine lv_iload_n hx hb dX2_readLetter_46 rfl (lv_at hl 0 rfl) ?_
      refine lv_iload_n hx hb dX2_readLetter_47 rfl (lv_at hl 3 rfl) ?_
      refine lv_iand hx hb dX2_readLetter_48 ?_
      refine lv_iload_n hx hb dX2_readLetter_49 rfl (lv_at hl 0 rfl) ?_
      refine lv_icmp_eq (tgt := 55) hx hb dX2_readLetter_50 (by decide) (fun c8 => ?_) (fun c8 => ?_)
      · have hf := ifT hf c8
        refine lv_aload_n hx hb dX2_readLetter_55 rfl (lv_at hl 2 rfl) ?_
        refine lv_aload_n hx hb dX2_readLetter_56 rfl (lv_at hl 1 rfl) ?_
        refine mm_getr hx hb hts hown hKK hP fk2_0 (Nat.le_of_ble_eq_true rfl) lkX2_9 (kdC_lt h0 (Nat.succ_ne_zero _)) h0 (nC t3 (Nat.succ_ne_zero _)) dX2_readLetter_57 ?_
        refine lv_aload_n hx hb dX2_readLetter_60 rfl (lv_at hl 1 rfl) ?_
        refine mm_geti hx hb hts hown hKK hP fk2_3 (Or.inl rfl) lkX2_22 (kdC_lt h0 (Nat.succ_ne_zero _)) h0 dX2_readLetter_61 ?_
        refine mm_iald hx hb hKK hP (kdC_lt t3 (Nat.succ_ne_zero _)) t3 g4 dX2_readLetter_64 ?_
        obtain ⟨I9, e9, hf⟩ := bd1_o hf
        refine mm_Vv (rest := []) hx hb hml hown hts hKK hP hS hA (kdC_lt h1 (Nat.succ_ne_zero _)) h1 (show vwCl[8]? = some (yX8_addLetter.cls, TX8, 3) from rfl) vkX2_97 (k_X8_addLetter l D ce b I1 L R hT x1 (I1 (R x0 0) ((I1 x0 3)).toNatClampNeg) h1 I9 e9) rfl hl.1 rfl (Nat.le_of_ble_eq_true rfl) ⟨rfl, rfl⟩ ⟨Nat.le_of_ble_eq_true rfl, Nat.le_of_ble_eq_true rfl⟩ ⟨Nat.zero_le _, Nat.zero_le _⟩ dX2_readLetter_65 (fun H locs hP hT hS => ?_)
        refine lv_aload_n hx hb dX2_readLetter_68 rfl (lv_at hl 1 rfl) ?_
        refine lv_dup hx hb dX2_readLetter_69 rfl ?_
        refine mm_geti hx hb hts hown hKK hP fk2_3 (Or.inl rfl) lkX2_22 (kdC_lt h0 (Nat.succ_ne_zero _)) h0 dX2_readLetter_70 ?_
        refine lv_iconst (v := (1 : Int32)) hx hb dX2_readLetter_73 (by decide) ?_
        refine lv_iadd hx hb dX2_readLetter_74 ?_
        refine jnE hf (fun I10 eI10 hf => ?_)
        refine mm_puti hx hb hts hown hKK hP hA hS fk2_3 (Or.inl rfl) fw2_3 lkX2_22 (kdC_lt h0 (Nat.succ_ne_zero _)) h0 rfl rfl dX2_readLetter_75 (fun H locs hP hS => ?_)
        rw [← eI10] at hP
        refine lv_iconst (v := (1 : Int32)) hx hb dX2_readLetter_78 (by decide) ?_
        exact hret (1 : Int32) I10 hf H locs ls _ dX2_readLetter_79 rfl hP hT hS
      · have hf := ifF hf c8
        refine lv_iconst (v := (0 : Int32)) hx hb dX2_readLetter_53 (by decide) ?_
        exact hret (0 : Int32) I1 hf H locs ls _ dX2_readLetter_54 rfl hP hT hS
    · have hf := ifT hf c6
      refine lv_iconst (v := (0 : Int32)) hx hb dX2_readLetter_31 (by decide) ?_
      exact hret (0 : Int32) I1 hf H locs ls _ dX2_readLetter_32 rfl hP hT hS
def rmX10_partsBehind : Room := { frames := 0, cells := 0, slots := 0, locals := 0 }
set_option maxHeartbeats 4000000 in
set_option maxRecDepth 100000 in
theorem k_X10_partsBehind (l : Launch) (D : va_G) (ce : Nat → ClassId) (b : Nat) (I : mI) (L : mL) (R : mR) (hT : WT kdC R) (x0 : Int32)  (o1 : Int32) (hf : f_X10_partsBehind x0  = some o1) : Met l yX10_partsBehind (Cond.code yX10_partsBehind cX10_partsBehind 1 (some .int) :: GW) rmX10_partsBehind (va_Pc [.int x0] (PW D ce b kdC lnC 272 I L R)) (va_Qi (fun r u => r = o1 ∧ u = (I, L, R)) (QW D ce b kdC lnC 272) (box b 272)) 0 0 (box b 272) := by
  refine Met.ofW (cc := cX10_partsBehind) (maxL := 1) (ret := (some .int)) (by decide) rfl ?_
  intro p e s m args below meth c s₁ B hml hv
  obtain ⟨rfl, hP, hKK⟩ := hv
  have hx := B.exec
  have hb := B.bytes
  have hr := B.returns
  have hts0 := atoms_spec (ws := Cond.code yX10_partsBehind cX10_partsBehind 1 (some .int) :: GW) B.pre
  have hts : ∀ w ∈ GW, w.before _ s = true := fun w h => hts0 w (List.mem_cons_of_mem _ h)
  clear hts0
  have hown : s.vm.findClass RX10 = some m.cls := findClass_of_methodNamed B.named
  have hlocks := B.notSynchronized
  have hA : ∀ q, box b 272 q → box b 272 q := fun _ h => h
  have hS : va_S (box b 272) s.heap s.heap [] := va_S.rf
  have hl := lv_entry ([.int x0]) (n := 1) (Nat.le_of_ble_eq_true rfl)
  rw [lg_entry_eq]
  generalize (lg_sl ([.int x0]) ++ List.replicate (1 - (lg_sl ([.int x0])).length) Slot.unset).toArray = ls at hl ⊢
  have hl : lv_has ls 1 [(0, .int x0)] := hl
  generalize ([.int x0] : List Value).toArray = av at hts ⊢
  show W p l e rmX10_partsBehind s m av below meth c s.heap [] 0 0 _ _
  obtain ⟨QQ, hQQ⟩ : ∃ z, z = MQ below (va_Qi (fun r u => r = o1 ∧ u = (I, L, R)) (QW D ce b kdC lnC 272) (box b 272)) av s 0 0 (box b 272) := ⟨_, rfl⟩
  rw [← hQQ]
  have hret : ∀ (r : Int32), some r = some o1 → ∀ (H1 : Heap) (locs1 : List Loc) (ls1 : Array Slot) (pc1 : Nat), decode cX10_partsBehind pc1 = .ok (.ireturn, 1) → va_P D vwCl (wd ce b kdC lnC 272 I L R) H1 → WT kdC R → va_S (box b 272) s.heap H1 locs1 → W p l e rmX10_partsBehind s m av below meth c H1 locs1 0 0 QQ (F0 m pc1 ls1 [.int r]) := by
    intro r hq H1 locs1 ls1 pc1 hd hP hT hS
    cases hq
    rw [hQQ]
    exact mm_iret hx hb hr hlocks hP hT hS hd
  unfold f_X10_partsBehind at hf
  obtain ⟨H, hH⟩ : ∃ z, z = s.heap := ⟨_, rfl⟩
  obtain ⟨locs, hlo⟩ : ∃ z : List Loc, z = [] := ⟨_, rfl⟩
  have hP : va_P D vwCl (wd ce b kdC lnC 272 I L R) H := by rw [hH]; exact hP
  have hS : va_S (box b 272) s.heap H locs := by rw [hH, hlo]; exact hS
  rw [show W p l e rmX10_partsBehind s m av below meth c s.heap [] 0 0 QQ = W p l e rmX10_partsBehind s m av below meth c H locs 0 0 QQ by rw [hH, hlo]]
  clear hH hlo
  clear hQQ
  show W p l e rmX10_partsBehind s m av below meth c H locs 0 0 QQ (F0 m 0 ls [])
  refine lv_iload_n hx hb dX10_partsBehind_0 rfl (lv_at hl 0 rfl) ?_
  refine lv_bipush (v := (103 : Int32)) hx hb dX10_partsBehind_1 (by decide) ?_
  refine lv_icmp_ne (tgt := 8) hx hb dX10_partsBehind_3 (by decide) (fun c1 => ?_) (fun c1 => ?_)
  · have hf := ifF hf c1
    refine lv_iload_n hx hb dX10_partsBehind_8 rfl (lv_at hl 0 rfl) ?_
    refine lv_bipush (v := (102 : Int32)) hx hb dX10_partsBehind_9 (by decide) ?_
    refine lv_icmp_ne (tgt := 18) hx hb dX10_partsBehind_11 (by decide) (fun c2 => ?_) (fun c2 => ?_)
    · have hf := ifF hf c2
      refine lv_iconst (v := (0 : Int32)) hx hb dX10_partsBehind_18 (by decide) ?_
      exact hret (0 : Int32) hf H locs ls _ dX10_partsBehind_19 hP hT hS
    · have hf := ifT hf c2
      refine lv_iconst (v := (1 : Int32)) hx hb dX10_partsBehind_14 (by decide) ?_
      refine lv_goto (tgt := 19) hx hb dX10_partsBehind_15 (by decide) ?_
      exact hret (1 : Int32) hf H locs ls _ dX10_partsBehind_19 hP hT hS
  · have hf := ifT hf c1
    refine lv_iconst (v := (2 : Int32)) hx hb dX10_partsBehind_6 (by decide) ?_
    exact hret (2 : Int32) hf H locs ls _ dX10_partsBehind_7 hP hT hS
def rmX2_takes : Room := { frames := 1, cells := 0, slots := 0, locals := 20 }
set_option maxHeartbeats 4000000 in
set_option maxRecDepth 100000 in
theorem k_X2_takes (l : Launch) (D : va_G) (ce : Nat → ClassId) (b : Nat) (I : mI) (L : mL) (R : mR) (hT : WT kdC R) (x0 : Nat) (x1 : Int32) (h0 : kdC x0 = 8) (o1 : Int32) (o2 : mI) (hf : f_X2_takes x0 x1 I R = some (o1, o2)) : Met l yX2_takes (Cond.code yX2_takes cX2_takes 2 (some .boolean) :: GW) rmX2_takes (va_Pc [.ref (b + x0), .int x1] (PW D ce b kdC lnC 272 I L R)) (va_Qi (fun r u => r = o1 ∧ u = (o2, L, R)) (QW D ce b kdC lnC 272) (box b 272)) 0 0 (box b 272) := by
  refine Met.ofW (cc := cX2_takes) (maxL := 2) (ret := (some .boolean)) (by decide) rfl ?_
  intro p e s m args below meth c s₁ B hml hv
  obtain ⟨rfl, hP, hKK⟩ := hv
  have hx := B.exec
  have hb := B.bytes
  have hr := B.returns
  have hts0 := atoms_spec (ws := Cond.code yX2_takes cX2_takes 2 (some .boolean) :: GW) B.pre
  have hts : ∀ w ∈ GW, w.before _ s = true := fun w h => hts0 w (List.mem_cons_of_mem _ h)
  clear hts0
  have hown : s.vm.findClass RX2 = some m.cls := findClass_of_methodNamed B.named
  have hlocks := B.notSynchronized
  have hA : ∀ q, box b 272 q → box b 272 q := fun _ h => h
  have hS : va_S (box b 272) s.heap s.heap [] := va_S.rf
  have hl := lv_entry ([.ref (b + x0), .int x1]) (n := 2) (Nat.le_of_ble_eq_true rfl)
  rw [lg_entry_eq]
  generalize (lg_sl ([.ref (b + x0), .int x1]) ++ List.replicate (2 - (lg_sl ([.ref (b + x0), .int x1])).length) Slot.unset).toArray = ls at hl ⊢
  have hl : lv_has ls 2 [(0, .ref (b + x0)), (1, .int x1)] := hl
  generalize ([.ref (b + x0), .int x1] : List Value).toArray = av at hts ⊢
  show W p l e rmX2_takes s m av below meth c s.heap [] 0 0 _ _
  obtain ⟨QQ, hQQ⟩ : ∃ z, z = MQ below (va_Qi (fun r u => r = o1 ∧ u = (o2, L, R)) (QW D ce b kdC lnC 272) (box b 272)) av s 0 0 (box b 272) := ⟨_, rfl⟩
  rw [← hQQ]
  have hret : ∀ (r : Int32) (I1 : mI), some (r, I1) = some (o1, o2) → ∀ (H1 : Heap) (locs1 : List Loc) (ls1 : Array Slot) (pc1 : Nat), decode cX2_takes pc1 = .ok (.ireturn, 1) → zb r = true → va_P D vwCl (wd ce b kdC lnC 272 I1 L R) H1 → WT kdC R → va_S (box b 272) s.heap H1 locs1 → W p l e rmX2_takes s m av below meth c H1 locs1 0 0 QQ (F0 m pc1 ls1 [.int r]) := by
    intro r I1 hq H1 locs1 ls1 pc1 hd hz hP hT hS
    cases hq
    rw [hQQ]
    exact mm_zret hx hb hr hlocks hz hP hT hS hd
  unfold f_X2_takes at hf
  obtain ⟨H, hH⟩ : ∃ z, z = s.heap := ⟨_, rfl⟩
  obtain ⟨locs, hlo⟩ : ∃ z : List Loc, z = [] := ⟨_, rfl⟩
  have hP : va_P D vwCl (wd ce b kdC lnC 272 I L R) H := by rw [hH]; exact hP
  have hS : va_S (box b 272) s.heap H locs := by rw [hH, hlo]; exact hS
  rw [show W p l e rmX2_takes s m av below meth c s.heap [] 0 0 QQ = W p l e rmX2_takes s m av below meth c H locs 0 0 QQ by rw [hH, hlo]]
  clear hH hlo
  clear hQQ
  show W p l e rmX2_takes s m av below meth c H locs 0 0 QQ (F0 m 0 ls [])
  refine lv_aload_n hx hb dX2_takes_0 rfl (lv_at hl 0 rfl) ?_
  obtain ⟨I1, e1, hf⟩ := bd1_o hf
  refine mm_Vv (rest := []) hx hb hml hown hts hKK hP hS hA (kdC_lt h0 (Nat.succ_ne_zero _)) h0 (show vwCl[2]? = some (yX2_skipBlanks.cls, TX2, 5) from rfl) vkX2_38 (k_X2_skipBlanks l D ce b I L R hT x0 h0 I1 e1) rfl hl.1 rfl (Nat.le_of_ble_eq_true rfl) ⟨rfl, rfl⟩ ⟨Nat.le_of_ble_eq_true rfl, Nat.le_of_ble_eq_true rfl⟩ ⟨Nat.zero_le _, Nat.zero_le _⟩ dX2_takes_1 (fun H locs hP hT hS => ?_)
  refine lv_aload_n hx hb dX2_takes_4 rfl (lv_at hl 0 rfl) ?_
  refine mm_geti hx hb hts hown hKK hP fk2_3 (Or.inl rfl) lkX2_22 (kdC_lt h0 (Nat.succ_ne_zero _)) h0 dX2_takes_5 ?_
  refine lv_aload_n hx hb dX2_takes_8 rfl (lv_at hl 0 rfl) ?_
  refine mm_geti hx hb hts hown hKK hP fk2_2 (Or.inl rfl) lkX2_18 (kdC_lt h0 (Nat.succ_ne_zero _)) h0 dX2_takes_9 ?_
  refine lv_icmp_ge (tgt := 28) hx hb dX2_takes_12 (by decide) (fun c2 => ?_) (fun c2 => ?_)
  · have hf := ifT hf c2
    refine lv_iconst (v := (0 : Int32)) hx hb dX2_takes_28 (by decide) ?_
    exact hret (0 : Int32) I1 hf H locs ls _ dX2_takes_29 rfl hP hT hS
  · have hf := ifF hf c2
    refine lv_aload_n hx hb dX2_takes_15 rfl (lv_at hl 0 rfl) ?_
    have t3 : kdC (R x0 0) = 1 := wt hT h0 rfl
    refine mm_getr hx hb hts hown hKK hP fk2_0 (Nat.le_of_ble_eq_true rfl) lkX2_9 (kdC_lt h0 (Nat.succ_ne_zero _)) h0 (nC t3 (Nat.succ_ne_zero _)) dX2_takes_16 ?_
    refine lv_aload_n hx hb dX2_takes_19 rfl (lv_at hl 0 rfl) ?_
    refine mm_geti hx hb hts hown hKK hP fk2_3 (Or.inl rfl) lkX2_22 (kdC_lt h0 (Nat.succ_ne_zero _)) h0 dX2_takes_20 ?_
    obtain ⟨g4, hf⟩ := grd hf
    refine mm_iald hx hb hKK hP (kdC_lt t3 (Nat.succ_ne_zero _)) t3 g4 dX2_takes_23 ?_
    refine lv_iload_n hx hb dX2_takes_24 rfl (lv_at hl 1 rfl) ?_
    refine lv_icmp_eq (tgt := 30) hx hb dX2_takes_25 (by decide) (fun c5 => ?_) (fun c5 => ?_)
    · have hf := ifT hf c5
      refine lv_aload_n hx hb dX2_takes_30 rfl (lv_at hl 0 rfl) ?_
      refine lv_dup hx hb dX2_takes_31 rfl ?_
      refine mm_geti hx hb hts hown hKK hP fk2_3 (Or.inl rfl) lkX2_22 (kdC_lt h0 (Nat.succ_ne_zero _)) h0 dX2_takes_32 ?_
      refine lv_iconst (v := (1 : Int32)) hx hb dX2_takes_35 (by decide) ?_
      refine lv_iadd hx hb dX2_takes_36 ?_
      refine jnE hf (fun I6 eI6 hf => ?_)
      refine mm_puti hx hb hts hown hKK hP hA hS fk2_3 (Or.inl rfl) fw2_3 lkX2_22 (kdC_lt h0 (Nat.succ_ne_zero _)) h0 rfl rfl dX2_takes_37 (fun H locs hP hS => ?_)
      rw [← eI6] at hP
      refine lv_iconst (v := (1 : Int32)) hx hb dX2_takes_40 (by decide) ?_
      exact hret (1 : Int32) I6 hf H locs ls _ dX2_takes_41 rfl hP hT hS
    · have hf := ifF hf c5
      refine lv_iconst (v := (0 : Int32)) hx hb dX2_takes_28 (by decide) ?_
      exact hret (0 : Int32) I1 hf H locs ls _ dX2_takes_29 rfl hP hT hS
def rmX2_opens : Room := { frames := 2, cells := 0, slots := 0, locals := 41 }
set_option maxHeartbeats 4000000 in
set_option maxRecDepth 100000 in
theorem k_X2_opens (l : Launch) (D : va_G) (ce : Nat → ClassId) (b : Nat) (I : mI) (L : mL) (R : mR) (hT : WT kdC R) (x0 : Nat) (x1 : Int32) (h0 : kdC x0 = 8) (o1 : Int32) (o2 : mI) (hf : f_X2_opens x0 x1 I R = some (o1, o2)) : Met l yX2_opens (Cond.code yX2_opens cX2_opens 2 (some .boolean) :: GW) rmX2_opens (va_Pc [.ref (b + x0), .int x1] (PW D ce b kdC lnC 272 I L R)) (va_Qi (fun r u => r = o1 ∧ u = (o2, L, R)) (QW D ce b kdC lnC 272) (box b 272)) 0 0 (box b 272) := by
  refine Met.ofW (cc := cX2_opens) (maxL := 2) (ret := (some .boolean)) (by decide) rfl ?_
  intro p e s m args below meth c s₁ B hml hv
  obtain ⟨rfl, hP, hKK⟩ := hv
  have hx := B.exec
  have hb := B.bytes
  have hr := B.returns
  have hts0 := atoms_spec (ws := Cond.code yX2_opens cX2_opens 2 (some .boolean) :: GW) B.pre
  have hts : ∀ w ∈ GW, w.before _ s = true := fun w h => hts0 w (List.mem_cons_of_mem _ h)
  clear hts0
  have hown : s.vm.findClass RX2 = some m.cls := findClass_of_methodNamed B.named
  have hlocks := B.notSynchronized
  have hA : ∀ q, box b 272 q → box b 272 q := fun _ h => h
  have hS : va_S (box b 272) s.heap s.heap [] := va_S.rf
  have hl := lv_entry ([.ref (b + x0), .int x1]) (n := 2) (Nat.le_of_ble_eq_true rfl)
  rw [lg_entry_eq]
  generalize (lg_sl ([.ref (b + x0), .int x1]) ++ List.replicate (2 - (lg_sl ([.ref (b + x0), .int x1])).length) Slot.unset).toArray = ls at hl ⊢
  have hl : lv_has ls 2 [(0, .ref (b + x0)), (1, .int x1)] := hl
  generalize ([.ref (b + x0), .int x1] : List Value).toArray = av at hts ⊢
  show W p l e rmX2_opens s m av below meth c s.heap [] 0 0 _ _
  obtain ⟨QQ, hQQ⟩ : ∃ z, z = MQ below (va_Qi (fun r u => r = o1 ∧ u = (o2, L, R)) (QW D ce b kdC lnC 272) (box b 272)) av s 0 0 (box b 272) := ⟨_, rfl⟩
  rw [← hQQ]
  have hret : ∀ (r : Int32) (I1 : mI), some (r, I1) = some (o1, o2) → ∀ (H1 : Heap) (locs1 : List Loc) (ls1 : Array Slot) (pc1 : Nat), decode cX2_opens pc1 = .ok (.ireturn, 1) → zb r = true → va_P D vwCl (wd ce b kdC lnC 272 I1 L R) H1 → WT kdC R → va_S (box b 272) s.heap H1 locs1 → W p l e rmX2_opens s m av below meth c H1 locs1 0 0 QQ (F0 m pc1 ls1 [.int r]) := by
    intro r I1 hq H1 locs1 ls1 pc1 hd hz hP hT hS
    cases hq
    rw [hQQ]
    exact mm_zret hx hb hr hlocks hz hP hT hS hd
  unfold f_X2_opens at hf
  obtain ⟨H, hH⟩ : ∃ z, z = s.heap := ⟨_, rfl⟩
  obtain ⟨locs, hlo⟩ : ∃ z : List Loc, z = [] := ⟨_, rfl⟩
  have hP : va_P D vwCl (wd ce b kdC lnC 272 I L R) H := by rw [hH]; exact hP
  have hS : va_S (box b 272) s.heap H locs := by rw [hH, hlo]; exact hS
  rw [show W p l e rmX2_opens s m av below meth c s.heap [] 0 0 QQ = W p l e rmX2_opens s m av below meth c H locs 0 0 QQ by rw [hH, hlo]]
  clear hH hlo
  clear hQQ
  show W p l e rmX2_opens s m av below meth c H locs 0 0 QQ (F0 m 0 ls [])
  refine lv_aload_n hx hb dX2_opens_0 rfl (lv_at hl 0 rfl) ?_
  refine mm_geti hx hb hts hown hKK hP fk2_4 (Or.inl rfl) lkX2_67 (kdC_lt h0 (Nat.succ_ne_zero _)) h0 dX2_opens_1 ?_
  refine lv_bipush (v := (60 : Int32)) hx hb dX2_opens_4 (by decide) ?_
  refine lv_icmp_ge (tgt := 18) hx hb dX2_opens_6 (by decide) (fun c1 => ?_) (fun c1 => ?_)
  · have hf := ifT hf c1
    refine lv_iconst (v := (0 : Int32)) hx hb dX2_opens_18 (by decide) ?_
    exact hret (0 : Int32) I hf H locs ls _ dX2_opens_19 rfl hP hT hS
  · have hf := ifF hf c1
    refine lv_aload_n hx hb dX2_opens_9 rfl (lv_at hl 0 rfl) ?_
    refine lv_bipush (v := (40 : Int32)) hx hb dX2_opens_10 (by decide) ?_
    obtain ⟨r2, I2, e2, hf⟩ := bd2_o hf
    refine mm_Vi (rest := []) hx hb hml hown hts hKK hP hS hA (kdC_lt h0 (Nat.succ_ne_zero _)) h0 (show vwCl[2]? = some (yX2_takes.cls, TX2, 5) from rfl) vkX2_51 (k_X2_takes l D ce b I L R hT x0 (40 : Int32) h0 r2 I2 e2) rfl hl.1 rfl (Nat.le_of_ble_eq_true rfl) ⟨rfl, rfl⟩ ⟨Nat.le_of_ble_eq_true rfl, Nat.le_of_ble_eq_true rfl⟩ ⟨Nat.zero_le _, Nat.zero_le _⟩ dX2_opens_12 (fun H locs hP hT hS => ?_)
    refine lv_if_ne (tgt := 20) hx hb dX2_opens_15 (by decide) (fun c3 => ?_) (fun c3 => ?_)
    · have hf := ifF hf c3
      refine lv_aload_n hx hb dX2_opens_20 rfl (lv_at hl 0 rfl) ?_
      have t4 : kdC (R x0 1) = 1 := wt hT h0 rfl
      refine mm_getr hx hb hts hown hKK hP fk2_1 (Nat.le_of_ble_eq_true rfl) lkX2_15 (kdC_lt h0 (Nat.succ_ne_zero _)) h0 (nC t4 (Nat.succ_ne_zero _)) dX2_opens_21 ?_
      refine lv_aload_n hx hb dX2_opens_24 rfl (lv_at hl 0 rfl) ?_
      refine mm_geti hx hb hts hown hKK hP fk2_4 (Or.inl rfl) lkX2_67 (kdC_lt h0 (Nat.succ_ne_zero _)) h0 dX2_opens_25 ?_
      refine lv_iload_n hx hb dX2_opens_28 rfl (lv_at hl 1 rfl) ?_
      obtain ⟨g5, hf⟩ := grd hf
      refine jnE hf (fun I6 eI6 hf => ?_)
      refine mm_iast hx hb hKK hP hA hS (kdC_lt t4 (Nat.succ_ne_zero _)) t4 g5 dX2_opens_29 (fun H locs hP hS => ?_)
      rw [← eI6] at hP
      refine lv_aload_n hx hb dX2_opens_30 rfl (lv_at hl 0 rfl) ?_
      refine lv_dup hx hb dX2_opens_31 rfl ?_
      refine mm_geti hx hb hts hown hKK hP fk2_4 (Or.inl rfl) lkX2_67 (kdC_lt h0 (Nat.succ_ne_zero _)) h0 dX2_opens_32 ?_
      refine lv_iconst (v := (1 : Int32)) hx hb dX2_opens_35 (by decide) ?_
      refine lv_iadd hx hb dX2_opens_36 ?_
      refine jnE hf (fun I7 eI7 hf => ?_)
      refine mm_puti hx hb hts hown hKK hP hA hS fk2_4 (Or.inl rfl) fw2_4 lkX2_67 (kdC_lt h0 (Nat.succ_ne_zero _)) h0 rfl rfl dX2_opens_37 (fun H locs hP hS => ?_)
      rw [← eI7] at hP
      refine lv_iconst (v := (1 : Int32)) hx hb dX2_opens_40 (by decide) ?_
      exact hret (1 : Int32) I7 hf H locs ls _ dX2_opens_41 rfl hP hT hS
    · have hf := ifT hf c3
      refine lv_iconst (v := (0 : Int32)) hx hb dX2_opens_18 (by decide) ?_
      exact hret (0 : Int32) I2 hf H locs ls _ dX2_opens_19 rfl hP hT hS
def rmX2_closes : Room := { frames := 2, cells := 0, slots := 0, locals := 41 }
set_option maxHeartbeats 4000000 in
set_option maxRecDepth 100000 in
theorem k_X2_closes (l : Launch) (D : va_G) (ce : Nat → ClassId) (b : Nat) (I : mI) (L : mL) (R : mR) (hT : WT kdC R) (x0 : Nat) (h0 : kdC x0 = 8) (o1 : Int32) (o2 : mI) (hf : f_X2_closes x0 I R = some (o1, o2)) : Met l yX2_closes (Cond.code yX2_closes cX2_closes 1 (some .boolean) :: GW) rmX2_closes (va_Pc [.ref (b + x0)] (PW D ce b kdC lnC 272 I L R)) (va_Qi (fun r u => r = o1 ∧ u = (o2, L, R)) (QW D ce b kdC lnC 272) (box b 272)) 0 0 (box b 272) := by
  refine Met.ofW (cc := cX2_closes) (maxL := 1) (ret := (some .boolean)) (by decide) rfl ?_
  intro p e s m args below meth c s₁ B hml hv
  obtain ⟨rfl, hP, hKK⟩ := hv
  have hx := B.exec
  have hb := B.bytes
  have hr := B.returns
  have hts0 := atoms_spec (ws := Cond.code yX2_closes cX2_closes 1 (some .boolean) :: GW) B.pre
  have hts : ∀ w ∈ GW, w.before _ s = true := fun w h => hts0 w (List.mem_cons_of_mem _ h)
  clear hts0
  have hown : s.vm.findClass RX2 = some m.cls := findClass_of_methodNamed B.named
  have hlocks := B.notSynchronized
  have hA : ∀ q, box b 272 q → box b 272 q := fun _ h => h
  have hS : va_S (box b 272) s.heap s.heap [] := va_S.rf
  have hl := lv_entry ([.ref (b + x0)]) (n := 1) (Nat.le_of_ble_eq_true rfl)
  rw [lg_entry_eq]
  generalize (lg_sl ([.ref (b + x0)]) ++ List.replicate (1 - (lg_sl ([.ref (b + x0)])).length) Slot.unset).toArray = ls at hl ⊢
  have hl : lv_has ls 1 [(0, .ref (b + x0))] := hl
  generalize ([.ref (b + x0)] : List Value).toArray = av at hts ⊢
  show W p l e rmX2_closes s m av below meth c s.heap [] 0 0 _ _
  obtain ⟨QQ, hQQ⟩ : ∃ z, z = MQ below (va_Qi (fun r u => r = o1 ∧ u = (o2, L, R)) (QW D ce b kdC lnC 272) (box b 272)) av s 0 0 (box b 272) := ⟨_, rfl⟩
  rw [← hQQ]
  have hret : ∀ (r : Int32) (I1 : mI), some (r, I1) = some (o1, o2) → ∀ (H1 : Heap) (locs1 : List Loc) (ls1 : Array Slot) (pc1 : Nat), decode cX2_closes pc1 = .ok (.ireturn, 1) → zb r = true → va_P D vwCl (wd ce b kdC lnC 272 I1 L R) H1 → WT kdC R → va_S (box b 272) s.heap H1 locs1 → W p l e rmX2_closes s m av below meth c H1 locs1 0 0 QQ (F0 m pc1 ls1 [.int r]) := by
    intro r I1 hq H1 locs1 ls1 pc1 hd hz hP hT hS
    cases hq
    rw [hQQ]
    exact mm_zret hx hb hr hlocks hz hP hT hS hd
  unfold f_X2_closes at hf
  obtain ⟨H, hH⟩ : ∃ z, z = s.heap := ⟨_, rfl⟩
  obtain ⟨locs, hlo⟩ : ∃ z : List Loc, z = [] := ⟨_, rfl⟩
  have hP : va_P D vwCl (wd ce b kdC lnC 272 I L R) H := by rw [hH]; exact hP
  have hS : va_S (box b 272) s.heap H locs := by rw [hH, hlo]; exact hS
  rw [show W p l e rmX2_closes s m av below meth c s.heap [] 0 0 QQ = W p l e rmX2_closes s m av below meth c H locs 0 0 QQ by rw [hH, hlo]]
  clear hH hlo
  clear hQQ
  show W p l e rmX2_closes s m av below meth c H locs 0 0 QQ (F0 m 0 ls [])
  have lp0 : ∀ (n : Nat) (x0 : Nat) (I : mI) (L : mL) (R : mR) (q : (Int32 × mI) ⊕ (mI)) (H : Heap) (locs : List Loc) (ls : Array Slot), va_P D vwCl (wd ce b kdC lnC 272 I L R) H → va_S (box b 272) s.heap H locs → WT kdC R → kdC x0 = 8 → lv_has ls 1 [(0, .ref (b + x0))] → f_X2_closes_L0 n x0 I R = some q → (∀ (I1 : mI), some (Sum.inr I1) = some q → ∀ (H1 : Heap) (locs1 : List Loc) (ls1 : Array Slot), va_P D vwCl (wd ce b kdC lnC 272 I1 L R) H1 → va_S (box b 272) s.heap H1 locs1 → lv_has ls1 1 [] → W p l e rmX2_closes s m av below meth c H1 locs1 0 0 QQ (F0 m 67 ls1 [])) → (∀ (r : Int32) (I1 : mI), some (Sum.inl (r, I1)) = some q → ∀ (H1 : Heap) (locs1 : List Loc) (ls1 : Array Slot) (pc1 : Nat), decode cX2_closes pc1 = .ok (.ireturn, 1) → zb r = true → va_P D vwCl (wd ce b kdC lnC 272 I1 L R) H1 → WT kdC R → va_S (box b 272) s.heap H1 locs1 → W p l e rmX2_closes s m av below meth c H1 locs1 0 0 QQ (F0 m pc1 ls1 [.int r])) → W p l e rmX2_closes s m av below meth c H locs 0 0 QQ (F0 m 0 ls []) := by
    intro n
    induction n with
    | zero =>
      intro x0 I L R q H locs ls hP hS hT h0 hl hf kx kr
      exact absurd (show (none : Option ((Int32 × mI) ⊕ (mI))) = some _ from hf) (by simp)
    | succ n ih =>
      intro x0 I L R q H locs ls hP hS hT h0 hl hf kx kr
      rw [f_X2_closes_L0] at hf
      refine lv_aload_n hx hb dX2_closes_0 rfl (lv_at hl 0 rfl) ?_
      refine mm_geti hx hb hts hown hKK hP fk2_4 (Or.inl rfl) lkX2_67 (kdC_lt h0 (Nat.succ_ne_zero _)) h0 dX2_closes_1 ?_
      refine lv_if_le (tgt := 67) hx hb dX2_closes_4 (by decide) (fun c1 => ?_) (fun c1 => ?_)
      · have hf := ifT hf c1
        exact kx I hf H locs ls hP hS (lv_sub hl [] rfl)
      · have hf := ifF hf c1
        refine lv_aload_n hx hb dX2_closes_7 rfl (lv_at hl 0 rfl) ?_
        have t2 : kdC (R x0 1) = 1 := wt hT h0 rfl
        refine mm_getr hx hb hts hown hKK hP fk2_1 (Nat.le_of_ble_eq_true rfl) lkX2_15 (kdC_lt h0 (Nat.succ_ne_zero _)) h0 (nC t2 (Nat.succ_ne_zero _)) dX2_closes_8 ?_
        refine lv_aload_n hx hb dX2_closes_11 rfl (lv_at hl 0 rfl) ?_
        refine mm_geti hx hb hts hown hKK hP fk2_4 (Or.inl rfl) lkX2_67 (kdC_lt h0 (Nat.succ_ne_zero _)) h0 dX2_closes_12 ?_
        refine lv_iconst (v := (1 : Int32)) hx hb dX2_closes_15 (by decide) ?_
        refine lv_isub hx hb dX2_closes_16 ?_
        refine lv_dup2_11 hx hb dX2_closes_17 rfl rfl ?_
        obtain ⟨g3, hf⟩ := grd hf
        refine mm_iald hx hb hKK hP (kdC_lt t2 (Nat.succ_ne_zero _)) t2 g3 dX2_closes_18 ?_
        refine lv_iconst (v := (1 : Int32)) hx hb dX2_closes_19 (by decide) ?_
        refine lv_isub hx hb dX2_closes_20 ?_
        refine jnE hf (fun I4 eI4 hf => ?_)
        refine mm_iast hx hb hKK hP hA hS (kdC_lt t2 (Nat.succ_ne_zero _)) t2 g3 dX2_closes_21 (fun H locs hP hS => ?_)
        rw [← eI4] at hP
        refine lv_aload_n hx hb dX2_closes_22 rfl (lv_at hl 0 rfl) ?_
        refine mm_getr hx hb hts hown hKK hP fk2_1 (Nat.le_of_ble_eq_true rfl) lkX2_15 (kdC_lt h0 (Nat.succ_ne_zero _)) h0 (nC t2 (Nat.succ_ne_zero _)) dX2_closes_23 ?_
        refine lv_aload_n hx hb dX2_closes_26 rfl (lv_at hl 0 rfl) ?_
        refine mm_geti hx hb hts hown hKK hP fk2_4 (Or.inl rfl) lkX2_67 (kdC_lt h0 (Nat.succ_ne_zero _)) h0 dX2_closes_27 ?_
        refine lv_iconst (v := (1 : Int32)) hx hb dX2_closes_30 (by decide) ?_
        refine lv_isub hx hb dX2_closes_31 ?_
        obtain ⟨g5, hf⟩ := grd hf
        refine mm_iald hx hb hKK hP (kdC_lt t2 (Nat.succ_ne_zero _)) t2 g5 dX2_closes_32 ?_
        refine lv_if_le (tgt := 43) hx hb dX2_closes_33 (by decide) (fun c6 => ?_) (fun c6 => ?_)
        · have hf := ifT hf c6
          refine lv_aload_n hx hb dX2_closes_43 rfl (lv_at hl 0 rfl) ?_
          refine lv_bipush (v := (41 : Int32)) hx hb dX2_closes_44 (by decide) ?_
          obtain ⟨r7, I7, e7, hf⟩ := bd2_o hf
          refine mm_Vi (rest := []) hx hb hml hown hts hKK hP hS hA (kdC_lt h0 (Nat.succ_ne_zero _)) h0 (show vwCl[2]? = some (yX2_takes.cls, TX2, 5) from rfl) vkX2_51 (k_X2_takes l D ce b I4 L R hT x0 (41 : Int32) h0 r7 I7 e7) rfl hl.1 rfl (Nat.le_of_ble_eq_true rfl) ⟨rfl, rfl⟩ ⟨Nat.le_of_ble_eq_true rfl, Nat.le_of_ble_eq_true rfl⟩ ⟨Nat.zero_le _, Nat.zero_le _⟩ dX2_closes_46 (fun H locs hP hT hS => ?_)
          refine lv_if_ne (tgt := 54) hx hb dX2_closes_49 (by decide) (fun c8 => ?_) (fun c8 => ?_)
          · have hf := ifF hf c8
            refine lv_aload_n hx hb dX2_closes_54 rfl (lv_at hl 0 rfl) ?_
            refine lv_dup hx hb dX2_closes_55 rfl ?_
            refine mm_geti hx hb hts hown hKK hP fk2_4 (Or.inl rfl) lkX2_67 (kdC_lt h0 (Nat.succ_ne_zero _)) h0 dX2_closes_56 ?_
            refine lv_iconst (v := (1 : Int32)) hx hb dX2_closes_59 (by decide) ?_
            refine lv_isub hx hb dX2_closes_60 ?_
            refine jnE hf (fun I9 eI9 hf => ?_)
            refine mm_puti hx hb hts hown hKK hP hA hS fk2_4 (Or.inl rfl) fw2_4 lkX2_67 (kdC_lt h0 (Nat.succ_ne_zero _)) h0 rfl rfl dX2_closes_61 (fun H locs hP hS => ?_)
            rw [← eI9] at hP
            refine lv_goto (tgt := 0) hx hb dX2_closes_64 (by decide) ?_
            exact ih x0 I9 L R q H locs ls hP hS hT h0 (lv_sub hl [0] rfl) hf kx kr
          · have hf := ifT hf c8
            refine lv_iconst (v := (0 : Int32)) hx hb dX2_closes_52 (by decide) ?_
            exact kr (0 : Int32) I7 hf H locs ls _ dX2_closes_53 rfl hP hT hS
        · have hf := ifF hf c6
          refine lv_aload_n hx hb dX2_closes_36 rfl (lv_at hl 0 rfl) ?_
          refine lv_bipush (v := (44 : Int32)) hx hb dX2_closes_37 (by decide) ?_
          obtain ⟨r10, I10, e10, hf⟩ := bd2_o hf
          refine mm_Vi (rest := []) hx hb hml hown hts hKK hP hS hA (kdC_lt h0 (Nat.succ_ne_zero _)) h0 (show vwCl[2]? = some (yX2_takes.cls, TX2, 5) from rfl) vkX2_51 (k_X2_takes l D ce b I4 L R hT x0 (44 : Int32) h0 r10 I10 e10) rfl hl.1 rfl (Nat.le_of_ble_eq_true rfl) ⟨rfl, rfl⟩ ⟨Nat.le_of_ble_eq_true rfl, Nat.le_of_ble_eq_true rfl⟩ ⟨Nat.zero_le _, Nat.zero_le _⟩ dX2_closes_39 (fun H locs hP hT hS => ?_)
          obtain ⟨g11, hf⟩ := grd hf
          exact kr r10 I10 hf H locs ls _ dX2_closes_42 g11 hP hT hS
  obtain ⟨q_12, e_12, hf⟩ := bdS_o hf
  refine lp0 FU x0 I L R q_12 H locs ls hP hS hT h0 (lv_sub hl [0] rfl) e_12 (fun I_12 hq H locs ls hP hS hl => ?_) (fun r_12 I_12 hq H locs ls pc1 hd hz hP hT hS => ?_)
  · have hf := elR1 hf (Option.some.inj hq).symm
    refine lv_iconst (v := (1 : Int32)) hx hb dX2_closes_67 (by decide) ?_
    exact hret (1 : Int32) I_12 hf H locs ls _ dX2_closes_68 rfl hP hT hS
  · have hf := elL2 hf (Option.some.inj hq).symm
    exact hret r_12 I_12 hf H locs ls pc1 hd hz hP hT hS
def rmX8_findEnds : Room := { frames := 1, cells := 0, slots := 0, locals := 20 }
set_option maxHeartbeats 4000000 in
set_option maxRecDepth 100000 in
theorem k_X8_findEnds (l : Launch) (D : va_G) (ce : Nat → ClassId) (b : Nat) (I : mI) (L : mL) (R : mR) (hT : WT kdC R) (x0 : Nat) (h0 : kdC x0 = 14) (o1 : mI) (hf : f_X8_findEnds x0 I R = some o1) : Met l yX8_findEnds (Cond.code yX8_findEnds cX8_findEnds 4 none :: GW) rmX8_findEnds (va_Pc [.ref (b + x0)] (PW D ce b kdC lnC 272 I L R)) (va_Qv (fun u => u = (o1, L, R)) (QW D ce b kdC lnC 272) (box b 272)) 0 0 (box b 272) := by
  refine Met.ofW (cc := cX8_findEnds) (maxL := 4) (ret := none) (by decide) rfl ?_
  intro p e s m args below meth c s₁ B hml hv
  obtain ⟨rfl, hP, hKK⟩ := hv
  have hx := B.exec
  have hb := B.bytes
  have hr := B.returns
  have hts0 := atoms_spec (ws := Cond.code yX8_findEnds cX8_findEnds 4 none :: GW) B.pre
  have hts : ∀ w ∈ GW, w.before _ s = true := fun w h => hts0 w (List.mem_cons_of_mem _ h)
  clear hts0
  have hown : s.vm.findClass RX8 = some m.cls := findClass_of_methodNamed B.named
  have hlocks := B.notSynchronized
  have hA : ∀ q, box b 272 q → box b 272 q := fun _ h => h
  have hS : va_S (box b 272) s.heap s.heap [] := va_S.rf
  have hl := lv_entry ([.ref (b + x0)]) (n := 4) (Nat.le_of_ble_eq_true rfl)
  rw [lg_entry_eq]
  generalize (lg_sl ([.ref (b + x0)]) ++ List.replicate (4 - (lg_sl ([.ref (b + x0)])).length) Slot.unset).toArray = ls at hl ⊢
  have hl : lv_has ls 4 [(0, .ref (b + x0))] := hl
  generalize ([.ref (b + x0)] : List Value).toArray = av at hts ⊢
  show W p l e rmX8_findEnds s m av below meth c s.heap [] 0 0 _ _
  obtain ⟨QQ, hQQ⟩ : ∃ z, z = MQ below (va_Qv (fun u => u = (o1, L, R)) (QW D ce b kdC lnC 272) (box b 272)) av s 0 0 (box b 272) := ⟨_, rfl⟩
  rw [← hQQ]
  have hret : ∀ (I1 : mI), some I1 = some o1 → ∀ (H1 : Heap) (locs1 : List Loc) (ls1 : Array Slot) (pc1 : Nat), decode cX8_findEnds pc1 = .ok (.return_, 1) → va_P D vwCl (wd ce b kdC lnC 272 I1 L R) H1 → WT kdC R → va_S (box b 272) s.heap H1 locs1 → W p l e rmX8_findEnds s m av below meth c H1 locs1 0 0 QQ (F0 m pc1 ls1 []) := by
    intro I1 hq H1 locs1 ls1 pc1 hd hP hT hS
    cases hq
    rw [hQQ]
    exact mm_vret hx hb hr hlocks hP hT hS hd
  unfold f_X8_findEnds at hf
  obtain ⟨H, hH⟩ : ∃ z, z = s.heap := ⟨_, rfl⟩
  obtain ⟨locs, hlo⟩ : ∃ z : List Loc, z = [] := ⟨_, rfl⟩
  have hP : va_P D vwCl (wd ce b kdC lnC 272 I L R) H := by rw [hH]; exact hP
  have hS : va_S (box b 272) s.heap H locs := by rw [hH, hlo]; exact hS
  rw [show W p l e rmX8_findEnds s m av below meth c s.heap [] 0 0 QQ = W p l e rmX8_findEnds s m av below meth c H locs 0 0 QQ by rw [hH, hlo]]
  clear hH hlo
  clear hQQ
  show W p l e rmX8_findEnds s m av below meth c H locs 0 0 QQ (F0 m 0 ls [])
  refine lv_aload_n hx hb dX8_findEnds_0 rfl (lv_at hl 0 rfl) ?_
  refine mm_geti hx hb hts hown hKK hP fk8_2 (Or.inl rfl) lkX8_22 (kdC_lt h0 (Nat.succ_ne_zero _)) h0 dX8_findEnds_1 ?_
  refine lv_iconst (v := (1 : Int32)) hx hb dX8_findEnds_4 (by decide) ?_
  refine lv_isub hx hb dX8_findEnds_5 ?_
  refine lv_istore_n (lv' := [(1, .int ((I x0 2) - (1 : Int32))), (0, .ref (b + x0))]) hx hb dX8_findEnds_6 rfl hl (Nat.le_of_ble_eq_true rfl) rfl (fun ls hl => ?_)
  have lp7 : ∀ (n : Nat) (x0 : Nat) (x1 : Int32) (I : mI) (L : mL) (R : mR) (a1 : mI) (H : Heap) (locs : List Loc) (ls : Array Slot), va_P D vwCl (wd ce b kdC lnC 272 I L R) H → va_S (box b 272) s.heap H locs → WT kdC R → kdC x0 = 14 → lv_has ls 4 [(0, .ref (b + x0)), (1, .int x1)] → f_X8_findEnds_L7 n x0 x1 I R = some a1 → (∀ (H1 : Heap) (locs1 : List Loc) (ls1 : Array Slot), va_P D vwCl (wd ce b kdC lnC 272 a1 L R) H1 → va_S (box b 272) s.heap H1 locs1 → lv_has ls1 4 [] → W p l e rmX8_findEnds s m av below meth c H1 locs1 0 0 QQ (F0 m 63 ls1 [])) → W p l e rmX8_findEnds s m av below meth c H locs 0 0 QQ (F0 m 7 ls []) := by
    intro n
    induction n with
    | zero =>
      intro x0 x1 I L R a1 H locs ls hP hS hT h0 hl hf kx
      exact absurd (show (none : Option (mI)) = some _ from hf) (by simp)
    | succ n ih =>
      intro x0 x1 I L R a1 H locs ls hP hS hT h0 hl hf kx
      rw [f_X8_findEnds_L7] at hf
      refine lv_iload_n hx hb dX8_findEnds_7 rfl (lv_at hl 1 rfl) ?_
      refine lv_if_lt (tgt := 63) hx hb dX8_findEnds_8 (by decide) (fun c1 => ?_) (fun c1 => ?_)
      · have hf := ifT hf c1
        cases hf
        exact kx H locs ls hP hS (lv_sub hl [] rfl)
      · have hf := ifF hf c1
        refine lv_iload_n hx hb dX8_findEnds_11 rfl (lv_at hl 1 rfl) ?_
        refine lv_iconst (v := (1 : Int32)) hx hb dX8_findEnds_12 (by decide) ?_
        refine lv_iadd hx hb dX8_findEnds_13 ?_
        refine lv_istore_n (lv' := [(2, .int (x1 + (1 : Int32))), (0, .ref (b + x0)), (1, .int x1)]) hx hb dX8_findEnds_14 rfl hl (Nat.le_of_ble_eq_true rfl) rfl (fun ls hl => ?_)
        refine lv_aload_n hx hb dX8_findEnds_15 rfl (lv_at hl 1 rfl) ?_
        have t2 : kdC (R x0 0) = 1 := wt hT h0 rfl
        refine mm_getr hx hb hts hown hKK hP fk8_0 (Nat.le_of_ble_eq_true rfl) lkX8_13 (kdC_lt h0 (Nat.succ_ne_zero _)) h0 (nC t2 (Nat.succ_ne_zero _)) dX8_findEnds_16 ?_
        refine lv_iload_n hx hb dX8_findEnds_19 rfl (lv_at hl 2 rfl) ?_
        obtain ⟨g3, hf⟩ := grd hf
        refine mm_iald hx hb hKK hP (kdC_lt t2 (Nat.succ_ne_zero _)) t2 g3 dX8_findEnds_20 ?_
        obtain ⟨r4, e4, hf⟩ := bd1_o hf
        refine mm_Ni (rest := []) hx hb hml hown hts hKK hP hS hA nkX8_33 (k_X10_partsBehind l D ce b I L R hT (I (R x0 0) x1.toNatClampNeg)  r4 e4) rfl hl.1 rfl (Nat.le_of_ble_eq_true rfl) ⟨rfl, rfl⟩ ⟨Nat.le_of_ble_eq_true rfl, Nat.le_of_ble_eq_true rfl⟩ ⟨Nat.zero_le _, Nat.zero_le _⟩ dX8_findEnds_21 (fun H locs hP hT hS => ?_)
        refine lv_istore_n (lv' := [(3, .int r4), (2, .int (x1 + (1 : Int32))), (0, .ref (b + x0)), (1, .int x1)]) hx hb dX8_findEnds_24 rfl hl (Nat.le_of_ble_eq_true rfl) rfl (fun ls hl => ?_)
        have lp25 : ∀ (n : Nat) (x0 : Nat) (x1 : Int32) (x2 : Int32) (x3 : Int32) (I : mI) (L : mL) (R : mR) (a1 : Int32) (H : Heap) (locs : List Loc) (ls : Array Slot), va_P D vwCl (wd ce b kdC lnC 272 I L R) H → va_S (box b 272) s.heap H locs → WT kdC R → kdC x0 = 14 → lv_has ls 4 [(0, .ref (b + x0)), (1, .int x1), (2, .int x2), (3, .int x3)] → f_X8_findEnds_L25 n x0 x1 x2 x3 I R = some a1 → (∀ (H1 : Heap) (locs1 : List Loc) (ls1 : Array Slot), va_P D vwCl (wd ce b kdC lnC 272 I L R) H1 → va_S (box b 272) s.heap H1 locs1 → lv_has ls1 4 [(0, .ref (b + x0)), (1, .int x1), (2, .int a1)] → W p l e rmX8_findEnds s m av below meth c H1 locs1 0 0 QQ (F0 m 50 ls1 [])) → W p l e rmX8_findEnds s m av below meth c H locs 0 0 QQ (F0 m 25 ls []) := by
          intro n
          induction n with
          | zero =>
            intro x0 x1 x2 x3 I L R a1 H locs ls hP hS hT h0 hl hf kx
            exact absurd (show (none : Option (Int32)) = some _ from hf) (by simp)
          | succ n ih =>
            intro x0 x1 x2 x3 I L R a1 H locs ls hP hS hT h0 hl hf kx
            rw [f_X8_findEnds_L25] at hf
            refine lv_iload_n hx hb dX8_findEnds_25 rfl (lv_at hl 3 rfl) ?_
            refine lv_if_le (tgt := 50) hx hb dX8_findEnds_26 (by decide) (fun c5 => ?_) (fun c5 => ?_)
            · have hf := ifT hf c5
              cases hf
              exact kx H locs ls hP hS (lv_sub hl [0, 1, 2] rfl)
            · have hf := ifF hf c5
              refine lv_iload_n hx hb dX8_findEnds_29 rfl (lv_at hl 2 rfl) ?_
              refine lv_aload_n hx hb dX8_findEnds_30 rfl (lv_at hl 0 rfl) ?_
              refine mm_geti hx hb hts hown hKK hP fk8_2 (Or.inl rfl) lkX8_22 (kdC_lt h0 (Nat.succ_ne_zero _)) h0 dX8_findEnds_31 ?_
              refine lv_icmp_ge (tgt := 50) hx hb dX8_findEnds_34 (by decide) (fun c6 => ?_) (fun c6 => ?_)
              · have hf := ifT hf c6
                cases hf
                exact kx H locs ls hP hS (lv_sub hl [0, 1, 2] rfl)
              · have hf := ifF hf c6
                refine lv_aload_n hx hb dX8_findEnds_37 rfl (lv_at hl 0 rfl) ?_
                have t7 : kdC (R x0 1) = 1 := wt hT h0 rfl
                refine mm_getr hx hb hts hown hKK hP fk8_1 (Nat.le_of_ble_eq_true rfl) lkX8_19 (kdC_lt h0 (Nat.succ_ne_zero _)) h0 (nC t7 (Nat.succ_ne_zero _)) dX8_findEnds_38 ?_
                refine lv_iload_n hx hb dX8_findEnds_41 rfl (lv_at hl 2 rfl) ?_
                obtain ⟨g8, hf⟩ := grd hf
                refine mm_iald hx hb hKK hP (kdC_lt t7 (Nat.succ_ne_zero _)) t7 g8 dX8_findEnds_42 ?_
                refine lv_istore_n (lv' := [(2, .int (I (R x0 1) x2.toNatClampNeg)), (0, .ref (b + x0)), (1, .int x1), (3, .int x3)]) hx hb dX8_findEnds_43 rfl hl (Nat.le_of_ble_eq_true rfl) rfl (fun ls hl => ?_)
                refine lv_iinc (v := (x3 + (-1 : Int32))) (lv' := [(3, .int (x3 + (-1 : Int32))), (2, .int (I (R x0 1) x2.toNatClampNeg)), (0, .ref (b + x0)), (1, .int x1)]) hx hb dX8_findEnds_44 hl (k := 3) rfl rfl (Nat.le_of_ble_eq_true rfl) rfl (fun ls hl => ?_)
                refine lv_goto (tgt := 25) hx hb dX8_findEnds_47 (by decide) ?_
                exact ih x0 x1 (I (R x0 1) x2.toNatClampNeg) (x3 + (-1 : Int32)) I L R a1 H locs ls hP hS hT h0 (lv_sub hl [2, 3, 1, 0] rfl) hf kx
        obtain ⟨y2_9, e_9, hf⟩ := bd1_o hf
        refine lp25 FU x0 x1 (x1 + (1 : Int32)) r4 I L R y2_9 H locs ls hP hS hT h0 (lv_sub hl [2, 3, 1, 0] rfl) e_9 (fun H locs ls hP hS hl => ?_)
        refine lv_aload_n hx hb dX8_findEnds_50 rfl (lv_at hl 0 rfl) ?_
        have t10 : kdC (R x0 1) = 1 := wt hT h0 rfl
        refine mm_getr hx hb hts hown hKK hP fk8_1 (Nat.le_of_ble_eq_true rfl) lkX8_19 (kdC_lt h0 (Nat.succ_ne_zero _)) h0 (nC t10 (Nat.succ_ne_zero _)) dX8_findEnds_51 ?_
        refine lv_iload_n hx hb dX8_findEnds_54 rfl (lv_at hl 1 rfl) ?_
        refine lv_iload_n hx hb dX8_findEnds_55 rfl (lv_at hl 2 rfl) ?_
        obtain ⟨g11, hf⟩ := grd hf
        refine jnE hf (fun I12 eI12 hf => ?_)
        refine mm_iast hx hb hKK hP hA hS (kdC_lt t10 (Nat.succ_ne_zero _)) t10 g11 dX8_findEnds_56 (fun H locs hP hS => ?_)
        rw [← eI12] at hP
        refine lv_iinc (v := (x1 + (-1 : Int32))) (lv' := [(1, .int (x1 + (-1 : Int32))), (0, .ref (b + x0)), (2, .int y2_9)]) hx hb dX8_findEnds_57 hl (k := 1) rfl rfl (Nat.le_of_ble_eq_true rfl) rfl (fun ls hl => ?_)
        refine lv_goto (tgt := 7) hx hb dX8_findEnds_60 (by decide) ?_
        exact ih x0 (x1 + (-1 : Int32)) I12 L R a1 H locs ls hP hS hT h0 (lv_sub hl [1, 0] rfl) hf kx
  obtain ⟨I_13, e_13, hf⟩ := bd1_o hf
  refine lp7 FU x0 ((I x0 2) - (1 : Int32)) I L R I_13 H locs ls hP hS hT h0 (lv_sub hl [1, 0] rfl) e_13 (fun H locs ls hP hS hl => ?_)
  exact hret I_13 hf H locs ls _ dX8_findEnds_63 hP hT hS
def rmX2_readTerm : Room := { frames := 3, cells := 0, slots := 0, locals := 62 }
set_option maxHeartbeats 4000000 in
set_option maxRecDepth 100000 in
theorem k_X2_readTerm (l : Launch) (D : va_G) (ce : Nat → ClassId) (b : Nat) (I : mI) (L : mL) (R : mR) (hT : WT kdC R) (x0 : Nat) (x1 : Nat) (x2 : Int32) (x3 : Int32) (x4 : Int32) (h0 : kdC x0 = 8) (h1 : kdC x1 = 14) (o1 : Int32) (o2 : mI) (hf : f_X2_readTerm x0 x1 x2 x3 x4 I R = some (o1, o2)) : Met l yX2_readTerm (Cond.code yX2_readTerm cX2_readTerm 7 (some .boolean) :: GW) rmX2_readTerm (va_Pc [.ref (b + x0), .ref (b + x1), .int x2, .int x3, .int x4] (PW D ce b kdC lnC 272 I L R)) (va_Qi (fun r u => r = o1 ∧ u = (o2, L, R)) (QW D ce b kdC lnC 272) (box b 272)) 0 0 (box b 272) := by
  refine Met.ofW (cc := cX2_readTerm) (maxL := 7) (ret := (some .boolean)) (by decide) rfl ?_
  intro p e s m args below meth c s₁ B hml hv
  obtain ⟨rfl, hP, hKK⟩ := hv
  have hx := B.exec
  have hb := B.bytes
  have hr := B.returns
  have hts0 := atoms_spec (ws := Cond.code yX2_readTerm cX2_readTerm 7 (some .boolean) :: GW) B.pre
  have hts : ∀ w ∈ GW, w.before _ s = true := fun w h => hts0 w (List.mem_cons_of_mem _ h)
  clear hts0
  have hown : s.vm.findClass RX2 = some m.cls := findClass_of_methodNamed B.named
  have hlocks := B.notSynchronized
  have hA : ∀ q, box b 272 q → box b 272 q := fun _ h => h
  have hS : va_S (box b 272) s.heap s.heap [] := va_S.rf
  have hl := lv_entry ([.ref (b + x0), .ref (b + x1), .int x2, .int x3, .int x4]) (n := 7) (Nat.le_of_ble_eq_true rfl)
  rw [lg_entry_eq]
  generalize (lg_sl ([.ref (b + x0), .ref (b + x1), .int x2, .int x3, .int x4]) ++ List.replicate (7 - (lg_sl ([.ref (b + x0), .ref (b + x1), .int x2, .int x3, .int x4])).length) Slot.unset).toArray = ls at hl ⊢
  have hl : lv_has ls 7 [(0, .ref (b + x0)), (1, .ref (b + x1)), (2, .int x2), (3, .int x3), (4, .int x4)] := hl
  generalize ([.ref (b + x0), .ref (b + x1), .int x2, .int x3, .int x4] : List Value).toArray = av at hts ⊢
  show W p l e rmX2_readTerm s m av below meth c s.heap [] 0 0 _ _
  obtain ⟨QQ, hQQ⟩ : ∃ z, z = MQ below (va_Qi (fun r u => r = o1 ∧ u = (o2, L, R)) (QW D ce b kdC lnC 272) (box b 272)) av s 0 0 (box b 272) := ⟨_, rfl⟩
  rw [← hQQ]
  have hret : ∀ (r : Int32) (I1 : mI), some (r, I1) = some (o1, o2) → ∀ (H1 : Heap) (locs1 : List Loc) (ls1 : Array Slot) (pc1 : Nat), decode cX2_readTerm pc1 = .ok (.ireturn, 1) → zb r = true → va_P D vwCl (wd ce b kdC lnC 272 I1 L R) H1 → WT kdC R → va_S (box b 272) s.heap H1 locs1 → W p l e rmX2_readTerm s m av below meth c H1 locs1 0 0 QQ (F0 m pc1 ls1 [.int r]) := by
    intro r I1 hq H1 locs1 ls1 pc1 hd hz hP hT hS
    cases hq
    rw [hQQ]
    exact mm_zret hx hb hr hlocks hz hP hT hS hd
  unfold f_X2_readTerm at hf
  obtain ⟨H, hH⟩ : ∃ z, z = s.heap := ⟨_, rfl⟩
  obtain ⟨locs, hlo⟩ : ∃ z : List Loc, z = [] := ⟨_, rfl⟩
  have hP : va_P D vwCl (wd ce b kdC lnC 272 I L R) H := by rw [hH]; exact hP
  have hS : va_S (box b 272) s.heap H locs := by rw [hH, hlo]; exact hS
  rw [show W p l e rmX2_readTerm s m av below meth c s.heap [] 0 0 QQ = W p l e rmX2_readTerm s m av below meth c H locs 0 0 QQ by rw [hH, hlo]]
  clear hH hlo
  clear hQQ
  show W p l e rmX2_readTerm s m av below meth c H locs 0 0 QQ (F0 m 0 ls [])
  refine lv_aload_n hx hb dX2_readTerm_0 rfl (lv_at hl 1 rfl) ?_
  refine lv_iconst (v := (0 : Int32)) hx hb dX2_readTerm_1 (by decide) ?_
  refine jnE hf (fun I1 eI1 hf => ?_)
  refine mm_puti hx hb hts hown hKK hP hA hS fk8_2 (Or.inl rfl) fw8_2 lkX2_64 (kdC_lt h1 (Nat.succ_ne_zero _)) h1 rfl rfl dX2_readTerm_2 (fun H locs hP hS => ?_)
  rw [← eI1] at hP
  refine lv_aload_n hx hb dX2_readTerm_5 rfl (lv_at hl 0 rfl) ?_
  refine lv_iconst (v := (0 : Int32)) hx hb dX2_readTerm_6 (by decide) ?_
  refine jnE hf (fun I2 eI2 hf => ?_)
  refine mm_puti hx hb hts hown hKK hP hA hS fk2_4 (Or.inl rfl) fw2_4 lkX2_67 (kdC_lt h0 (Nat.succ_ne_zero _)) h0 rfl rfl dX2_readTerm_7 (fun H locs hP hS => ?_)
  rw [← eI2] at hP
  refine lv_iconst (v := (0 : Int32)) hx hb dX2_readTerm_10 (by decide) ?_
  refine lv_istore (lv' := [(5, .int (0 : Int32)), (0, .ref (b + x0)), (1, .ref (b + x1)), (2, .int x2), (3, .int x3), (4, .int x4)]) hx hb dX2_readTerm_11 hl (Nat.le_of_ble_eq_true rfl) rfl (fun ls hl => ?_)
  have lp13 : ∀ (n : Nat) (x0 : Nat) (x1 : Nat) (x2 : Int32) (x3 : Int32) (x4 : Int32) (x5 : Int32) (I : mI) (L : mL) (R : mR) (q : (Int32 × mI) ⊕ (mI)) (H : Heap) (locs : List Loc) (ls : Array Slot), va_P D vwCl (wd ce b kdC lnC 272 I L R) H → va_S (box b 272) s.heap H locs → WT kdC R → kdC x0 = 8 → kdC x1 = 14 → lv_has ls 7 [(0, .ref (b + x0)), (1, .ref (b + x1)), (2, .int x2), (3, .int x3), (4, .int x4), (5, .int x5)] → f_X2_readTerm_L13 n x0 x1 x2 x3 x4 x5 I R = some q → (∀ (I1 : mI), some (Sum.inr I1) = some q → ∀ (H1 : Heap) (locs1 : List Loc) (ls1 : Array Slot), va_P D vwCl (wd ce b kdC lnC 272 I1 L R) H1 → va_S (box b 272) s.heap H1 locs1 → lv_has ls1 7 [(0, .ref (b + x0))] → W p l e rmX2_readTerm s m av below meth c H1 locs1 0 0 QQ (F0 m 97 ls1 [])) → (∀ (r : Int32) (I1 : mI), some (Sum.inl (r, I1)) = some q → ∀ (H1 : Heap) (locs1 : List Loc) (ls1 : Array Slot) (pc1 : Nat), decode cX2_readTerm pc1 = .ok (.ireturn, 1) → zb r = true → va_P D vwCl (wd ce b kdC lnC 272 I1 L R) H1 → WT kdC R → va_S (box b 272) s.heap H1 locs1 → W p l e rmX2_readTerm s m av below meth c H1 locs1 0 0 QQ (F0 m pc1 ls1 [.int r])) → W p l e rmX2_readTerm s m av below meth c H locs 0 0 QQ (F0 m 13 ls []) := by
    intro n
    induction n with
    | zero =>
      intro x0 x1 x2 x3 x4 x5 I L R q H locs ls hP hS hT h0 h1 hl hf kx kr
      exact absurd (show (none : Option ((Int32 × mI) ⊕ (mI))) = some _ from hf) (by simp)
    | succ n ih =>
      intro x0 x1 x2 x3 x4 x5 I L R q H locs ls hP hS hT h0 h1 hl hf kx kr
      rw [f_X2_readTerm_L13] at hf
      refine lv_iload hx hb dX2_readTerm_13 (lv_at hl 5 rfl) ?_
      refine lv_iload_n hx hb dX2_readTerm_15 rfl (lv_at hl 2 rfl) ?_
      refine lv_icmp_ge (tgt := 97) hx hb dX2_readTerm_16 (by decide) (fun c3 => ?_) (fun c3 => ?_)
      · have hf := ifT hf c3
        exact kx I hf H locs ls hP hS (lv_sub hl [0] rfl)
      · have hf := ifF hf c3
        refine lv_aload_n hx hb dX2_readTerm_19 rfl (lv_at hl 0 rfl) ?_
        refine lv_aload_n hx hb dX2_readTerm_20 rfl (lv_at hl 1 rfl) ?_
        refine lv_iload hx hb dX2_readTerm_21 (lv_at hl 5 rfl) ?_
        refine jnE hf (fun j32_4 ej_4 hf => ?_)
        have hJ32_4 : ∀ (w2_4 : Int32) (H : Heap) (locs : List Loc) (ls : Array Slot), va_P D vwCl (wd ce b kdC lnC 272 I L R) H → va_S (box b 272) s.heap H locs → lv_has ls 7 [(0, .ref (b + x0)), (1, .ref (b + x1)), (2, .int x2), (3, .int x3), (4, .int x4), (5, .int x5)] → j32_4 w2_4 = some q → W p l e rmX2_readTerm s m av below meth c H locs 0 0 QQ (F0 m 32 ls [.int w2_4, .ref (b + x1), .ref (b + x0)]) := by
          intro w2_4 H locs ls hP hS  hl hf
          rw [ej_4] at hf
          try dsimp only at hf
          obtain ⟨r5, I5, e5, hf⟩ := bd2_o hf
          refine mm_Vi (rest := []) hx hb hml hown hts hKK hP hS hA (kdC_lt h0 (Nat.succ_ne_zero _)) h0 (show vwCl[2]? = some (yX2_readLetter.cls, TX2, 5) from rfl) vkX2_70 (k_X2_readLetter l D ce b I L R hT x0 x1 w2_4 h0 h1 r5 I5 e5) rfl hl.1 rfl (Nat.le_of_ble_eq_true rfl) ⟨rfl, rfl⟩ ⟨Nat.le_of_ble_eq_true rfl, Nat.le_of_ble_eq_true rfl⟩ ⟨Nat.zero_le _, Nat.zero_le _⟩ dX2_readTerm_32 (fun H locs hP hT hS => ?_)
          refine lv_if_ne (tgt := 40) hx hb dX2_readTerm_35 (by decide) (fun c6 => ?_) (fun c6 => ?_)
          · have hf := ifF hf c6
            refine lv_aload_n hx hb dX2_readTerm_40 rfl (lv_at hl 1 rfl) ?_
            have t7 : kdC (R x1 0) = 1 := wt hT h1 rfl
            refine mm_getr hx hb hts hown hKK hP fk8_0 (Nat.le_of_ble_eq_true rfl) lkX2_74 (kdC_lt h1 (Nat.succ_ne_zero _)) h1 (nC t7 (Nat.succ_ne_zero _)) dX2_readTerm_41 ?_
            refine lv_iload hx hb dX2_readTerm_44 (lv_at hl 5 rfl) ?_
            obtain ⟨g8, hf⟩ := grd hf
            refine mm_iald hx hb hKK hP (kdC_lt t7 (Nat.succ_ne_zero _)) t7 g8 dX2_readTerm_46 ?_
            obtain ⟨r9, e9, hf⟩ := bd1_o hf
            refine mm_Ni (rest := []) hx hb hml hown hts hKK hP hS hA nkX2_77 (k_X10_partsBehind l D ce b I5 L R hT (I5 (R x1 0) x5.toNatClampNeg)  r9 e9) rfl hl.1 rfl (Nat.le_of_ble_eq_true rfl) ⟨rfl, rfl⟩ ⟨Nat.le_of_ble_eq_true rfl, Nat.le_of_ble_eq_true rfl⟩ ⟨Nat.zero_le _, Nat.zero_le _⟩ dX2_readTerm_47 (fun H locs hP hT hS => ?_)
            refine lv_istore (lv' := [(6, .int r9), (0, .ref (b + x0)), (1, .ref (b + x1)), (2, .int x2), (3, .int x3), (4, .int x4), (5, .int x5)]) hx hb dX2_readTerm_50 hl (Nat.le_of_ble_eq_true rfl) rfl (fun ls hl => ?_)
            refine lv_iload hx hb dX2_readTerm_52 (lv_at hl 0 rfl) ?_
            refine jnE hf (fun j78_10 ej_10 hf => ?_)
            have hJ78_10 : ∀ (I_10 : mI) (H : Heap) (locs : List Loc) (ls : Array Slot), va_P D vwCl (wd ce b kdC lnC 272 I_10 L R) H → va_S (box b 272) s.heap H locs → lv_has ls 7 [(0, .ref (b + x0)), (1, .ref (b + x1)), (2, .int x2), (3, .int x3), (4, .int x4), (5, .int x5)] → j78_10 I_10 = some q → W p l e rmX2_readTerm s m av below meth c H locs 0 0 QQ (F0 m 78 ls []) := by
              intro I_10 H locs ls hP hS  hl hf
              rw [ej_10] at hf
              try dsimp only at hf
              refine lv_aload_n hx hb dX2_readTerm_78 rfl (lv_at hl 0 rfl) ?_
              refine mm_geti hx hb hts hown hKK hP fk2_4 (Or.inl rfl) lkX2_67 (kdC_lt h0 (Nat.succ_ne_zero _)) h0 dX2_readTerm_79 ?_
              refine lv_if_ne (tgt := 91) hx hb dX2_readTerm_82 (by decide) (fun c11 => ?_) (fun c11 => ?_)
              · have hf := ifF hf c11
                refine lv_iinc (v := (x5 + (1 : Int32))) (lv' := [(5, .int (x5 + (1 : Int32))), (0, .ref (b + x0)), (1, .ref (b + x1)), (2, .int x2), (3, .int x3), (4, .int x4)]) hx hb dX2_readTerm_91 hl (k := 5) rfl rfl (Nat.le_of_ble_eq_true rfl) rfl (fun ls hl => ?_)
                refine lv_goto (tgt := 13) hx hb dX2_readTerm_94 (by decide) ?_
                exact ih x0 x1 x2 x3 x4 (x5 + (1 : Int32)) I_10 L R q H locs ls hP hS hT h0 h1 (lv_sub hl [1, 2, 3, 4, 5, 0] rfl) hf kx kr
              · have hf := ifT hf c11
                refine lv_aload_n hx hb dX2_readTerm_85 rfl (lv_at hl 1 rfl) ?_
                obtain ⟨I12, e12, hf⟩ := bd1_o hf
                refine mm_Vv (rest := []) hx hb hml hown hts hKK hP hS hA (kdC_lt h1 (Nat.succ_ne_zero _)) h1 (show vwCl[8]? = some (yX8_findEnds.cls, TX8, 3) from rfl) vkX2_88 (k_X8_findEnds l D ce b I_10 L R hT x1 h1 I12 e12) rfl hl.1 rfl (Nat.le_of_ble_eq_true rfl) ⟨rfl, rfl⟩ ⟨Nat.le_of_ble_eq_true rfl, Nat.le_of_ble_eq_true rfl⟩ ⟨Nat.zero_le _, Nat.zero_le _⟩ dX2_readTerm_86 (fun H locs hP hT hS => ?_)
                refine lv_iconst (v := (1 : Int32)) hx hb dX2_readTerm_89 (by decide) ?_
                exact kr (1 : Int32) I12 hf H locs ls _ dX2_readTerm_90 rfl hP hT hS
            clear ej_10
            refine lv_if_le (tgt := 69) hx hb dX2_readTerm_54 (by decide) (fun c13 => ?_) (fun c13 => ?_)
            · have hf := ifT hf c13
              refine lv_aload_n hx hb dX2_readTerm_69 rfl (lv_at hl 1 rfl) ?_
              obtain ⟨r14, I14, e14, hf⟩ := bd2_o hf
              refine mm_Vi (rest := []) hx hb hml hown hts hKK hP hS hA (kdC_lt h0 (Nat.succ_ne_zero _)) h0 (show vwCl[2]? = some (yX2_closes.cls, TX2, 5) from rfl) vkX2_84 (k_X2_closes l D ce b I5 L R hT x0 h0 r14 I14 e14) rfl hl.1 rfl (Nat.le_of_ble_eq_true rfl) ⟨rfl, rfl⟩ ⟨Nat.le_of_ble_eq_true rfl, Nat.le_of_ble_eq_true rfl⟩ ⟨Nat.zero_le _, Nat.zero_le _⟩ dX2_readTerm_70 (fun H locs hP hT hS => ?_)
              refine lv_if_ne (tgt := 78) hx hb dX2_readTerm_73 (by decide) (fun c15 => ?_) (fun c15 => ?_)
              · have hf := ifF hf c15
                exact hJ78_10 I14 H locs ls hP hS  (lv_sub hl [1, 2, 3, 4, 5, 6] rfl) hf
              · have hf := ifT hf c15
                refine lv_iconst (v := (0 : Int32)) hx hb dX2_readTerm_76 (by decide) ?_
                exact kr (0 : Int32) I14 hf H locs ls _ dX2_readTerm_77 rfl hP hT hS
            · have hf := ifF hf c13
              refine lv_aload_n hx hb dX2_readTerm_57 rfl (lv_at hl 1 rfl) ?_
              refine lv_iload hx hb dX2_readTerm_58 (lv_at hl 0 rfl) ?_
              obtain ⟨r16, I16, e16, hf⟩ := bd2_o hf
              refine mm_Vi (rest := []) hx hb hml hown hts hKK hP hS hA (kdC_lt h0 (Nat.succ_ne_zero _)) h0 (show vwCl[2]? = some (yX2_opens.cls, TX2, 5) from rfl) vkX2_81 (k_X2_opens l D ce b I5 L R hT x0 r9 h0 r16 I16 e16) rfl hl.1 rfl (Nat.le_of_ble_eq_true rfl) ⟨rfl, rfl⟩ ⟨Nat.le_of_ble_eq_true rfl, Nat.le_of_ble_eq_true rfl⟩ ⟨Nat.zero_le _, Nat.zero_le _⟩ dX2_readTerm_60 (fun H locs hP hT hS => ?_)
              refine lv_if_ne (tgt := 78) hx hb dX2_readTerm_63 (by decide) (fun c17 => ?_) (fun c17 => ?_)
              · have hf := ifF hf c17
                exact hJ78_10 I16 H locs ls hP hS  (lv_sub hl [1, 2, 3, 4, 5, 6] rfl) hf
              · have hf := ifT hf c17
                refine lv_goto (tgt := 76) hx hb dX2_readTerm_66 (by decide) ?_
                refine lv_iconst (v := (0 : Int32)) hx hb dX2_readTerm_76 (by decide) ?_
                exact kr (0 : Int32) I16 hf H locs ls _ dX2_readTerm_77 rfl hP hT hS
          · have hf := ifT hf c6
            refine lv_iconst (v := (0 : Int32)) hx hb dX2_readTerm_38 (by decide) ?_
            exact kr (0 : Int32) I5 hf H locs ls _ dX2_readTerm_39 rfl hP hT hS
        clear ej_4
        refine lv_if_ne (tgt := 30) hx hb dX2_readTerm_23 (by decide) (fun c18 => ?_) (fun c18 => ?_)
        · have hf := ifF hf c18
          refine lv_iload hx hb dX2_readTerm_30 (lv_at hl 4 rfl) ?_
          exact hJ32_4 x4 H locs ls hP hS  (lv_sub hl [0, 1, 2, 3, 4, 5] rfl) hf
        · have hf := ifT hf c18
          refine lv_iload_n hx hb dX2_readTerm_26 rfl (lv_at hl 3 rfl) ?_
          refine lv_goto (tgt := 32) hx hb dX2_readTerm_27 (by decide) ?_
          exact hJ32_4 x3 H locs ls hP hS  (lv_sub hl [0, 1, 2, 3, 4, 5] rfl) hf
  obtain ⟨q_19, e_19, hf⟩ := bdS_o hf
  refine lp13 FU x0 x1 x2 x3 x4 (0 : Int32) I2 L R q_19 H locs ls hP hS hT h0 h1 (lv_sub hl [1, 2, 3, 4, 5, 0] rfl) e_19 (fun I_19 hq H locs ls hP hS hl => ?_) (fun r_19 I_19 hq H locs ls pc1 hd hz hP hT hS => ?_)
  · have hf := elR1 hf (Option.some.inj hq).symm
    refine lv_aload_n hx hb dX2_readTerm_97 rfl (lv_at hl 0 rfl) ?_
    obtain ⟨I20, e20, hf⟩ := bd1_o hf
    refine mm_Vv (rest := []) hx hb hml hown hts hKK hP hS hA (kdC_lt h0 (Nat.succ_ne_zero _)) h0 (show vwCl[2]? = some (yX2_skipBlanks.cls, TX2, 5) from rfl) vkX2_38 (k_X2_skipBlanks l D ce b I_19 L R hT x0 h0 I20 e20) rfl hl.1 rfl (Nat.le_of_ble_eq_true rfl) ⟨rfl, rfl⟩ ⟨Nat.le_of_ble_eq_true rfl, Nat.le_of_ble_eq_true rfl⟩ ⟨Nat.zero_le _, Nat.zero_le _⟩ dX2_readTerm_98 (fun H locs hP hT hS => ?_)
    refine lv_iconst (v := (0 : Int32)) hx hb dX2_readTerm_101 (by decide) ?_
    exact hret (0 : Int32) I20 hf H locs ls _ dX2_readTerm_102 rfl hP hT hS
  · have hf := elL2 hf (Option.some.inj hq).symm
    exact hret r_19 I_19 hf H locs ls pc1 hd hz hP hT hS
def rmX8_unknowns : Room := { frames := 1, cells := 0, slots := 0, locals := 20 }
set_option maxHeartbeats 4000000 in
set_option maxRecDepth 100000 in
theorem k_X8_unknowns (l : Launch) (D : va_G) (ce : Nat → ClassId) (b : Nat) (I : mI) (L : mL) (R : mR) (hT : WT kdC R) (x0 : Nat) (h0 : kdC x0 = 14) (o1 : Int32) (hf : f_X8_unknowns x0 I R = some o1) : Met l yX8_unknowns (Cond.code yX8_unknowns cX8_unknowns 3 (some .int) :: GW) rmX8_unknowns (va_Pc [.ref (b + x0)] (PW D ce b kdC lnC 272 I L R)) (va_Qi (fun r u => r = o1 ∧ u = (I, L, R)) (QW D ce b kdC lnC 272) (box b 272)) 0 0 (box b 272) := by
  refine Met.ofW (cc := cX8_unknowns) (maxL := 3) (ret := (some .int)) (by decide) rfl ?_
  intro p e s m args below meth c s₁ B hml hv
  obtain ⟨rfl, hP, hKK⟩ := hv
  have hx := B.exec
  have hb := B.bytes
  have hr := B.returns
  have hts0 := atoms_spec (ws := Cond.code yX8_unknowns cX8_unknowns 3 (some .int) :: GW) B.pre
  have hts : ∀ w ∈ GW, w.before _ s = true := fun w h => hts0 w (List.mem_cons_of_mem _ h)
  clear hts0
  have hown : s.vm.findClass RX8 = some m.cls := findClass_of_methodNamed B.named
  have hlocks := B.notSynchronized
  have hA : ∀ q, box b 272 q → box b 272 q := fun _ h => h
  have hS : va_S (box b 272) s.heap s.heap [] := va_S.rf
  have hl := lv_entry ([.ref (b + x0)]) (n := 3) (Nat.le_of_ble_eq_true rfl)
  rw [lg_entry_eq]
  generalize (lg_sl ([.ref (b + x0)]) ++ List.replicate (3 - (lg_sl ([.ref (b + x0)])).length) Slot.unset).toArray = ls at hl ⊢
  have hl : lv_has ls 3 [(0, .ref (b + x0))] := hl
  generalize ([.ref (b + x0)] : List Value).toArray = av at hts ⊢
  show W p l e rmX8_unknowns s m av below meth c s.heap [] 0 0 _ _
  obtain ⟨QQ, hQQ⟩ : ∃ z, z = MQ below (va_Qi (fun r u => r = o1 ∧ u = (I, L, R)) (QW D ce b kdC lnC 272) (box b 272)) av s 0 0 (box b 272) := ⟨_, rfl⟩
  rw [← hQQ]
  have hret : ∀ (r : Int32), some r = some o1 → ∀ (H1 : Heap) (locs1 : List Loc) (ls1 : Array Slot) (pc1 : Nat), decode cX8_unknowns pc1 = .ok (.ireturn, 1) → va_P D vwCl (wd ce b kdC lnC 272 I L R) H1 → WT kdC R → va_S (box b 272) s.heap H1 locs1 → W p l e rmX8_unknowns s m av below meth c H1 locs1 0 0 QQ (F0 m pc1 ls1 [.int r]) := by
    intro r hq H1 locs1 ls1 pc1 hd hP hT hS
    cases hq
    rw [hQQ]
    exact mm_iret hx hb hr hlocks hP hT hS hd
  unfold f_X8_unknowns at hf
  obtain ⟨H, hH⟩ : ∃ z, z = s.heap := ⟨_, rfl⟩
  obtain ⟨locs, hlo⟩ : ∃ z : List Loc, z = [] := ⟨_, rfl⟩
  have hP : va_P D vwCl (wd ce b kdC lnC 272 I L R) H := by rw [hH]; exact hP
  have hS : va_S (box b 272) s.heap H locs := by rw [hH, hlo]; exact hS
  rw [show W p l e rmX8_unknowns s m av below meth c s.heap [] 0 0 QQ = W p l e rmX8_unknowns s m av below meth c H locs 0 0 QQ by rw [hH, hlo]]
  clear hH hlo
  clear hQQ
  show W p l e rmX8_unknowns s m av below meth c H locs 0 0 QQ (F0 m 0 ls [])
  refine lv_iconst (v := (0 : Int32)) hx hb dX8_unknowns_0 (by decide) ?_
  refine lv_istore_n (lv' := [(1, .int (0 : Int32)), (0, .ref (b + x0))]) hx hb dX8_unknowns_1 rfl hl (Nat.le_of_ble_eq_true rfl) rfl (fun ls hl => ?_)
  refine lv_iconst (v := (0 : Int32)) hx hb dX8_unknowns_2 (by decide) ?_
  refine lv_istore_n (lv' := [(2, .int (0 : Int32)), (1, .int (0 : Int32)), (0, .ref (b + x0))]) hx hb dX8_unknowns_3 rfl hl (Nat.le_of_ble_eq_true rfl) rfl (fun ls hl => ?_)
  have lp4 : ∀ (n : Nat) (x0 : Nat) (x1 : Int32) (x2 : Int32) (I : mI) (L : mL) (R : mR) (a1 : Int32) (H : Heap) (locs : List Loc) (ls : Array Slot), va_P D vwCl (wd ce b kdC lnC 272 I L R) H → va_S (box b 272) s.heap H locs → WT kdC R → kdC x0 = 14 → lv_has ls 3 [(0, .ref (b + x0)), (1, .int x1), (2, .int x2)] → f_X8_unknowns_L4 n x0 x1 x2 I R = some a1 → (∀ (H1 : Heap) (locs1 : List Loc) (ls1 : Array Slot), va_P D vwCl (wd ce b kdC lnC 272 I L R) H1 → va_S (box b 272) s.heap H1 locs1 → lv_has ls1 3 [(1, .int a1)] → W p l e rmX8_unknowns s m av below meth c H1 locs1 0 0 QQ (F0 m 30 ls1 [])) → W p l e rmX8_unknowns s m av below meth c H locs 0 0 QQ (F0 m 4 ls []) := by
    intro n
    induction n with
    | zero =>
      intro x0 x1 x2 I L R a1 H locs ls hP hS hT h0 hl hf kx
      exact absurd (show (none : Option (Int32)) = some _ from hf) (by simp)
    | succ n ih =>
      intro x0 x1 x2 I L R a1 H locs ls hP hS hT h0 hl hf kx
      rw [f_X8_unknowns_L4] at hf
      refine lv_iload_n hx hb dX8_unknowns_4 rfl (lv_at hl 2 rfl) ?_
      refine lv_aload_n hx hb dX8_unknowns_5 rfl (lv_at hl 0 rfl) ?_
      refine mm_geti hx hb hts hown hKK hP fk8_2 (Or.inl rfl) lkX8_22 (kdC_lt h0 (Nat.succ_ne_zero _)) h0 dX8_unknowns_6 ?_
      refine lv_icmp_ge (tgt := 30) hx hb dX8_unknowns_9 (by decide) (fun c1 => ?_) (fun c1 => ?_)
      · have hf := ifT hf c1
        cases hf
        exact kx H locs ls hP hS (lv_sub hl [1] rfl)
      · have hf := ifF hf c1
        refine lv_iload_n hx hb dX8_unknowns_12 rfl (lv_at hl 1 rfl) ?_
        refine lv_aload_n hx hb dX8_unknowns_13 rfl (lv_at hl 0 rfl) ?_
        have t2 : kdC (R x0 0) = 1 := wt hT h0 rfl
        refine mm_getr hx hb hts hown hKK hP fk8_0 (Nat.le_of_ble_eq_true rfl) lkX8_13 (kdC_lt h0 (Nat.succ_ne_zero _)) h0 (nC t2 (Nat.succ_ne_zero _)) dX8_unknowns_14 ?_
        refine lv_iload_n hx hb dX8_unknowns_17 rfl (lv_at hl 2 rfl) ?_
        obtain ⟨g3, hf⟩ := grd hf
        refine mm_iald hx hb hKK hP (kdC_lt t2 (Nat.succ_ne_zero _)) t2 g3 dX8_unknowns_18 ?_
        obtain ⟨r4, e4, hf⟩ := bd1_o hf
        refine mm_Ni (rest := [.int x1]) hx hb hml hown hts hKK hP hS hA nkX8_48 (k_X10_unknownBit l D ce b I L R hT (I (R x0 0) x2.toNatClampNeg)  r4 e4) rfl hl.1 rfl (Nat.le_of_ble_eq_true rfl) ⟨rfl, rfl⟩ ⟨Nat.le_of_ble_eq_true rfl, Nat.le_of_ble_eq_true rfl⟩ ⟨Nat.zero_le _, Nat.zero_le _⟩ dX8_unknowns_19 (fun H locs hP hT hS => ?_)
        refine lv_ior hx hb dX8_unknowns_22 ?_
        refine lv_istore_n (lv' := [(1, .int (x1 ||| r4)), (0, .ref (b + x0)), (2, .int x2)]) hx hb dX8_unknowns_23 rfl hl (Nat.le_of_ble_eq_true rfl) rfl (fun ls hl => ?_)
        refine lv_iinc (v := (x2 + (1 : Int32))) (lv' := [(2, .int (x2 + (1 : Int32))), (1, .int (x1 ||| r4)), (0, .ref (b + x0))]) hx hb dX8_unknowns_24 hl (k := 2) rfl rfl (Nat.le_of_ble_eq_true rfl) rfl (fun ls hl => ?_)
        refine lv_goto (tgt := 4) hx hb dX8_unknowns_27 (by decide) ?_
        exact ih x0 (x1 ||| r4) (x2 + (1 : Int32)) I L R a1 H locs ls hP hS hT h0 (lv_sub hl [2, 1, 0] rfl) hf kx
  obtain ⟨y1_5, e_5, hf⟩ := bd1_o hf
  refine lp4 FU x0 (0 : Int32) (0 : Int32) I L R y1_5 H locs ls hP hS hT h0 (lv_sub hl [2, 1, 0] rfl) e_5 (fun H locs ls hP hS hl => ?_)
  refine lv_iload_n hx hb dX8_unknowns_30 rfl (lv_at hl 0 rfl) ?_
  exact hret y1_5 hf H locs ls _ dX8_unknowns_31 hP hT hS
def rmX2_readRule : Room := { frames := 4, cells := 0, slots := 0, locals := 88 }
set_option maxHeartbeats 4000000 in
set_option maxRecDepth 100000 in
theorem k_X2_readRule (l : Launch) (D : va_G) (ce : Nat → ClassId) (b : Nat) (I : mI) (L : mL) (R : mR) (hT : WT kdC R) (x0 : Nat) (x1 : Nat) (h0 : kdC x0 = 8) (h1 : kdC x1 = 9) (o1 : Int32) (o2 : mI) (hf : f_X2_readRule x0 x1 I R = some (o1, o2)) : Met l yX2_readRule (Cond.code yX2_readRule cX2_readRule 3 (some .boolean) :: GW) rmX2_readRule (va_Pc [.ref (b + x0), .ref (b + x1)] (PW D ce b kdC lnC 272 I L R)) (va_Qi (fun r u => r = o1 ∧ u = (o2, L, R)) (QW D ce b kdC lnC 272) (box b 272)) 0 0 (box b 272) := by
  refine Met.ofW (cc := cX2_readRule) (maxL := 3) (ret := (some .boolean)) (by decide) rfl ?_
  intro p e s m args below meth c s₁ B hml hv
  obtain ⟨rfl, hP, hKK⟩ := hv
  have hx := B.exec
  have hb := B.bytes
  have hr := B.returns
  have hts0 := atoms_spec (ws := Cond.code yX2_readRule cX2_readRule 3 (some .boolean) :: GW) B.pre
  have hts : ∀ w ∈ GW, w.before _ s = true := fun w h => hts0 w (List.mem_cons_of_mem _ h)
  clear hts0
  have hown : s.vm.findClass RX2 = some m.cls := findClass_of_methodNamed B.named
  have hlocks := B.notSynchronized
  have hA : ∀ q, box b 272 q → box b 272 q := fun _ h => h
  have hS : va_S (box b 272) s.heap s.heap [] := va_S.rf
  have hl := lv_entry ([.ref (b + x0), .ref (b + x1)]) (n := 3) (Nat.le_of_ble_eq_true rfl)
  rw [lg_entry_eq]
  generalize (lg_sl ([.ref (b + x0), .ref (b + x1)]) ++ List.replicate (3 - (lg_sl ([.ref (b + x0), .ref (b + x1)])).length) Slot.unset).toArray = ls at hl ⊢
  have hl : lv_has ls 3 [(0, .ref (b + x0)), (1, .ref (b + x1))] := hl
  generalize ([.ref (b + x0), .ref (b + x1)] : List Value).toArray = av at hts ⊢
  show W p l e rmX2_readRule s m av below meth c s.heap [] 0 0 _ _
  obtain ⟨QQ, hQQ⟩ : ∃ z, z = MQ below (va_Qi (fun r u => r = o1 ∧ u = (o2, L, R)) (QW D ce b kdC lnC 272) (box b 272)) av s 0 0 (box b 272) := ⟨_, rfl⟩
  rw [← hQQ]
  have hret : ∀ (r : Int32) (I1 : mI), some (r, I1) = some (o1, o2) → ∀ (H1 : Heap) (locs1 : List Loc) (ls1 : Array Slot) (pc1 : Nat), decode cX2_readRule pc1 = .ok (.ireturn, 1) → zb r = true → va_P D vwCl (wd ce b kdC lnC 272 I1 L R) H1 → WT kdC R → va_S (box b 272) s.heap H1 locs1 → W p l e rmX2_readRule s m av below meth c H1 locs1 0 0 QQ (F0 m pc1 ls1 [.int r]) := by
    intro r I1 hq H1 locs1 ls1 pc1 hd hz hP hT hS
    cases hq
    rw [hQQ]
    exact mm_zret hx hb hr hlocks hz hP hT hS hd
  unfold f_X2_readRule at hf
  obtain ⟨H, hH⟩ : ∃ z, z = s.heap := ⟨_, rfl⟩
  obtain ⟨locs, hlo⟩ : ∃ z : List Loc, z = [] := ⟨_, rfl⟩
  have hP : va_P D vwCl (wd ce b kdC lnC 272 I L R) H := by rw [hH]; exact hP
  have hS : va_S (box b 272) s.heap H locs := by rw [hH, hlo]; exact hS
  rw [show W p l e rmX2_readRule s m av below meth c s.heap [] 0 0 QQ = W p l e rmX2_readRule s m av below meth c H locs 0 0 QQ by rw [hH, hlo]]
  clear hH hlo
  clear hQQ
  show W p l e rmX2_readRule s m av below meth c H locs 0 0 QQ (F0 m 0 ls [])
  refine lv_aload_n hx hb dX2_readRule_0 rfl (lv_at hl 0 rfl) ?_
  refine lv_aload_n hx hb dX2_readRule_1 rfl (lv_at hl 1 rfl) ?_
  have t1 : kdC (R x1 0) = 14 := wt hT h1 rfl
  refine mm_getr hx hb hts hown hKK hP fk3_0 (Nat.le_of_ble_eq_true rfl) lkX2_45 (kdC_lt h1 (Nat.succ_ne_zero _)) h1 (nC t1 (Nat.succ_ne_zero _)) dX2_readRule_2 ?_
  refine lv_bipush (v := (12 : Int32)) hx hb dX2_readRule_5 (by decide) ?_
  refine lv_iconst (v := (0 : Int32)) hx hb dX2_readRule_7 (by decide) ?_
  refine lv_iconst (v := (3 : Int32)) hx hb dX2_readRule_8 (by decide) ?_
  obtain ⟨r2, I2, e2, hf⟩ := bd2_o hf
  refine mm_Vi (rest := []) hx hb hml hown hts hKK hP hS hA (kdC_lt h0 (Nat.succ_ne_zero _)) h0 (show vwCl[2]? = some (yX2_readTerm.cls, TX2, 5) from rfl) vkX2_41 (k_X2_readTerm l D ce b I L R hT x0 (R x1 0) (12 : Int32) (0 : Int32) (3 : Int32) h0 t1 r2 I2 e2) rfl hl.1 rfl (Nat.le_of_ble_eq_true rfl) ⟨rfl, rfl⟩ ⟨Nat.le_of_ble_eq_true rfl, Nat.le_of_ble_eq_true rfl⟩ ⟨Nat.zero_le _, Nat.zero_le _⟩ dX2_readRule_9 (fun H locs hP hT hS => ?_)
  refine lv_if_eq (tgt := 24) hx hb dX2_readRule_12 (by decide) (fun c3 => ?_) (fun c3 => ?_)
  · have hf := ifT hf c3
    refine lv_iconst (v := (0 : Int32)) hx hb dX2_readRule_24 (by decide) ?_
    exact hret (0 : Int32) I2 hf H locs ls _ dX2_readRule_25 rfl hP hT hS
  · have hf := ifF hf c3
    refine lv_aload_n hx hb dX2_readRule_15 rfl (lv_at hl 0 rfl) ?_
    refine lv_bipush (v := (62 : Int32)) hx hb dX2_readRule_16 (by decide) ?_
    obtain ⟨r4, I4, e4, hf⟩ := bd2_o hf
    refine mm_Vi (rest := []) hx hb hml hown hts hKK hP hS hA (kdC_lt h0 (Nat.succ_ne_zero _)) h0 (show vwCl[2]? = some (yX2_takes.cls, TX2, 5) from rfl) vkX2_51 (k_X2_takes l D ce b I2 L R hT x0 (62 : Int32) h0 r4 I4 e4) rfl hl.1 rfl (Nat.le_of_ble_eq_true rfl) ⟨rfl, rfl⟩ ⟨Nat.le_of_ble_eq_true rfl, Nat.le_of_ble_eq_true rfl⟩ ⟨Nat.zero_le _, Nat.zero_le _⟩ dX2_readRule_18 (fun H locs hP hT hS => ?_)
    refine lv_if_ne (tgt := 26) hx hb dX2_readRule_21 (by decide) (fun c5 => ?_) (fun c5 => ?_)
    · have hf := ifF hf c5
      refine lv_aload_n hx hb dX2_readRule_26 rfl (lv_at hl 1 rfl) ?_
      refine mm_getr hx hb hts hown hKK hP fk3_0 (Nat.le_of_ble_eq_true rfl) lkX2_45 (kdC_lt h1 (Nat.succ_ne_zero _)) h1 (nC t1 (Nat.succ_ne_zero _)) dX2_readRule_27 ?_
      obtain ⟨r6, e6, hf⟩ := bd1_o hf
      refine mm_Vi (rest := []) hx hb hml hown hts hKK hP hS hA (kdC_lt t1 (Nat.succ_ne_zero _)) t1 (show vwCl[8]? = some (yX8_unknowns.cls, TX8, 3) from rfl) vkX2_55 (k_X8_unknowns l D ce b I4 L R hT (R x1 0) t1 r6 e6) rfl hl.1 rfl (Nat.le_of_ble_eq_true rfl) ⟨rfl, rfl⟩ ⟨Nat.le_of_ble_eq_true rfl, Nat.le_of_ble_eq_true rfl⟩ ⟨Nat.zero_le _, Nat.zero_le _⟩ dX2_readRule_30 (fun H locs hP hT hS => ?_)
      refine lv_istore_n (lv' := [(2, .int r6), (0, .ref (b + x0)), (1, .ref (b + x1))]) hx hb dX2_readRule_33 rfl hl (Nat.le_of_ble_eq_true rfl) rfl (fun ls hl => ?_)
      refine lv_aload_n hx hb dX2_readRule_34 rfl (lv_at hl 1 rfl) ?_
      refine lv_aload_n hx hb dX2_readRule_35 rfl (lv_at hl 2 rfl) ?_
      have t7 : kdC (R x1 1) = 14 := wt hT h1 rfl
      refine mm_getr hx hb hts hown hKK hP fk3_1 (Nat.le_of_ble_eq_true rfl) lkX2_61 (kdC_lt h1 (Nat.succ_ne_zero _)) h1 (nC t7 (Nat.succ_ne_zero _)) dX2_readRule_36 ?_
      refine lv_bipush (v := (12 : Int32)) hx hb dX2_readRule_39 (by decide) ?_
      refine lv_iload_n hx hb dX2_readRule_41 rfl (lv_at hl 0 rfl) ?_
      refine lv_iload_n hx hb dX2_readRule_42 rfl (lv_at hl 0 rfl) ?_
      obtain ⟨r8, I8, e8, hf⟩ := bd2_o hf
      refine mm_Vi (rest := []) hx hb hml hown hts hKK hP hS hA (kdC_lt h0 (Nat.succ_ne_zero _)) h0 (show vwCl[2]? = some (yX2_readTerm.cls, TX2, 5) from rfl) vkX2_41 (k_X2_readTerm l D ce b I4 L R hT x0 (R x1 1) (12 : Int32) r6 r6 h0 t7 r8 I8 e8) rfl hl.1 rfl (Nat.le_of_ble_eq_true rfl) ⟨rfl, rfl⟩ ⟨Nat.le_of_ble_eq_true rfl, Nat.le_of_ble_eq_true rfl⟩ ⟨Nat.zero_le _, Nat.zero_le _⟩ dX2_readRule_43 (fun H locs hP hT hS => ?_)
      refine jnE hf (fun j62_9 ej_9 hf => ?_)
      have hJ62_9 : ∀ (I_9 : mI) (H : Heap) (locs : List Loc) (ls : Array Slot), va_P D vwCl (wd ce b kdC lnC 272 I_9 L R) H → va_S (box b 272) s.heap H locs → lv_has ls 3 [] → j62_9 I_9 = some (o1, o2) → W p l e rmX2_readRule s m av below meth c H locs 0 0 QQ (F0 m 62 ls []) := by
        intro I_9 H locs ls hP hS  hl hf
        rw [ej_9] at hf
        try dsimp only at hf
        refine lv_iconst (v := (0 : Int32)) hx hb dX2_readRule_62 (by decide) ?_
        exact hret (0 : Int32) I_9 hf H locs ls _ dX2_readRule_63 rfl hP hT hS
      clear ej_9
      refine lv_if_eq (tgt := 62) hx hb dX2_readRule_46 (by decide) (fun c10 => ?_) (fun c10 => ?_)
      · have hf := ifT hf c10
        exact hJ62_9 I8 H locs ls hP hS  (lv_sub hl [] rfl) hf
      · have hf := ifF hf c10
        refine lv_aload_n hx hb dX2_readRule_49 rfl (lv_at hl 1 rfl) ?_
        refine lv_bipush (v := (59 : Int32)) hx hb dX2_readRule_50 (by decide) ?_
        obtain ⟨r11, I11, e11, hf⟩ := bd2_o hf
        refine mm_Vi (rest := []) hx hb hml hown hts hKK hP hS hA (kdC_lt h0 (Nat.succ_ne_zero _)) h0 (show vwCl[2]? = some (yX2_takes.cls, TX2, 5) from rfl) vkX2_51 (k_X2_takes l D ce b I8 L R hT x0 (59 : Int32) h0 r11 I11 e11) rfl hl.1 rfl (Nat.le_of_ble_eq_true rfl) ⟨rfl, rfl⟩ ⟨Nat.le_of_ble_eq_true rfl, Nat.le_of_ble_eq_true rfl⟩ ⟨Nat.zero_le _, Nat.zero_le _⟩ dX2_readRule_52 (fun H locs hP hT hS => ?_)
        refine lv_if_eq (tgt := 62) hx hb dX2_readRule_55 (by decide) (fun c12 => ?_) (fun c12 => ?_)
        · have hf := ifT hf c12
          exact hJ62_9 I11 H locs ls hP hS  (lv_sub hl [] rfl) hf
        · have hf := ifF hf c12
          refine lv_iconst (v := (1 : Int32)) hx hb dX2_readRule_58 (by decide) ?_
          refine lv_goto (tgt := 63) hx hb dX2_readRule_59 (by decide) ?_
          exact hret (1 : Int32) I11 hf H locs ls _ dX2_readRule_63 rfl hP hT hS
    · have hf := ifT hf c5
      refine lv_iconst (v := (0 : Int32)) hx hb dX2_readRule_24 (by decide) ?_
      exact hret (0 : Int32) I4 hf H locs ls _ dX2_readRule_25 rfl hP hT hS
def rmX2_readRules : Room := { frames := 5, cells := 0, slots := 0, locals := 110 }
set_option maxHeartbeats 4000000 in
set_option maxRecDepth 100000 in
theorem k_X2_readRules (l : Launch) (D : va_G) (ce : Nat → ClassId) (b : Nat) (I : mI) (L : mL) (R : mR) (hT : WT kdC R) (x0 : Nat) (x1 : Nat) (h0 : kdC x0 = 8) (h1 : kdC x1 = 13) (o1 : Int32) (o2 : mI) (hf : f_X2_readRules x0 x1 I R = some (o1, o2)) : Met l yX2_readRules (Cond.code yX2_readRules cX2_readRules 3 (some .int) :: GW) rmX2_readRules (va_Pc [.ref (b + x0), .ref (b + x1)] (PW D ce b kdC lnC 272 I L R)) (va_Qi (fun r u => r = o1 ∧ u = (o2, L, R)) (QW D ce b kdC lnC 272) (box b 272)) 0 0 (box b 272) := by
  refine Met.ofW (cc := cX2_readRules) (maxL := 3) (ret := (some .int)) (by decide) rfl ?_
  intro p e s m args below meth c s₁ B hml hv
  obtain ⟨rfl, hP, hKK⟩ := hv
  have hx := B.exec
  have hb := B.bytes
  have hr := B.returns
  have hts0 := atoms_spec (ws := Cond.code yX2_readRules cX2_readRules 3 (some .int) :: GW) B.pre
  have hts : ∀ w ∈ GW, w.before _ s = true := fun w h => hts0 w (List.mem_cons_of_mem _ h)
  clear hts0
  have hown : s.vm.findClass RX2 = some m.cls := findClass_of_methodNamed B.named
  have hlocks := B.notSynchronized
  have hA : ∀ q, box b 272 q → box b 272 q := fun _ h => h
  have hS : va_S (box b 272) s.heap s.heap [] := va_S.rf
  have hl := lv_entry ([.ref (b + x0), .ref (b + x1)]) (n := 3) (Nat.le_of_ble_eq_true rfl)
  rw [lg_entry_eq]
  generalize (lg_sl ([.ref (b + x0), .ref (b + x1)]) ++ List.replicate (3 - (lg_sl ([.ref (b + x0), .ref (b + x1)])).length) Slot.unset).toArray = ls at hl ⊢
  have hl : lv_has ls 3 [(0, .ref (b + x0)), (1, .ref (b + x1))] := hl
  generalize ([.ref (b + x0), .ref (b + x1)] : List Value).toArray = av at hts ⊢
  show W p l e rmX2_readRules s m av below meth c s.heap [] 0 0 _ _
  obtain ⟨QQ, hQQ⟩ : ∃ z, z = MQ below (va_Qi (fun r u => r = o1 ∧ u = (o2, L, R)) (QW D ce b kdC lnC 272) (box b 272)) av s 0 0 (box b 272) := ⟨_, rfl⟩
  rw [← hQQ]
  have hret : ∀ (r : Int32) (I1 : mI), some (r, I1) = some (o1, o2) → ∀ (H1 : Heap) (locs1 : List Loc) (ls1 : Array Slot) (pc1 : Nat), decode cX2_readRules pc1 = .ok (.ireturn, 1) → va_P D vwCl (wd ce b kdC lnC 272 I1 L R) H1 → WT kdC R → va_S (box b 272) s.heap H1 locs1 → W p l e rmX2_readRules s m av below meth c H1 locs1 0 0 QQ (F0 m pc1 ls1 [.int r]) := by
    intro r I1 hq H1 locs1 ls1 pc1 hd hP hT hS
    cases hq
    rw [hQQ]
    exact mm_iret hx hb hr hlocks hP hT hS hd
  unfold f_X2_readRules at hf
  obtain ⟨H, hH⟩ : ∃ z, z = s.heap := ⟨_, rfl⟩
  obtain ⟨locs, hlo⟩ : ∃ z : List Loc, z = [] := ⟨_, rfl⟩
  have hP : va_P D vwCl (wd ce b kdC lnC 272 I L R) H := by rw [hH]; exact hP
  have hS : va_S (box b 272) s.heap H locs := by rw [hH, hlo]; exact hS
  rw [show W p l e rmX2_readRules s m av below meth c s.heap [] 0 0 QQ = W p l e rmX2_readRules s m av below meth c H locs 0 0 QQ by rw [hH, hlo]]
  clear hH hlo
  clear hQQ
  show W p l e rmX2_readRules s m av below meth c H locs 0 0 QQ (F0 m 0 ls [])
  refine lv_aload_n hx hb dX2_readRules_0 rfl (lv_at hl 0 rfl) ?_
  refine lv_iconst (v := (0 : Int32)) hx hb dX2_readRules_1 (by decide) ?_
  refine jnE hf (fun I1 eI1 hf => ?_)
  refine mm_puti hx hb hts hown hKK hP hA hS fk2_3 (Or.inl rfl) fw2_3 lkX2_22 (kdC_lt h0 (Nat.succ_ne_zero _)) h0 rfl rfl dX2_readRules_2 (fun H locs hP hS => ?_)
  rw [← eI1] at hP
  refine lv_aload_n hx hb dX2_readRules_5 rfl (lv_at hl 1 rfl) ?_
  refine mm_geti hx hb hts hown hKK hP fk7_2 (Or.inl rfl) lkX2_25 (kdC_lt h1 (Nat.succ_ne_zero _)) h1 dX2_readRules_6 ?_
  refine lv_istore_n (lv' := [(2, .int (I1 x1 2)), (0, .ref (b + x0)), (1, .ref (b + x1))]) hx hb dX2_readRules_9 rfl hl (Nat.le_of_ble_eq_true rfl) rfl (fun ls hl => ?_)
  have lp10 : ∀ (n : Nat) (x0 : Nat) (x1 : Nat) (x2 : Int32) (I : mI) (L : mL) (R : mR) (q : (Int32 × mI) ⊕ (mI)) (H : Heap) (locs : List Loc) (ls : Array Slot), va_P D vwCl (wd ce b kdC lnC 272 I L R) H → va_S (box b 272) s.heap H locs → WT kdC R → kdC x0 = 8 → kdC x1 = 13 → lv_has ls 3 [(0, .ref (b + x0)), (1, .ref (b + x1)), (2, .int x2)] → f_X2_readRules_L10 n x0 x1 x2 I R = some q → (∀ (I1 : mI), some (Sum.inr I1) = some q → ∀ (H1 : Heap) (locs1 : List Loc) (ls1 : Array Slot), va_P D vwCl (wd ce b kdC lnC 272 I1 L R) H1 → va_S (box b 272) s.heap H1 locs1 → lv_has ls1 3 [(0, .ref (b + x0))] → W p l e rmX2_readRules s m av below meth c H1 locs1 0 0 QQ (F0 m 55 ls1 [])) → (∀ (r : Int32) (I1 : mI), some (Sum.inl (r, I1)) = some q → ∀ (H1 : Heap) (locs1 : List Loc) (ls1 : Array Slot) (pc1 : Nat), decode cX2_readRules pc1 = .ok (.ireturn, 1) → va_P D vwCl (wd ce b kdC lnC 272 I1 L R) H1 → WT kdC R → va_S (box b 272) s.heap H1 locs1 → W p l e rmX2_readRules s m av below meth c H1 locs1 0 0 QQ (F0 m pc1 ls1 [.int r])) → W p l e rmX2_readRules s m av below meth c H locs 0 0 QQ (F0 m 10 ls []) := by
    intro n
    induction n with
    | zero =>
      intro x0 x1 x2 I L R q H locs ls hP hS hT h0 h1 hl hf kx kr
      exact absurd (show (none : Option ((Int32 × mI) ⊕ (mI))) = some _ from hf) (by simp)
    | succ n ih =>
      intro x0 x1 x2 I L R q H locs ls hP hS hT h0 h1 hl hf kx kr
      rw [f_X2_readRules_L10] at hf
      refine lv_iload_n hx hb dX2_readRules_10 rfl (lv_at hl 2 rfl) ?_
      refine lv_iconst (v := (5 : Int32)) hx hb dX2_readRules_11 (by decide) ?_
      refine lv_icmp_ge (tgt := 55) hx hb dX2_readRules_12 (by decide) (fun c2 => ?_) (fun c2 => ?_)
      · have hf := ifT hf c2
        exact kx I hf H locs ls hP hS (lv_sub hl [0] rfl)
      · have hf := ifF hf c2
        refine lv_aload_n hx hb dX2_readRules_15 rfl (lv_at hl 0 rfl) ?_
        refine lv_aload_n hx hb dX2_readRules_16 rfl (lv_at hl 1 rfl) ?_
        have t3 : kdC (R x1 0) = 4 := wt hT h1 rfl
        refine mm_getr hx hb hts hown hKK hP fk7_0 (Nat.le_of_ble_eq_true rfl) lkX2_30 (kdC_lt h1 (Nat.succ_ne_zero _)) h1 (nC t3 (Nat.succ_ne_zero _)) dX2_readRules_17 ?_
        refine lv_iload_n hx hb dX2_readRules_20 rfl (lv_at hl 2 rfl) ?_
        obtain ⟨g4, hf⟩ := grd hf
        have t5 : kdC (R (R x1 0) x2.toNatClampNeg) = 9 := wt hT t3 rfl
        refine mm_aald4 hx hb hKK hP (kdC_lt t3 (Nat.succ_ne_zero _)) t3 g4 (nC t5 (Nat.succ_ne_zero _)) dX2_readRules_21 ?_
        obtain ⟨r6, I6, e6, hf⟩ := bd2_o hf
        refine mm_Vi (rest := []) hx hb hml hown hts hKK hP hS hA (kdC_lt h0 (Nat.succ_ne_zero _)) h0 (show vwCl[2]? = some (yX2_readRule.cls, TX2, 5) from rfl) vkX2_34 (k_X2_readRule l D ce b I L R hT x0 (R (R x1 0) x2.toNatClampNeg) h0 t5 r6 I6 e6) rfl hl.1 rfl (Nat.le_of_ble_eq_true rfl) ⟨rfl, rfl⟩ ⟨Nat.le_of_ble_eq_true rfl, Nat.le_of_ble_eq_true rfl⟩ ⟨Nat.zero_le _, Nat.zero_le _⟩ dX2_readRules_22 (fun H locs hP hT hS => ?_)
        refine lv_if_ne (tgt := 30) hx hb dX2_readRules_25 (by decide) (fun c7 => ?_) (fun c7 => ?_)
        · have hf := ifF hf c7
          refine lv_aload_n hx hb dX2_readRules_30 rfl (lv_at hl 0 rfl) ?_
          obtain ⟨I8, e8, hf⟩ := bd1_o hf
          refine mm_Vv (rest := []) hx hb hml hown hts hKK hP hS hA (kdC_lt h0 (Nat.succ_ne_zero _)) h0 (show vwCl[2]? = some (yX2_skipBlanks.cls, TX2, 5) from rfl) vkX2_38 (k_X2_skipBlanks l D ce b I6 L R hT x0 h0 I8 e8) rfl hl.1 rfl (Nat.le_of_ble_eq_true rfl) ⟨rfl, rfl⟩ ⟨Nat.le_of_ble_eq_true rfl, Nat.le_of_ble_eq_true rfl⟩ ⟨Nat.zero_le _, Nat.zero_le _⟩ dX2_readRules_31 (fun H locs hP hT hS => ?_)
          refine lv_aload_n hx hb dX2_readRules_34 rfl (lv_at hl 0 rfl) ?_
          refine mm_geti hx hb hts hown hKK hP fk2_3 (Or.inl rfl) lkX2_22 (kdC_lt h0 (Nat.succ_ne_zero _)) h0 dX2_readRules_35 ?_
          refine lv_aload_n hx hb dX2_readRules_38 rfl (lv_at hl 0 rfl) ?_
          refine mm_geti hx hb hts hown hKK hP fk2_2 (Or.inl rfl) lkX2_18 (kdC_lt h0 (Nat.succ_ne_zero _)) h0 dX2_readRules_39 ?_
          refine lv_icmp_ne (tgt := 49) hx hb dX2_readRules_42 (by decide) (fun c9 => ?_) (fun c9 => ?_)
          · have hf := ifF hf c9
            refine lv_iinc (v := (x2 + (1 : Int32))) (lv' := [(2, .int (x2 + (1 : Int32))), (0, .ref (b + x0)), (1, .ref (b + x1))]) hx hb dX2_readRules_49 hl (k := 2) rfl rfl (Nat.le_of_ble_eq_true rfl) rfl (fun ls hl => ?_)
            refine lv_goto (tgt := 10) hx hb dX2_readRules_52 (by decide) ?_
            exact ih x0 x1 (x2 + (1 : Int32)) I8 L R q H locs ls hP hS hT h0 h1 (lv_sub hl [1, 2, 0] rfl) hf kx kr
          · have hf := ifT hf c9
            refine lv_iload_n hx hb dX2_readRules_45 rfl (lv_at hl 2 rfl) ?_
            refine lv_iconst (v := (1 : Int32)) hx hb dX2_readRules_46 (by decide) ?_
            refine lv_iadd hx hb dX2_readRules_47 ?_
            exact kr (x2 + (1 : Int32)) I8 hf H locs ls _ dX2_readRules_48 hP hT hS
        · have hf := ifT hf c7
          refine lv_iconst (v := (-1 : Int32)) hx hb dX2_readRules_28 (by decide) ?_
          exact kr (-1 : Int32) I6 hf H locs ls _ dX2_readRules_29 hP hT hS
  obtain ⟨q_10, e_10, hf⟩ := bdS_o hf
  refine lp10 FU x0 x1 (I1 x1 2) I1 L R q_10 H locs ls hP hS hT h0 h1 (lv_sub hl [1, 2, 0] rfl) e_10 (fun I_10 hq H locs ls hP hS hl => ?_) (fun r_10 I_10 hq H locs ls pc1 hd hP hT hS => ?_)
  · have hf := elR1 hf (Option.some.inj hq).symm
    refine lv_aload_n hx hb dX2_readRules_55 rfl (lv_at hl 0 rfl) ?_
    obtain ⟨I11, e11, hf⟩ := bd1_o hf
    refine mm_Vv (rest := []) hx hb hml hown hts hKK hP hS hA (kdC_lt h0 (Nat.succ_ne_zero _)) h0 (show vwCl[2]? = some (yX2_skipBlanks.cls, TX2, 5) from rfl) vkX2_38 (k_X2_skipBlanks l D ce b I_10 L R hT x0 h0 I11 e11) rfl hl.1 rfl (Nat.le_of_ble_eq_true rfl) ⟨rfl, rfl⟩ ⟨Nat.le_of_ble_eq_true rfl, Nat.le_of_ble_eq_true rfl⟩ ⟨Nat.zero_le _, Nat.zero_le _⟩ dX2_readRules_56 (fun H locs hP hT hS => ?_)
    refine lv_iconst (v := (-1 : Int32)) hx hb dX2_readRules_59 (by decide) ?_
    exact hret (-1 : Int32) I11 hf H locs ls _ dX2_readRules_60 hP hT hS
  · have hf := elL2 hf (Option.some.inj hq).symm
    exact hret r_10 I_10 hf H locs ls pc1 hd hP hT hS
