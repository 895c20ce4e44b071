def rmX9_turnMany : Room := { frames := 4, cells := 0, slots := 0, locals := 99 }
set_option maxHeartbeats 4000000 in
set_option maxRecDepth 100000 in
theorem k_X9_turnMany (l : Launch) (D : va_G) (ce : Nat → ClassId) (b : Nat) (I : mI) (L : mL) (R : mR) (hT : WT kdC R) (x0 : Nat) (x1 : Nat) (x2 : Nat) (x3 : Int32) (h0 : kdC x0 = 15) (h1 : kdC x1 = 13) (h2 : kdC x2 = 14) (o1 : Int32) (o2 : mI) (hf : f_X9_turnMany x0 x1 x2 x3 I R = some (o1, o2)) : Met l yX9_turnMany (Cond.code yX9_turnMany cX9_turnMany 5 (some .int) :: GW) rmX9_turnMany (va_Pc [.ref (b + x0), .ref (b + x1), .ref (b + x2), .int x3] (PW D ce b kdC lnC 272 I L R)) (va_Qi (fun r u => r = o1 ∧ u = (o2, L, R)) (QW D ce b kdC lnC 272) (box b 272)) 0 0 (box b 272) := by
  refine Met.ofW (cc := cX9_turnMany) (maxL := 5) (ret := (some .int)) (by decide) rfl ?_
  intro p e s m args below meth c s₁ B hml hv
  obtain ⟨rfl, hP, hKK⟩ := hv
  have hx := B.exec
  have hb := B.bytes
  have hr := B.returns
  have hts0 := atoms_spec (ws := Cond.code yX9_turnMany cX9_turnMany 5 (some .int) :: GW) B.pre
  have hts : ∀ w ∈ GW, w.before _ s = true := fun w h => hts0 w (List.mem_cons_of_mem _ h)
  clear hts0
  have hown : s.vm.findClass RX9 = some m.cls := findClass_of_methodNamed B.named
  have hlocks := B.notSynchronized
  have hA : ∀ q, box b 272 q → box b 272 q := fun _ h => h
  have hS : va_S (box b 272) s.heap s.heap [] := va_S.rf
  have hl := lv_entry ([.ref (b + x0), .ref (b + x1), .ref (b + x2), .int x3]) (n := 5) (Nat.le_of_ble_eq_true rfl)
  rw [lg_entry_eq]
  generalize (lg_sl ([.ref (b + x0), .ref (b + x1), .ref (b + x2), .int x3]) ++ List.replicate (5 - (lg_sl ([.ref (b + x0), .ref (b + x1), .ref (b + x2), .int x3])).length) Slot.unset).toArray = ls at hl ⊢
  have hl : lv_has ls 5 [(0, .ref (b + x0)), (1, .ref (b + x1)), (2, .ref (b + x2)), (3, .int x3)] := hl
  generalize ([.ref (b + x0), .ref (b + x1), .ref (b + x2), .int x3] : List Value).toArray = av at hts ⊢
  show W p l e rmX9_turnMany s m av below meth c s.heap [] 0 0 _ _
  obtain ⟨QQ, hQQ⟩ : ∃ z, z = MQ below (va_Qi (fun r u => r = o1 ∧ u = (o2, L, R)) (QW D ce b kdC lnC 272) (box b 272)) av s 0 0 (box b 272) := ⟨_, rfl⟩
  rw [← hQQ]
  have hret : ∀ (r : Int32) (I1 : mI), some (r, I1) = some (o1, o2) → ∀ (H1 : Heap) (locs1 : List Loc) (ls1 : Array Slot) (pc1 : Nat), decode cX9_turnMany pc1 = .ok (.ireturn, 1) → va_P D vwCl (wd ce b kdC lnC 272 I1 L R) H1 → WT kdC R → va_S (box b 272) s.heap H1 locs1 → W p l e rmX9_turnMany s m av below meth c H1 locs1 0 0 QQ (F0 m pc1 ls1 [.int r]) := by
    intro r I1 hq H1 locs1 ls1 pc1 hd hP hT hS
    cases hq
    rw [hQQ]
    exact mm_iret hx hb hr hlocks hP hT hS hd
  unfold f_X9_turnMany at hf
  obtain ⟨H, hH⟩ : ∃ z, z = s.heap := ⟨_, rfl⟩
  obtain ⟨locs, hlo⟩ : ∃ z : List Loc, z = [] := ⟨_, rfl⟩
  have hP : va_P D vwCl (wd ce b kdC lnC 272 I L R) H := by rw [hH]; exact hP
  have hS : va_S (box b 272) s.heap H locs := by rw [hH, hlo]; exact hS
  rw [show W p l e rmX9_turnMany s m av below meth c s.heap [] 0 0 QQ = W p l e rmX9_turnMany s m av below meth c H locs 0 0 QQ by rw [hH, hlo]]
  clear hH hlo
  clear hQQ
  show W p l e rmX9_turnMany s m av below meth c H locs 0 0 QQ (F0 m 0 ls [])
  refine lv_iconst (v := (0 : Int32)) hx hb dX9_turnMany_0 (by decide) ?_
  refine lv_istore (lv' := [(4, .int (0 : Int32)), (0, .ref (b + x0)), (1, .ref (b + x1)), (2, .ref (b + x2)), (3, .int x3)]) hx hb dX9_turnMany_1 hl (Nat.le_of_ble_eq_true rfl) rfl (fun ls hl => ?_)
  have lp3 : ∀ (n : Nat) (x0 : Nat) (x1 : Nat) (x2 : Nat) (x3 : Int32) (x4 : Int32) (I : mI) (L : mL) (R : mR) (q : (Int32 × mI) ⊕ (mI)) (H : Heap) (locs : List Loc) (ls : Array Slot), va_P D vwCl (wd ce b kdC lnC 272 I L R) H → va_S (box b 272) s.heap H locs → WT kdC R → kdC x0 = 15 → kdC x1 = 13 → kdC x2 = 14 → lv_has ls 5 [(0, .ref (b + x0)), (1, .ref (b + x1)), (2, .ref (b + x2)), (3, .int x3), (4, .int x4)] → f_X9_turnMany_L3 n x0 x1 x2 x3 x4 I R = some q → (∀ (I1 : mI), some (Sum.inr I1) = some q → ∀ (H1 : Heap) (locs1 : List Loc) (ls1 : Array Slot), va_P D vwCl (wd ce b kdC lnC 272 I1 L R) H1 → va_S (box b 272) s.heap H1 locs1 → lv_has ls1 5 [(3, .int x3)] → W p l e rmX9_turnMany s m av below meth c H1 locs1 0 0 QQ (F0 m 52 ls1 [])) → (∀ (r : Int32) (I1 : mI), some (Sum.inl (r, I1)) = some q → ∀ (H1 : Heap) (locs1 : List Loc) (ls1 : Array Slot) (pc1 : Nat), decode cX9_turnMany pc1 = .ok (.ireturn, 1) → va_P D vwCl (wd ce b kdC lnC 272 I1 L R) H1 → WT kdC R → va_S (box b 272) s.heap H1 locs1 → W p l e rmX9_turnMany s m av below meth c H1 locs1 0 0 QQ (F0 m pc1 ls1 [.int r])) → W p l e rmX9_turnMany s m av below meth c H locs 0 0 QQ (F0 m 3 ls []) := by
    intro n
    induction n with
    | zero =>
      intro x0 x1 x2 x3 x4 I L R q H locs ls hP hS hT h0 h1 h2 hl hf kx kr
      exact absurd (show (none : Option ((Int32 × mI) ⊕ (mI))) = some _ from hf) (by simp)
    | succ n ih =>
      intro x0 x1 x2 x3 x4 I L R q H locs ls hP hS hT h0 h1 h2 hl hf kx kr
      rw [f_X9_turnMany_L3] at hf
      refine lv_iload hx hb dX9_turnMany_3 (lv_at hl 4 rfl) ?_
      refine lv_iload_n hx hb dX9_turnMany_5 rfl (lv_at hl 3 rfl) ?_
      refine lv_icmp_ge (tgt := 52) hx hb dX9_turnMany_6 (by decide) (fun c1 => ?_) (fun c1 => ?_)
      · have hf := ifT hf c1
        exact kx I hf H locs ls hP hS (lv_sub hl [3] rfl)
      · have hf := ifF hf c1
        refine lv_aload_n hx hb dX9_turnMany_9 rfl (lv_at hl 0 rfl) ?_
        refine lv_aload_n hx hb dX9_turnMany_10 rfl (lv_at hl 1 rfl) ?_
        refine lv_aload_n hx hb dX9_turnMany_11 rfl (lv_at hl 2 rfl) ?_
        obtain ⟨r2, I2, e2, hf⟩ := bd2_o hf
        refine mm_Vi (rest := []) hx hb hml hown hts hKK hP hS hA (kdC_lt h0 (Nat.succ_ne_zero _)) h0 (show vwCl[9]? = some (yX9_seek.cls, TX9, 4) from rfl) vkX9_24 (k_X9_seek l D ce b I L R hT x0 x1 x2 h0 h1 h2 r2 I2 e2) rfl hl.1 rfl (Nat.le_of_ble_eq_true rfl) ⟨rfl, rfl⟩ ⟨Nat.le_of_ble_eq_true rfl, Nat.le_of_ble_eq_true rfl⟩ ⟨Nat.zero_le _, Nat.zero_le _⟩ dX9_turnMany_12 (fun H locs hP hT hS => ?_)
        refine lv_if_eq (tgt := 35) hx hb dX9_turnMany_15 (by decide) (fun c3 => ?_) (fun c3 => ?_)
        · have hf := ifT hf c3
          refine lv_iload hx hb dX9_turnMany_35 (lv_at hl 4 rfl) ?_
          exact kr x4 I2 hf H locs ls _ dX9_turnMany_37 hP hT hS
        · have hf := ifF hf c3
          refine lv_aload_n hx hb dX9_turnMany_18 rfl (lv_at hl 0 rfl) ?_
          refine lv_aload_n hx hb dX9_turnMany_19 rfl (lv_at hl 1 rfl) ?_
          have t4 : kdC (R x1 0) = 4 := wt hT h1 rfl
          refine mm_getr hx hb hts hown hKK hP fk7_0 (Nat.le_of_ble_eq_true rfl) lkX9_28 (kdC_lt h1 (Nat.succ_ne_zero _)) h1 (nC t4 (Nat.succ_ne_zero _)) dX9_turnMany_20 ?_
          refine lv_aload_n hx hb dX9_turnMany_23 rfl (lv_at hl 0 rfl) ?_
          refine mm_geti hx hb hts hown hKK hP fk9_3 (Or.inl rfl) lkX9_34 (kdC_lt h0 (Nat.succ_ne_zero _)) h0 dX9_turnMany_24 ?_
          obtain ⟨g5, hf⟩ := grd hf
          have t6 : kdC (R (R x1 0) ((I2 x0 3)).toNatClampNeg) = 9 := wt hT t4 rfl
          refine mm_aald4 hx hb hKK hP (kdC_lt t4 (Nat.succ_ne_zero _)) t4 g5 (nC t6 (Nat.succ_ne_zero _)) dX9_turnMany_27 ?_
          refine lv_aload_n hx hb dX9_turnMany_28 rfl (lv_at hl 2 rfl) ?_
          obtain ⟨r7, I7, e7, hf⟩ := bd2_o hf
          refine mm_Vi (rest := []) hx hb hml hown hts hKK hP hS hA (kdC_lt h0 (Nat.succ_ne_zero _)) h0 (show vwCl[9]? = some (yX9_build.cls, TX9, 4) from rfl) vkX9_38 (k_X9_build l D ce b I2 L R hT x0 (R (R x1 0) ((I2 x0 3)).toNatClampNeg) x2 h0 t6 h2 r7 I7 e7) rfl hl.1 rfl (Nat.le_of_ble_eq_true rfl) ⟨rfl, rfl⟩ ⟨Nat.le_of_ble_eq_true rfl, Nat.le_of_ble_eq_true rfl⟩ ⟨Nat.zero_le _, Nat.zero_le _⟩ dX9_turnMany_29 (fun H locs hP hT hS => ?_)
          refine lv_if_ne (tgt := 38) hx hb dX9_turnMany_32 (by decide) (fun c8 => ?_) (fun c8 => ?_)
          · have hf := ifF hf c8
            refine lv_aload_n hx hb dX9_turnMany_38 rfl (lv_at hl 2 rfl) ?_
            refine lv_aload_n hx hb dX9_turnMany_39 rfl (lv_at hl 0 rfl) ?_
            have t9 : kdC (R x0 0) = 14 := wt hT h0 rfl
            refine mm_getr hx hb hts hown hKK hP fk9_0 (Nat.le_of_ble_eq_true rfl) lkX9_14 (kdC_lt h0 (Nat.succ_ne_zero _)) h0 (nC t9 (Nat.succ_ne_zero _)) dX9_turnMany_40 ?_
            obtain ⟨I10, e10, hf⟩ := bd1_o hf
            refine mm_Vv (rest := []) hx hb hml hown hts hKK hP hS hA (kdC_lt h2 (Nat.succ_ne_zero _)) h2 (show vwCl[8]? = some (yX8_copyFrom.cls, TX8, 3) from rfl) vkX9_42 (k_X8_copyFrom l D ce b I7 L R hT x2 (R x0 0) h2 t9 I10 e10) rfl hl.1 rfl (Nat.le_of_ble_eq_true rfl) ⟨rfl, rfl⟩ ⟨Nat.le_of_ble_eq_true rfl, Nat.le_of_ble_eq_true rfl⟩ ⟨Nat.zero_le _, Nat.zero_le _⟩ dX9_turnMany_43 (fun H locs hP hT hS => ?_)
            refine lv_iinc (v := (x4 + (1 : Int32))) (lv' := [(4, .int (x4 + (1 : Int32))), (0, .ref (b + x0)), (1, .ref (b + x1)), (2, .ref (b + x2)), (3, .int x3)]) hx hb dX9_turnMany_46 hl (k := 4) rfl rfl (Nat.le_of_ble_eq_true rfl) rfl (fun ls hl => ?_)
            refine lv_goto (tgt := 3) hx hb dX9_turnMany_49 (by decide) ?_
            exact ih x0 x1 x2 x3 (x4 + (1 : Int32)) I10 L R q H locs ls hP hS hT h0 h1 h2 (lv_sub hl [1, 2, 3, 4, 0] rfl) hf kx kr
          · have hf := ifT hf c8
            refine lv_iload hx hb dX9_turnMany_35 (lv_at hl 4 rfl) ?_
            exact kr x4 I7 hf H locs ls _ dX9_turnMany_37 hP hT hS
  obtain ⟨q_11, e_11, hf⟩ := bdS_o hf
  refine lp3 FU x0 x1 x2 x3 (0 : Int32) I L R q_11 H locs ls hP hS hT h0 h1 h2 (lv_sub hl [1, 2, 3, 4, 0] rfl) e_11 (fun I_11 hq H locs ls hP hS hl => ?_) (fun r_11 I_11 hq H locs ls pc1 hd hP hT hS => ?_)
  · have hf := elR1 hf (Option.some.inj hq).symm
    refine lv_iload_n hx hb dX9_turnMany_52 rfl (lv_at hl 0 rfl) ?_
    exact hret x3 I_11 hf H locs ls _ dX9_turnMany_53 hP hT hS
  · have hf := elL2 hf (Option.some.inj hq).symm
    exact hret r_11 I_11 hf H locs ls pc1 hd hP hT hS
def rmX10_turns : Room := { frames := 5, cells := 0, slots := 0, locals := 123 }
set_option maxHeartbeats 4000000 in
set_option maxRecDepth 100000 in
theorem k_X10_turns (l : Launch) (D : va_G) (ce : Nat → ClassId) (b : Nat) (I : mI) (L : mL) (R : mR) (hT : WT kdC R) (x0 : Nat) (x1 : Int32) (h0 : kdC x0 = 16) (o1 : Int32) (o2 : mI) (o3 : mR) (hf : f_X10_turns x0 x1 I R = some (o1, o2, o3)) : Met l yX10_turns (Cond.code yX10_turns cX10_turns 2 (some .int) :: GW) rmX10_turns (va_Pc [.ref (b + x0), .int x1] (PW D ce b kdC lnC 272 I L R)) (va_Qi (fun r u => r = o1 ∧ u = (o2, L, o3)) (QW D ce b kdC lnC 272) (box b 272)) 0 0 (box b 272) := by
  refine Met.ofW (cc := cX10_turns) (maxL := 2) (ret := (some .int)) (by decide) rfl ?_
  intro p e s m args below meth c s₁ B hml hv
  obtain ⟨rfl, hP, hKK⟩ := hv
  have hx := B.exec
  have hb := B.bytes
  have hr := B.returns
  have hts0 := atoms_spec (ws := Cond.code yX10_turns cX10_turns 2 (some .int) :: GW) B.pre
  have hts : ∀ w ∈ GW, w.before _ s = true := fun w h => hts0 w (List.mem_cons_of_mem _ h)
  clear hts0
  have hown : s.vm.findClass RX10 = some m.cls := findClass_of_methodNamed B.named
  have hlocks := B.notSynchronized
  have hA : ∀ q, box b 272 q → box b 272 q := fun _ h => h
  have hS : va_S (box b 272) s.heap s.heap [] := va_S.rf
  have hl := lv_entry ([.ref (b + x0), .int x1]) (n := 2) (Nat.le_of_ble_eq_true rfl)
  rw [lg_entry_eq]
  generalize (lg_sl ([.ref (b + x0), .int x1]) ++ List.replicate (2 - (lg_sl ([.ref (b + x0), .int x1])).length) Slot.unset).toArray = ls at hl ⊢
  have hl : lv_has ls 2 [(0, .ref (b + x0)), (1, .int x1)] := hl
  generalize ([.ref (b + x0), .int x1] : List Value).toArray = av at hts ⊢
  show W p l e rmX10_turns s m av below meth c s.heap [] 0 0 _ _
  obtain ⟨QQ, hQQ⟩ : ∃ z, z = MQ below (va_Qi (fun r u => r = o1 ∧ u = (o2, L, o3)) (QW D ce b kdC lnC 272) (box b 272)) av s 0 0 (box b 272) := ⟨_, rfl⟩
  rw [← hQQ]
  have hret : ∀ (r : Int32) (I1 : mI) (R1 : mR), some (r, I1, R1) = some (o1, o2, o3) → ∀ (H1 : Heap) (locs1 : List Loc) (ls1 : Array Slot) (pc1 : Nat), decode cX10_turns pc1 = .ok (.ireturn, 1) → va_P D vwCl (wd ce b kdC lnC 272 I1 L R1) H1 → WT kdC R1 → va_S (box b 272) s.heap H1 locs1 → W p l e rmX10_turns s m av below meth c H1 locs1 0 0 QQ (F0 m pc1 ls1 [.int r]) := by
    intro r I1 R1 hq H1 locs1 ls1 pc1 hd hP hT hS
    cases hq
    rw [hQQ]
    exact mm_iret hx hb hr hlocks hP hT hS hd
  unfold f_X10_turns at hf
  obtain ⟨H, hH⟩ : ∃ z, z = s.heap := ⟨_, rfl⟩
  obtain ⟨locs, hlo⟩ : ∃ z : List Loc, z = [] := ⟨_, rfl⟩
  have hP : va_P D vwCl (wd ce b kdC lnC 272 I L R) H := by rw [hH]; exact hP
  have hS : va_S (box b 272) s.heap H locs := by rw [hH, hlo]; exact hS
  rw [show W p l e rmX10_turns s m av below meth c s.heap [] 0 0 QQ = W p l e rmX10_turns s m av below meth c H locs 0 0 QQ by rw [hH, hlo]]
  clear hH hlo
  clear hQQ
  show W p l e rmX10_turns s m av below meth c H locs 0 0 QQ (F0 m 0 ls [])
  refine lv_iload_n hx hb dX10_turns_0 rfl (lv_at hl 1 rfl) ?_
  refine jnE hf (fun j10_1 ej_1 hf => ?_)
  have hJ10_1 : ∀ (H : Heap) (locs : List Loc) (ls : Array Slot), va_P D vwCl (wd ce b kdC lnC 272 I L R) H → va_S (box b 272) s.heap H locs → lv_has ls 2 [(0, .ref (b + x0))] → j10_1  = some (o1, o2, o3) → W p l e rmX10_turns s m av below meth c H locs 0 0 QQ (F0 m 10 ls []) := by
    intro  H locs ls hP hS  hl hf
    rw [ej_1] at hf
    try dsimp only at hf
    refine lv_aload_n hx hb dX10_turns_10 rfl (lv_at hl 0 rfl) ?_
    obtain ⟨r2, I2, e2, hf⟩ := bd2_o hf
    refine mm_Vi (rest := []) hx hb hml hown hts hKK hP hS hA (kdC_lt h0 (Nat.succ_ne_zero _)) h0 (show vwCl[10]? = some (yX10_refuseBad.cls, TX10, 15) from rfl) vkX10_81 (k_X10_refuseBad l D ce b I L R hT x0 h0 r2 I2 e2) rfl hl.1 rfl (Nat.le_of_ble_eq_true rfl) ⟨rfl, rfl⟩ ⟨Nat.le_of_ble_eq_true rfl, Nat.le_of_ble_eq_true rfl⟩ ⟨Nat.zero_le _, Nat.zero_le _⟩ dX10_turns_11 (fun H locs hP hT hS => ?_)
    exact hret r2 I2 R hf H locs ls _ dX10_turns_14 hP hT hS
  clear ej_1
  refine lv_if_lt (tgt := 10) hx hb dX10_turns_1 (by decide) (fun c3 => ?_) (fun c3 => ?_)
  · have hf := ifT hf c3
    exact hJ10_1  H locs ls hP hS  (lv_sub hl [0] rfl) hf
  · have hf := ifF hf c3
    refine lv_iload_n hx hb dX10_turns_4 rfl (lv_at hl 1 rfl) ?_
    refine lv_bipush (v := (30 : Int32)) hx hb dX10_turns_5 (by decide) ?_
    refine lv_icmp_le (tgt := 15) hx hb dX10_turns_7 (by decide) (fun c4 => ?_) (fun c4 => ?_)
    · have hf := ifT hf c4
      refine lv_aload_n hx hb dX10_turns_15 rfl (lv_at hl 0 rfl) ?_
      have t5 : kdC (R x0 1) = 7 := wt hT h0 rfl
      refine mm_getr hx hb hts hown hKK hP fk10_1 (Nat.le_of_ble_eq_true rfl) lkX10_19 (kdC_lt h0 (Nat.succ_ne_zero _)) h0 (nC t5 (Nat.succ_ne_zero _)) dX10_turns_16 ?_
      refine lv_aload_n hx hb dX10_turns_19 rfl (lv_at hl 0 rfl) ?_
      have t6 : kdC (R x0 0) = 13 := wt hT h0 rfl
      refine mm_getr hx hb hts hown hKK hP fk10_0 (Nat.le_of_ble_eq_true rfl) lkX10_10 (kdC_lt h0 (Nat.succ_ne_zero _)) h0 (nC t6 (Nat.succ_ne_zero _)) dX10_turns_20 ?_
      obtain ⟨I7, R7, e7, hf⟩ := bd2_o hf
      refine mm_Vv (rest := []) hx hb hml hown hts hKK hP hS hA (kdC_lt t5 (Nat.succ_ne_zero _)) t5 (show vwCl[1]? = some (yX1_keep.cls, TX1, 2) from rfl) vkX10_101 (k_X1_keep l D ce b I L R hT (R x0 1) (R x0 0) t5 t6 I7 R7 e7) rfl hl.1 rfl (Nat.le_of_ble_eq_true rfl) ⟨rfl, rfl⟩ ⟨Nat.le_of_ble_eq_true rfl, Nat.le_of_ble_eq_true rfl⟩ ⟨Nat.zero_le _, Nat.zero_le _⟩ dX10_turns_23 (fun H locs hP hT hS => ?_)
      refine lv_aload_n hx hb dX10_turns_26 rfl (lv_at hl 0 rfl) ?_
      have t8 : kdC (R7 x0 6) = 15 := wt hT h0 rfl
      refine mm_getr hx hb hts hown hKK hP fk10_6 (Nat.le_of_ble_eq_true rfl) lkX10_54 (kdC_lt h0 (Nat.succ_ne_zero _)) h0 (nC t8 (Nat.succ_ne_zero _)) dX10_turns_27 ?_
      refine lv_aload_n hx hb dX10_turns_30 rfl (lv_at hl 0 rfl) ?_
      have t9 : kdC (R7 x0 0) = 13 := wt hT h0 rfl
      refine mm_getr hx hb hts hown hKK hP fk10_0 (Nat.le_of_ble_eq_true rfl) lkX10_10 (kdC_lt h0 (Nat.succ_ne_zero _)) h0 (nC t9 (Nat.succ_ne_zero _)) dX10_turns_31 ?_
      refine lv_aload_n hx hb dX10_turns_34 rfl (lv_at hl 0 rfl) ?_
      refine mm_getr hx hb hts hown hKK hP fk10_0 (Nat.le_of_ble_eq_true rfl) lkX10_10 (kdC_lt h0 (Nat.succ_ne_zero _)) h0 (nC t9 (Nat.succ_ne_zero _)) dX10_turns_35 ?_
      have t10 : kdC (R7 (R7 x0 0) 1) = 14 := wt hT t9 rfl
      refine mm_getr hx hb hts hown hKK hP fk7_1 (Nat.le_of_ble_eq_true rfl) lkX10_75 (kdC_lt t9 (Nat.succ_ne_zero _)) t9 (nC t10 (Nat.succ_ne_zero _)) dX10_turns_38 ?_
      refine lv_iload_n hx hb dX10_turns_41 rfl (lv_at hl 1 rfl) ?_
      obtain ⟨r11, I11, e11, hf⟩ := bd2_o hf
      refine mm_Vi (rest := []) hx hb hml hown hts hKK hP hS hA (kdC_lt t8 (Nat.succ_ne_zero _)) t8 (show vwCl[9]? = some (yX9_turnMany.cls, TX9, 4) from rfl) vkX10_220 (k_X9_turnMany l D ce b I7 L R7 hT (R7 x0 6) (R7 x0 0) (R7 (R7 x0 0) 1) x1 t8 t9 t10 r11 I11 e11) rfl hl.1 rfl (Nat.le_of_ble_eq_true rfl) ⟨rfl, rfl⟩ ⟨Nat.le_of_ble_eq_true rfl, Nat.le_of_ble_eq_true rfl⟩ ⟨Nat.zero_le _, Nat.zero_le _⟩ dX10_turns_42 (fun H locs hP hT hS => ?_)
      exact hret r11 I11 R7 hf H locs ls _ dX10_turns_45 hP hT hS
    · have hf := ifF hf c4
      exact hJ10_1  H locs ls hP hS  (lv_sub hl [0] rfl) hf
def rmX10_settles : Room := { frames := 5, cells := 0, slots := 0, locals := 123 }
set_option maxHeartbeats 4000000 in
set_option maxRecDepth 100000 in
theorem k_X10_settles (l : Launch) (D : va_G) (ce : Nat → ClassId) (b : Nat) (I : mI) (L : mL) (R : mR) (hT : WT kdC R) (x0 : Nat) (h0 : kdC x0 = 16) (o1 : Int32) (o2 : mI) (hf : f_X10_settles x0 I R = some (o1, o2)) : Met l yX10_settles (Cond.code yX10_settles cX10_settles 2 (some .int) :: GW) rmX10_settles (va_Pc [.ref (b + x0)] (PW D ce b kdC lnC 272 I L R)) (va_Qi (fun r u => r = o1 ∧ u = (o2, L, R)) (QW D ce b kdC lnC 272) (box b 272)) 0 0 (box b 272) := by
  refine Met.ofW (cc := cX10_settles) (maxL := 2) (ret := (some .int)) (by decide) rfl ?_
  intro p e s m args below meth c s₁ B hml hv
  obtain ⟨rfl, hP, hKK⟩ := hv
  have hx := B.exec
  have hb := B.bytes
  have hr := B.returns
  have hts0 := atoms_spec (ws := Cond.code yX10_settles cX10_settles 2 (some .int) :: GW) B.pre
  have hts : ∀ w ∈ GW, w.before _ s = true := fun w h => hts0 w (List.mem_cons_of_mem _ h)
  clear hts0
  have hown : s.vm.findClass RX10 = some m.cls := findClass_of_methodNamed B.named
  have hlocks := B.notSynchronized
  have hA : ∀ q, box b 272 q → box b 272 q := fun _ h => h
  have hS : va_S (box b 272) s.heap s.heap [] := va_S.rf
  have hl := lv_entry ([.ref (b + x0)]) (n := 2) (Nat.le_of_ble_eq_true rfl)
  rw [lg_entry_eq]
  generalize (lg_sl ([.ref (b + x0)]) ++ List.replicate (2 - (lg_sl ([.ref (b + x0)])).length) Slot.unset).toArray = ls at hl ⊢
  have hl : lv_has ls 2 [(0, .ref (b + x0))] := hl
  generalize ([.ref (b + x0)] : List Value).toArray = av at hts ⊢
  show W p l e rmX10_settles s m av below meth c s.heap [] 0 0 _ _
  obtain ⟨QQ, hQQ⟩ : ∃ z, z = MQ below (va_Qi (fun r u => r = o1 ∧ u = (o2, L, R)) (QW D ce b kdC lnC 272) (box b 272)) av s 0 0 (box b 272) := ⟨_, rfl⟩
  rw [← hQQ]
  have hret : ∀ (r : Int32) (I1 : mI), some (r, I1) = some (o1, o2) → ∀ (H1 : Heap) (locs1 : List Loc) (ls1 : Array Slot) (pc1 : Nat), decode cX10_settles pc1 = .ok (.ireturn, 1) → va_P D vwCl (wd ce b kdC lnC 272 I1 L R) H1 → WT kdC R → va_S (box b 272) s.heap H1 locs1 → W p l e rmX10_settles s m av below meth c H1 locs1 0 0 QQ (F0 m pc1 ls1 [.int r]) := by
    intro r I1 hq H1 locs1 ls1 pc1 hd hP hT hS
    cases hq
    rw [hQQ]
    exact mm_iret hx hb hr hlocks hP hT hS hd
  unfold f_X10_settles at hf
  obtain ⟨H, hH⟩ : ∃ z, z = s.heap := ⟨_, rfl⟩
  obtain ⟨locs, hlo⟩ : ∃ z : List Loc, z = [] := ⟨_, rfl⟩
  have hP : va_P D vwCl (wd ce b kdC lnC 272 I L R) H := by rw [hH]; exact hP
  have hS : va_S (box b 272) s.heap H locs := by rw [hH, hlo]; exact hS
  rw [show W p l e rmX10_settles s m av below meth c s.heap [] 0 0 QQ = W p l e rmX10_settles s m av below meth c H locs 0 0 QQ by rw [hH, hlo]]
  clear hH hlo
  clear hQQ
  show W p l e rmX10_settles s m av below meth c H locs 0 0 QQ (F0 m 0 ls [])
  refine lv_aload_n hx hb dX10_settles_0 rfl (lv_at hl 0 rfl) ?_
  have t1 : kdC (R x0 7) = 14 := wt hT h0 rfl
  refine mm_getr hx hb hts hown hKK hP fk10_7 (Nat.le_of_ble_eq_true rfl) lkX10_63 (kdC_lt h0 (Nat.succ_ne_zero _)) h0 (nC t1 (Nat.succ_ne_zero _)) dX10_settles_1 ?_
  refine lv_aload_n hx hb dX10_settles_4 rfl (lv_at hl 0 rfl) ?_
  have t2 : kdC (R x0 0) = 13 := wt hT h0 rfl
  refine mm_getr hx hb hts hown hKK hP fk10_0 (Nat.le_of_ble_eq_true rfl) lkX10_10 (kdC_lt h0 (Nat.succ_ne_zero _)) h0 (nC t2 (Nat.succ_ne_zero _)) dX10_settles_5 ?_
  have t3 : kdC (R (R x0 0) 1) = 14 := wt hT t2 rfl
  refine mm_getr hx hb hts hown hKK hP fk7_1 (Nat.le_of_ble_eq_true rfl) lkX10_75 (kdC_lt t2 (Nat.succ_ne_zero _)) t2 (nC t3 (Nat.succ_ne_zero _)) dX10_settles_8 ?_
  obtain ⟨I4, e4, hf⟩ := bd1_o hf
  refine mm_Vv (rest := []) hx hb hml hown hts hKK hP hS hA (kdC_lt t1 (Nat.succ_ne_zero _)) t1 (show vwCl[8]? = some (yX8_copyFrom.cls, TX8, 3) from rfl) vkX10_115 (k_X8_copyFrom l D ce b I L R hT (R x0 7) (R (R x0 0) 1) t1 t3 I4 e4) rfl hl.1 rfl (Nat.le_of_ble_eq_true rfl) ⟨rfl, rfl⟩ ⟨Nat.le_of_ble_eq_true rfl, Nat.le_of_ble_eq_true rfl⟩ ⟨Nat.zero_le _, Nat.zero_le _⟩ dX10_settles_11 (fun H locs hP hT hS => ?_)
  refine lv_aload_n hx hb dX10_settles_14 rfl (lv_at hl 0 rfl) ?_
  have t5 : kdC (R x0 6) = 15 := wt hT h0 rfl
  refine mm_getr hx hb hts hown hKK hP fk10_6 (Nat.le_of_ble_eq_true rfl) lkX10_54 (kdC_lt h0 (Nat.succ_ne_zero _)) h0 (nC t5 (Nat.succ_ne_zero _)) dX10_settles_15 ?_
  refine lv_aload_n hx hb dX10_settles_18 rfl (lv_at hl 0 rfl) ?_
  refine mm_getr hx hb hts hown hKK hP fk10_0 (Nat.le_of_ble_eq_true rfl) lkX10_10 (kdC_lt h0 (Nat.succ_ne_zero _)) h0 (nC t2 (Nat.succ_ne_zero _)) dX10_settles_19 ?_
  refine lv_aload_n hx hb dX10_settles_22 rfl (lv_at hl 0 rfl) ?_
  refine mm_getr hx hb hts hown hKK hP fk10_7 (Nat.le_of_ble_eq_true rfl) lkX10_63 (kdC_lt h0 (Nat.succ_ne_zero _)) h0 (nC t1 (Nat.succ_ne_zero _)) dX10_settles_23 ?_
  refine lv_bipush (v := (30 : Int32)) hx hb dX10_settles_26 (by decide) ?_
  obtain ⟨r6, I6, e6, hf⟩ := bd2_o hf
  refine mm_Vi (rest := []) hx hb hml hown hts hKK hP hS hA (kdC_lt t5 (Nat.succ_ne_zero _)) t5 (show vwCl[9]? = some (yX9_turnMany.cls, TX9, 4) from rfl) vkX10_220 (k_X9_turnMany l D ce b I4 L R hT (R x0 6) (R x0 0) (R x0 7) (30 : Int32) t5 t2 t1 r6 I6 e6) rfl hl.1 rfl (Nat.le_of_ble_eq_true rfl) ⟨rfl, rfl⟩ ⟨Nat.le_of_ble_eq_true rfl, Nat.le_of_ble_eq_true rfl⟩ ⟨Nat.zero_le _, Nat.zero_le _⟩ dX10_settles_28 (fun H locs hP hT hS => ?_)
  refine lv_istore_n (lv' := [(1, .int r6), (0, .ref (b + x0))]) hx hb dX10_settles_31 rfl hl (Nat.le_of_ble_eq_true rfl) rfl (fun ls hl => ?_)
  refine lv_aload_n hx hb dX10_settles_32 rfl (lv_at hl 1 rfl) ?_
  refine mm_getr hx hb hts hown hKK hP fk10_6 (Nat.le_of_ble_eq_true rfl) lkX10_54 (kdC_lt h0 (Nat.succ_ne_zero _)) h0 (nC t5 (Nat.succ_ne_zero _)) dX10_settles_33 ?_
  refine lv_aload_n hx hb dX10_settles_36 rfl (lv_at hl 1 rfl) ?_
  refine mm_getr hx hb hts hown hKK hP fk10_0 (Nat.le_of_ble_eq_true rfl) lkX10_10 (kdC_lt h0 (Nat.succ_ne_zero _)) h0 (nC t2 (Nat.succ_ne_zero _)) dX10_settles_37 ?_
  refine lv_aload_n hx hb dX10_settles_40 rfl (lv_at hl 1 rfl) ?_
  refine mm_getr hx hb hts hown hKK hP fk10_7 (Nat.le_of_ble_eq_true rfl) lkX10_63 (kdC_lt h0 (Nat.succ_ne_zero _)) h0 (nC t1 (Nat.succ_ne_zero _)) dX10_settles_41 ?_
  obtain ⟨r7, I7, e7, hf⟩ := bd2_o hf
  refine mm_Vi (rest := []) hx hb hml hown hts hKK hP hS hA (kdC_lt t5 (Nat.succ_ne_zero _)) t5 (show vwCl[9]? = some (yX9_seek.cls, TX9, 4) from rfl) vkX10_224 (k_X9_seek l D ce b I6 L R hT (R x0 6) (R x0 0) (R x0 7) t5 t2 t1 r7 I7 e7) rfl hl.1 rfl (Nat.le_of_ble_eq_true rfl) ⟨rfl, rfl⟩ ⟨Nat.le_of_ble_eq_true rfl, Nat.le_of_ble_eq_true rfl⟩ ⟨Nat.zero_le _, Nat.zero_le _⟩ dX10_settles_44 (fun H locs hP hT hS => ?_)
  refine lv_if_eq (tgt := 54) hx hb dX10_settles_47 (by decide) (fun c8 => ?_) (fun c8 => ?_)
  · have hf := ifT hf c8
    refine lv_iload_n hx hb dX10_settles_54 rfl (lv_at hl 0 rfl) ?_
    exact hret r6 I7 hf H locs ls _ dX10_settles_55 hP hT hS
  · have hf := ifF hf c8
    refine lv_iconst (v := (-1 : Int32)) hx hb dX10_settles_50 (by decide) ?_
    refine lv_goto (tgt := 55) hx hb dX10_settles_51 (by decide) ?_
    exact hret (-1 : Int32) I7 hf H locs ls _ dX10_settles_55 hP hT hS
def rmX10_next : Room := { frames := 4, cells := 0, slots := 0, locals := 99 }
set_option maxHeartbeats 4000000 in
set_option maxRecDepth 100000 in
theorem k_X10_next (l : Launch) (D : va_G) (ce : Nat → ClassId) (b : Nat) (I : mI) (L : mL) (R : mR) (hT : WT kdC R) (x0 : Nat) (x1 : Int32) (h0 : kdC x0 = 16) (o1 : Int32) (o2 : mI) (hf : f_X10_next x0 x1 I R = some (o1, o2)) : Met l yX10_next (Cond.code yX10_next cX10_next 2 (some .int) :: GW) rmX10_next (va_Pc [.ref (b + x0), .int x1] (PW D ce b kdC lnC 272 I L R)) (va_Qi (fun r u => r = o1 ∧ u = (o2, L, R)) (QW D ce b kdC lnC 272) (box b 272)) 0 0 (box b 272) := by
  refine Met.ofW (cc := cX10_next) (maxL := 2) (ret := (some .int)) (by decide) rfl ?_
  intro p e s m args below meth c s₁ B hml hv
  obtain ⟨rfl, hP, hKK⟩ := hv
  have hx := B.exec
  have hb := B.bytes
  have hr := B.returns
  have hts0 := atoms_spec (ws := Cond.code yX10_next cX10_next 2 (some .int) :: GW) B.pre
  have hts : ∀ w ∈ GW, w.before _ s = true := fun w h => hts0 w (List.mem_cons_of_mem _ h)
  clear hts0
  have hown : s.vm.findClass RX10 = some m.cls := findClass_of_methodNamed B.named
  have hlocks := B.notSynchronized
  have hA : ∀ q, box b 272 q → box b 272 q := fun _ h => h
  have hS : va_S (box b 272) s.heap s.heap [] := va_S.rf
  have hl := lv_entry ([.ref (b + x0), .int x1]) (n := 2) (Nat.le_of_ble_eq_true rfl)
  rw [lg_entry_eq]
  generalize (lg_sl ([.ref (b + x0), .int x1]) ++ List.replicate (2 - (lg_sl ([.ref (b + x0), .int x1])).length) Slot.unset).toArray = ls at hl ⊢
  have hl : lv_has ls 2 [(0, .ref (b + x0)), (1, .int x1)] := hl
  generalize ([.ref (b + x0), .int x1] : List Value).toArray = av at hts ⊢
  show W p l e rmX10_next s m av below meth c s.heap [] 0 0 _ _
  obtain ⟨QQ, hQQ⟩ : ∃ z, z = MQ below (va_Qi (fun r u => r = o1 ∧ u = (o2, L, R)) (QW D ce b kdC lnC 272) (box b 272)) av s 0 0 (box b 272) := ⟨_, rfl⟩
  rw [← hQQ]
  have hret : ∀ (r : Int32) (I1 : mI), some (r, I1) = some (o1, o2) → ∀ (H1 : Heap) (locs1 : List Loc) (ls1 : Array Slot) (pc1 : Nat), decode cX10_next pc1 = .ok (.ireturn, 1) → va_P D vwCl (wd ce b kdC lnC 272 I1 L R) H1 → WT kdC R → va_S (box b 272) s.heap H1 locs1 → W p l e rmX10_next s m av below meth c H1 locs1 0 0 QQ (F0 m pc1 ls1 [.int r]) := by
    intro r I1 hq H1 locs1 ls1 pc1 hd hP hT hS
    cases hq
    rw [hQQ]
    exact mm_iret hx hb hr hlocks hP hT hS hd
  unfold f_X10_next at hf
  obtain ⟨H, hH⟩ : ∃ z, z = s.heap := ⟨_, rfl⟩
  obtain ⟨locs, hlo⟩ : ∃ z : List Loc, z = [] := ⟨_, rfl⟩
  have hP : va_P D vwCl (wd ce b kdC lnC 272 I L R) H := by rw [hH]; exact hP
  have hS : va_S (box b 272) s.heap H locs := by rw [hH, hlo]; exact hS
  rw [show W p l e rmX10_next s m av below meth c s.heap [] 0 0 QQ = W p l e rmX10_next s m av below meth c H locs 0 0 QQ by rw [hH, hlo]]
  clear hH hlo
  clear hQQ
  show W p l e rmX10_next s m av below meth c H locs 0 0 QQ (F0 m 0 ls [])
  refine lv_iload_n hx hb dX10_next_0 rfl (lv_at hl 1 rfl) ?_
  refine jnE hf (fun j9_1 ej_1 hf => ?_)
  have hJ9_1 : ∀ (H : Heap) (locs : List Loc) (ls : Array Slot), va_P D vwCl (wd ce b kdC lnC 272 I L R) H → va_S (box b 272) s.heap H locs → lv_has ls 2 [(0, .ref (b + x0))] → j9_1  = some (o1, o2) → W p l e rmX10_next s m av below meth c H locs 0 0 QQ (F0 m 9 ls []) := by
    intro  H locs ls hP hS  hl hf
    rw [ej_1] at hf
    try dsimp only at hf
    refine lv_aload_n hx hb dX10_next_9 rfl (lv_at hl 0 rfl) ?_
    obtain ⟨r2, I2, e2, hf⟩ := bd2_o hf
    refine mm_Vi (rest := []) hx hb hml hown hts hKK hP hS hA (kdC_lt h0 (Nat.succ_ne_zero _)) h0 (show vwCl[10]? = some (yX10_refuseBad.cls, TX10, 15) from rfl) vkX10_81 (k_X10_refuseBad l D ce b I L R hT x0 h0 r2 I2 e2) rfl hl.1 rfl (Nat.le_of_ble_eq_true rfl) ⟨rfl, rfl⟩ ⟨Nat.le_of_ble_eq_true rfl, Nat.le_of_ble_eq_true rfl⟩ ⟨Nat.zero_le _, Nat.zero_le _⟩ dX10_next_10 (fun H locs hP hT hS => ?_)
    exact hret r2 I2 hf H locs ls _ dX10_next_13 hP hT hS
  clear ej_1
  refine lv_if_lt (tgt := 9) hx hb dX10_next_1 (by decide) (fun c3 => ?_) (fun c3 => ?_)
  · have hf := ifT hf c3
    exact hJ9_1  H locs ls hP hS  (lv_sub hl [0] rfl) hf
  · have hf := ifF hf c3
    refine lv_iload_n hx hb dX10_next_4 rfl (lv_at hl 1 rfl) ?_
    refine lv_iconst (v := (1 : Int32)) hx hb dX10_next_5 (by decide) ?_
    refine lv_icmp_le (tgt := 14) hx hb dX10_next_6 (by decide) (fun c4 => ?_) (fun c4 => ?_)
    · have hf := ifT hf c4
      refine lv_aload_n hx hb dX10_next_14 rfl (lv_at hl 0 rfl) ?_
      have t5 : kdC (R x0 6) = 15 := wt hT h0 rfl
      refine mm_getr hx hb hts hown hKK hP fk10_6 (Nat.le_of_ble_eq_true rfl) lkX10_54 (kdC_lt h0 (Nat.succ_ne_zero _)) h0 (nC t5 (Nat.succ_ne_zero _)) dX10_next_15 ?_
      refine lv_aload_n hx hb dX10_next_18 rfl (lv_at hl 0 rfl) ?_
      have t6 : kdC (R x0 0) = 13 := wt hT h0 rfl
      refine mm_getr hx hb hts hown hKK hP fk10_0 (Nat.le_of_ble_eq_true rfl) lkX10_10 (kdC_lt h0 (Nat.succ_ne_zero _)) h0 (nC t6 (Nat.succ_ne_zero _)) dX10_next_19 ?_
      refine lv_aload_n hx hb dX10_next_22 rfl (lv_at hl 0 rfl) ?_
      refine mm_getr hx hb hts hown hKK hP fk10_0 (Nat.le_of_ble_eq_true rfl) lkX10_10 (kdC_lt h0 (Nat.succ_ne_zero _)) h0 (nC t6 (Nat.succ_ne_zero _)) dX10_next_23 ?_
      have t7 : kdC (R (R x0 0) 1) = 14 := wt hT t6 rfl
      refine mm_getr hx hb hts hown hKK hP fk7_1 (Nat.le_of_ble_eq_true rfl) lkX10_75 (kdC_lt t6 (Nat.succ_ne_zero _)) t6 (nC t7 (Nat.succ_ne_zero _)) dX10_next_26 ?_
      obtain ⟨r8, I8, e8, hf⟩ := bd2_o hf
      refine mm_Vi (rest := []) hx hb hml hown hts hKK hP hS hA (kdC_lt t5 (Nat.succ_ne_zero _)) t5 (show vwCl[9]? = some (yX9_seek.cls, TX9, 4) from rfl) vkX10_224 (k_X9_seek l D ce b I L R hT (R x0 6) (R x0 0) (R (R x0 0) 1) t5 t6 t7 r8 I8 e8) rfl hl.1 rfl (Nat.le_of_ble_eq_true rfl) ⟨rfl, rfl⟩ ⟨Nat.le_of_ble_eq_true rfl, Nat.le_of_ble_eq_true rfl⟩ ⟨Nat.zero_le _, Nat.zero_le _⟩ dX10_next_29 (fun H locs hP hT hS => ?_)
      refine lv_if_ne (tgt := 37) hx hb dX10_next_32 (by decide) (fun c9 => ?_) (fun c9 => ?_)
      · have hf := ifF hf c9
        refine lv_iload_n hx hb dX10_next_37 rfl (lv_at hl 1 rfl) ?_
        refine lv_if_ne (tgt := 51) hx hb dX10_next_38 (by decide) (fun c10 => ?_) (fun c10 => ?_)
        · have hf := ifF hf c10
          refine lv_aload_n hx hb dX10_next_51 rfl (lv_at hl 0 rfl) ?_
          refine mm_getr hx hb hts hown hKK hP fk10_6 (Nat.le_of_ble_eq_true rfl) lkX10_54 (kdC_lt h0 (Nat.succ_ne_zero _)) h0 (nC t5 (Nat.succ_ne_zero _)) dX10_next_52 ?_
          refine mm_geti hx hb hts hown hKK hP fk9_2 (Or.inl rfl) lkX10_231 (kdC_lt t5 (Nat.succ_ne_zero _)) t5 dX10_next_55 ?_
          exact hret (I8 (R x0 6) 2) I8 hf H locs ls _ dX10_next_58 hP hT hS
        · have hf := ifT hf c10
          refine lv_aload_n hx hb dX10_next_41 rfl (lv_at hl 0 rfl) ?_
          refine mm_getr hx hb hts hown hKK hP fk10_6 (Nat.le_of_ble_eq_true rfl) lkX10_54 (kdC_lt h0 (Nat.succ_ne_zero _)) h0 (nC t5 (Nat.succ_ne_zero _)) dX10_next_42 ?_
          refine mm_geti hx hb hts hown hKK hP fk9_3 (Or.inl rfl) lkX10_228 (kdC_lt t5 (Nat.succ_ne_zero _)) t5 dX10_next_45 ?_
          refine lv_goto (tgt := 58) hx hb dX10_next_48 (by decide) ?_
          exact hret (I8 (R x0 6) 3) I8 hf H locs ls _ dX10_next_58 hP hT hS
      · have hf := ifT hf c9
        refine lv_iconst (v := (-1 : Int32)) hx hb dX10_next_35 (by decide) ?_
        exact hret (-1 : Int32) I8 hf H locs ls _ dX10_next_36 hP hT hS
    · have hf := ifF hf c4
      exact hJ9_1  H locs ls hP hS  (lv_sub hl [0] rfl) hf
def rmX10_letter : Room := { frames := 1, cells := 0, slots := 0, locals := 20 }
set_option maxHeartbeats 4000000 in
set_option maxRecDepth 100000 in
theorem k_X10_letter (l : Launch) (D : va_G) (ce : Nat → ClassId) (b : Nat) (I : mI) (L : mL) (R : mR) (hT : WT kdC R) (x0 : Nat) (x1 : Int32) (h0 : kdC x0 = 16) (o1 : Int32) (o2 : mI) (hf : f_X10_letter x0 x1 I R = some (o1, o2)) : Met l yX10_letter (Cond.code yX10_letter cX10_letter 2 (some .int) :: GW) rmX10_letter (va_Pc [.ref (b + x0), .int x1] (PW D ce b kdC lnC 272 I L R)) (va_Qi (fun r u => r = o1 ∧ u = (o2, L, R)) (QW D ce b kdC lnC 272) (box b 272)) 0 0 (box b 272) := by
  refine Met.ofW (cc := cX10_letter) (maxL := 2) (ret := (some .int)) (by decide) rfl ?_
  intro p e s m args below meth c s₁ B hml hv
  obtain ⟨rfl, hP, hKK⟩ := hv
  have hx := B.exec
  have hb := B.bytes
  have hr := B.returns
  have hts0 := atoms_spec (ws := Cond.code yX10_letter cX10_letter 2 (some .int) :: GW) B.pre
  have hts : ∀ w ∈ GW, w.before _ s = true := fun w h => hts0 w (List.mem_cons_of_mem _ h)
  clear hts0
  have hown : s.vm.findClass RX10 = some m.cls := findClass_of_methodNamed B.named
  have hlocks := B.notSynchronized
  have hA : ∀ q, box b 272 q → box b 272 q := fun _ h => h
  have hS : va_S (box b 272) s.heap s.heap [] := va_S.rf
  have hl := lv_entry ([.ref (b + x0), .int x1]) (n := 2) (Nat.le_of_ble_eq_true rfl)
  rw [lg_entry_eq]
  generalize (lg_sl ([.ref (b + x0), .int x1]) ++ List.replicate (2 - (lg_sl ([.ref (b + x0), .int x1])).length) Slot.unset).toArray = ls at hl ⊢
  have hl : lv_has ls 2 [(0, .ref (b + x0)), (1, .int x1)] := hl
  generalize ([.ref (b + x0), .int x1] : List Value).toArray = av at hts ⊢
  show W p l e rmX10_letter s m av below meth c s.heap [] 0 0 _ _
  obtain ⟨QQ, hQQ⟩ : ∃ z, z = MQ below (va_Qi (fun r u => r = o1 ∧ u = (o2, L, R)) (QW D ce b kdC lnC 272) (box b 272)) av s 0 0 (box b 272) := ⟨_, rfl⟩
  rw [← hQQ]
  have hret : ∀ (r : Int32) (I1 : mI), some (r, I1) = some (o1, o2) → ∀ (H1 : Heap) (locs1 : List Loc) (ls1 : Array Slot) (pc1 : Nat), decode cX10_letter pc1 = .ok (.ireturn, 1) → va_P D vwCl (wd ce b kdC lnC 272 I1 L R) H1 → WT kdC R → va_S (box b 272) s.heap H1 locs1 → W p l e rmX10_letter s m av below meth c H1 locs1 0 0 QQ (F0 m pc1 ls1 [.int r]) := by
    intro r I1 hq H1 locs1 ls1 pc1 hd hP hT hS
    cases hq
    rw [hQQ]
    exact mm_iret hx hb hr hlocks hP hT hS hd
  unfold f_X10_letter at hf
  obtain ⟨H, hH⟩ : ∃ z, z = s.heap := ⟨_, rfl⟩
  obtain ⟨locs, hlo⟩ : ∃ z : List Loc, z = [] := ⟨_, rfl⟩
  have hP : va_P D vwCl (wd ce b kdC lnC 272 I L R) H := by rw [hH]; exact hP
  have hS : va_S (box b 272) s.heap H locs := by rw [hH, hlo]; exact hS
  rw [show W p l e rmX10_letter s m av below meth c s.heap [] 0 0 QQ = W p l e rmX10_letter s m av below meth c H locs 0 0 QQ by rw [hH, hlo]]
  clear hH hlo
  clear hQQ
  show W p l e rmX10_letter s m av below meth c H locs 0 0 QQ (F0 m 0 ls [])
  refine lv_iload_n hx hb dX10_letter_0 rfl (lv_at hl 1 rfl) ?_
  refine lv_iconst (v := (-1 : Int32)) hx hb dX10_letter_1 (by decide) ?_
  refine lv_icmp_ge (tgt := 10) hx hb dX10_letter_2 (by decide) (fun c1 => ?_) (fun c1 => ?_)
  · have hf := ifT hf c1
    refine lv_iload_n hx hb dX10_letter_10 rfl (lv_at hl 1 rfl) ?_
    refine lv_iconst (v := (-1 : Int32)) hx hb dX10_letter_11 (by decide) ?_
    refine lv_icmp_ne (tgt := 26) hx hb dX10_letter_12 (by decide) (fun c2 => ?_) (fun c2 => ?_)
    · have hf := ifF hf c2
      refine lv_iload_n hx hb dX10_letter_26 rfl (lv_at hl 1 rfl) ?_
      refine lv_aload_n hx hb dX10_letter_27 rfl (lv_at hl 0 rfl) ?_
      have t3 : kdC (R x0 0) = 13 := wt hT h0 rfl
      refine mm_getr hx hb hts hown hKK hP fk10_0 (Nat.le_of_ble_eq_true rfl) lkX10_10 (kdC_lt h0 (Nat.succ_ne_zero _)) h0 (nC t3 (Nat.succ_ne_zero _)) dX10_letter_28 ?_
      have t4 : kdC (R (R x0 0) 1) = 14 := wt hT t3 rfl
      refine mm_getr hx hb hts hown hKK hP fk7_1 (Nat.le_of_ble_eq_true rfl) lkX10_75 (kdC_lt t3 (Nat.succ_ne_zero _)) t3 (nC t4 (Nat.succ_ne_zero _)) dX10_letter_31 ?_
      refine mm_geti hx hb hts hown hKK hP fk8_2 (Or.inl rfl) lkX10_119 (kdC_lt t4 (Nat.succ_ne_zero _)) t4 dX10_letter_34 ?_
      refine lv_icmp_ge (tgt := 55) hx hb dX10_letter_37 (by decide) (fun c5 => ?_) (fun c5 => ?_)
      · have hf := ifT hf c5
        refine lv_bipush (v := (-5 : Int32)) hx hb dX10_letter_55 (by decide) ?_
        exact hret (-5 : Int32) I hf H locs ls _ dX10_letter_57 hP hT hS
      · have hf := ifF hf c5
        refine lv_aload_n hx hb dX10_letter_40 rfl (lv_at hl 0 rfl) ?_
        refine mm_getr hx hb hts hown hKK hP fk10_0 (Nat.le_of_ble_eq_true rfl) lkX10_10 (kdC_lt h0 (Nat.succ_ne_zero _)) h0 (nC t3 (Nat.succ_ne_zero _)) dX10_letter_41 ?_
        refine mm_getr hx hb hts hown hKK hP fk7_1 (Nat.le_of_ble_eq_true rfl) lkX10_75 (kdC_lt t3 (Nat.succ_ne_zero _)) t3 (nC t4 (Nat.succ_ne_zero _)) dX10_letter_44 ?_
        have t6 : kdC (R (R (R x0 0) 1) 0) = 1 := wt hT t4 rfl
        refine mm_getr hx hb hts hown hKK hP fk8_0 (Nat.le_of_ble_eq_true rfl) lkX10_144 (kdC_lt t4 (Nat.succ_ne_zero _)) t4 (nC t6 (Nat.succ_ne_zero _)) dX10_letter_47 ?_
        refine lv_iload_n hx hb dX10_letter_50 rfl (lv_at hl 1 rfl) ?_
        obtain ⟨g7, hf⟩ := grd hf
        refine mm_iald hx hb hKK hP (kdC_lt t6 (Nat.succ_ne_zero _)) t6 g7 dX10_letter_51 ?_
        refine lv_goto (tgt := 57) hx hb dX10_letter_52 (by decide) ?_
        exact hret (I (R (R (R x0 0) 1) 0) x1.toNatClampNeg) I hf H locs ls _ dX10_letter_57 hP hT hS
    · have hf := ifT hf c2
      refine lv_aload_n hx hb dX10_letter_15 rfl (lv_at hl 0 rfl) ?_
      have t8 : kdC (R x0 0) = 13 := wt hT h0 rfl
      refine mm_getr hx hb hts hown hKK hP fk10_0 (Nat.le_of_ble_eq_true rfl) lkX10_10 (kdC_lt h0 (Nat.succ_ne_zero _)) h0 (nC t8 (Nat.succ_ne_zero _)) dX10_letter_16 ?_
      have t9 : kdC (R (R x0 0) 1) = 14 := wt hT t8 rfl
      refine mm_getr hx hb hts hown hKK hP fk7_1 (Nat.le_of_ble_eq_true rfl) lkX10_75 (kdC_lt t8 (Nat.succ_ne_zero _)) t8 (nC t9 (Nat.succ_ne_zero _)) dX10_letter_19 ?_
      refine mm_geti hx hb hts hown hKK hP fk8_2 (Or.inl rfl) lkX10_119 (kdC_lt t9 (Nat.succ_ne_zero _)) t9 dX10_letter_22 ?_
      exact hret (I (R (R x0 0) 1) 2) I hf H locs ls _ dX10_letter_25 hP hT hS
  · have hf := ifF hf c1
    refine lv_aload_n hx hb dX10_letter_5 rfl (lv_at hl 0 rfl) ?_
    obtain ⟨r10, I10, e10, hf⟩ := bd2_o hf
    refine mm_Vi (rest := []) hx hb hml hown hts hKK hP hS hA (kdC_lt h0 (Nat.succ_ne_zero _)) h0 (show vwCl[10]? = some (yX10_refuseBad.cls, TX10, 15) from rfl) vkX10_81 (k_X10_refuseBad l D ce b I L R hT x0 h0 r10 I10 e10) rfl hl.1 rfl (Nat.le_of_ble_eq_true rfl) ⟨rfl, rfl⟩ ⟨Nat.le_of_ble_eq_true rfl, Nat.le_of_ble_eq_true rfl⟩ ⟨Nat.zero_le _, Nat.zero_le _⟩ dX10_letter_6 (fun H locs hP hT hS => ?_)
    exact hret r10 I10 hf H locs ls _ dX10_letter_9 hP hT hS
def rmX1_giveBack : Room := { frames := 4, cells := 0, slots := 0, locals := 94 }
set_option maxHeartbeats 4000000 in
set_option maxRecDepth 100000 in
theorem k_X1_giveBack (l : Launch) (D : va_G) (ce : Nat → ClassId) (b : Nat) (I : mI) (L : mL) (R : mR) (hT : WT kdC R) (x0 : Nat) (x1 : Nat) (h0 : kdC x0 = 7) (h1 : kdC x1 = 13) (o1 : mI) (hf : f_X1_giveBack x0 x1 I R = some o1) : Met l yX1_giveBack (Cond.code yX1_giveBack cX1_giveBack 2 none :: GW) rmX1_giveBack (va_Pc [.ref (b + x0), .ref (b + x1)] (PW D ce b kdC lnC 272 I L R)) (va_Qv (fun u => u = (o1, L, R)) (QW D ce b kdC lnC 272) (box b 272)) 0 0 (box b 272) := by
  refine Met.ofW (cc := cX1_giveBack) (maxL := 2) (ret := none) (by decide) rfl ?_
  intro p e s m args below meth c s₁ B hml hv
  obtain ⟨rfl, hP, hKK⟩ := hv
  have hx := B.exec
  have hb := B.bytes
  have hr := B.returns
  have hts0 := atoms_spec (ws := Cond.code yX1_giveBack cX1_giveBack 2 none :: GW) B.pre
  have hts : ∀ w ∈ GW, w.before _ s = true := fun w h => hts0 w (List.mem_cons_of_mem _ h)
  clear hts0
  have hown : s.vm.findClass RX1 = some m.cls := findClass_of_methodNamed B.named
  have hlocks := B.notSynchronized
  have hA : ∀ q, box b 272 q → box b 272 q := fun _ h => h
  have hS : va_S (box b 272) s.heap s.heap [] := va_S.rf
  have hl := lv_entry ([.ref (b + x0), .ref (b + x1)]) (n := 2) (Nat.le_of_ble_eq_true rfl)
  rw [lg_entry_eq]
  generalize (lg_sl ([.ref (b + x0), .ref (b + x1)]) ++ List.replicate (2 - (lg_sl ([.ref (b + x0), .ref (b + x1)])).length) Slot.unset).toArray = ls at hl ⊢
  have hl : lv_has ls 2 [(0, .ref (b + x0)), (1, .ref (b + x1))] := hl
  generalize ([.ref (b + x0), .ref (b + x1)] : List Value).toArray = av at hts ⊢
  show W p l e rmX1_giveBack s m av below meth c s.heap [] 0 0 _ _
  obtain ⟨QQ, hQQ⟩ : ∃ z, z = MQ below (va_Qv (fun u => u = (o1, L, R)) (QW D ce b kdC lnC 272) (box b 272)) av s 0 0 (box b 272) := ⟨_, rfl⟩
  rw [← hQQ]
  have hret : ∀ (I1 : mI), some I1 = some o1 → ∀ (H1 : Heap) (locs1 : List Loc) (ls1 : Array Slot) (pc1 : Nat), decode cX1_giveBack pc1 = .ok (.return_, 1) → va_P D vwCl (wd ce b kdC lnC 272 I1 L R) H1 → WT kdC R → va_S (box b 272) s.heap H1 locs1 → W p l e rmX1_giveBack s m av below meth c H1 locs1 0 0 QQ (F0 m pc1 ls1 []) := by
    intro I1 hq H1 locs1 ls1 pc1 hd hP hT hS
    cases hq
    rw [hQQ]
    exact mm_vret hx hb hr hlocks hP hT hS hd
  unfold f_X1_giveBack at hf
  obtain ⟨H, hH⟩ : ∃ z, z = s.heap := ⟨_, rfl⟩
  obtain ⟨locs, hlo⟩ : ∃ z : List Loc, z = [] := ⟨_, rfl⟩
  have hP : va_P D vwCl (wd ce b kdC lnC 272 I L R) H := by rw [hH]; exact hP
  have hS : va_S (box b 272) s.heap H locs := by rw [hH, hlo]; exact hS
  rw [show W p l e rmX1_giveBack s m av below meth c s.heap [] 0 0 QQ = W p l e rmX1_giveBack s m av below meth c H locs 0 0 QQ by rw [hH, hlo]]
  clear hH hlo
  clear hQQ
  show W p l e rmX1_giveBack s m av below meth c H locs 0 0 QQ (F0 m 0 ls [])
  refine lv_aload_n hx hb dX1_giveBack_0 rfl (lv_at hl 0 rfl) ?_
  refine lv_dup hx hb dX1_giveBack_1 rfl ?_
  refine mm_geti hx hb hts hown hKK hP fk1_1 (Or.inl rfl) lkX1_18 (kdC_lt h0 (Nat.succ_ne_zero _)) h0 dX1_giveBack_2 ?_
  refine lv_iconst (v := (1 : Int32)) hx hb dX1_giveBack_5 (by decide) ?_
  refine lv_isub hx hb dX1_giveBack_6 ?_
  refine jnE hf (fun I1 eI1 hf => ?_)
  refine mm_puti hx hb hts hown hKK hP hA hS fk1_1 (Or.inl rfl) fw1_1 lkX1_18 (kdC_lt h0 (Nat.succ_ne_zero _)) h0 rfl rfl dX1_giveBack_7 (fun H locs hP hS => ?_)
  rw [← eI1] at hP
  refine lv_aload_n hx hb dX1_giveBack_10 rfl (lv_at hl 1 rfl) ?_
  refine lv_aload_n hx hb dX1_giveBack_11 rfl (lv_at hl 0 rfl) ?_
  have t2 : kdC (R x0 0) = 5 := wt hT h0 rfl
  refine mm_getr hx hb hts hown hKK hP fk1_0 (Nat.le_of_ble_eq_true rfl) lkX1_11 (kdC_lt h0 (Nat.succ_ne_zero _)) h0 (nC t2 (Nat.succ_ne_zero _)) dX1_giveBack_12 ?_
  refine lv_aload_n hx hb dX1_giveBack_15 rfl (lv_at hl 0 rfl) ?_
  refine mm_geti hx hb hts hown hKK hP fk1_1 (Or.inl rfl) lkX1_18 (kdC_lt h0 (Nat.succ_ne_zero _)) h0 dX1_giveBack_16 ?_
  obtain ⟨g3, hf⟩ := grd hf
  have t4 : kdC (R (R x0 0) ((I1 x0 1)).toNatClampNeg) = 13 := wt hT t2 rfl
  refine mm_aald5 hx hb hKK hP (kdC_lt t2 (Nat.succ_ne_zero _)) t2 g3 (nC t4 (Nat.succ_ne_zero _)) dX1_giveBack_19 ?_
  obtain ⟨I5, e5, hf⟩ := bd1_o hf
  refine mm_Vv (rest := []) hx hb hml hown hts hKK hP hS hA (kdC_lt h1 (Nat.succ_ne_zero _)) h1 (show vwCl[7]? = some (yX7_copyFrom.cls, TX7, 3) from rfl) vkX1_25 (k_X7_copyFrom l D ce b I1 L R hT x1 (R (R x0 0) ((I1 x0 1)).toNatClampNeg) h1 t4 I5 e5) rfl hl.1 rfl (Nat.le_of_ble_eq_true rfl) ⟨rfl, rfl⟩ ⟨Nat.le_of_ble_eq_true rfl, Nat.le_of_ble_eq_true rfl⟩ ⟨Nat.zero_le _, Nat.zero_le _⟩ dX1_giveBack_20 (fun H locs hP hT hS => ?_)
  exact hret I5 hf H locs ls _ dX1_giveBack_23 hP hT hS
def rmX10_back : Room := { frames := 5, cells := 0, slots := 0, locals := 115 }
set_option maxHeartbeats 4000000 in
set_option maxRecDepth 100000 in
theorem k_X10_back (l : Launch) (D : va_G) (ce : Nat → ClassId) (b : Nat) (I : mI) (L : mL) (R : mR) (hT : WT kdC R) (x0 : Nat) (h0 : kdC x0 = 16) (o1 : Int32) (o2 : mI) (hf : f_X10_back x0 I R = some (o1, o2)) : Met l yX10_back (Cond.code yX10_back cX10_back 1 (some .int) :: GW) rmX10_back (va_Pc [.ref (b + x0)] (PW D ce b kdC lnC 272 I L R)) (va_Qi (fun r u => r = o1 ∧ u = (o2, L, R)) (QW D ce b kdC lnC 272) (box b 272)) 0 0 (box b 272) := by
  refine Met.ofW (cc := cX10_back) (maxL := 1) (ret := (some .int)) (by decide) rfl ?_
  intro p e s m args below meth c s₁ B hml hv
  obtain ⟨rfl, hP, hKK⟩ := hv
  have hx := B.exec
  have hb := B.bytes
  have hr := B.returns
  have hts0 := atoms_spec (ws := Cond.code yX10_back cX10_back 1 (some .int) :: GW) B.pre
  have hts : ∀ w ∈ GW, w.before _ s = true := fun w h => hts0 w (List.mem_cons_of_mem _ h)
  clear hts0
  have hown : s.vm.findClass RX10 = some m.cls := findClass_of_methodNamed B.named
  have hlocks := B.notSynchronized
  have hA : ∀ q, box b 272 q → box b 272 q := fun _ h => h
  have hS : va_S (box b 272) s.heap s.heap [] := va_S.rf
  have hl := lv_entry ([.ref (b + x0)]) (n := 1) (Nat.le_of_ble_eq_true rfl)
  rw [lg_entry_eq]
  generalize (lg_sl ([.ref (b + x0)]) ++ List.replicate (1 - (lg_sl ([.ref (b + x0)])).length) Slot.unset).toArray = ls at hl ⊢
  have hl : lv_has ls 1 [(0, .ref (b + x0))] := hl
  generalize ([.ref (b + x0)] : List Value).toArray = av at hts ⊢
  show W p l e rmX10_back s m av below meth c s.heap [] 0 0 _ _
  obtain ⟨QQ, hQQ⟩ : ∃ z, z = MQ below (va_Qi (fun r u => r = o1 ∧ u = (o2, L, R)) (QW D ce b kdC lnC 272) (box b 272)) av s 0 0 (box b 272) := ⟨_, rfl⟩
  rw [← hQQ]
  have hret : ∀ (r : Int32) (I1 : mI), some (r, I1) = some (o1, o2) → ∀ (H1 : Heap) (locs1 : List Loc) (ls1 : Array Slot) (pc1 : Nat), decode cX10_back pc1 = .ok (.ireturn, 1) → va_P D vwCl (wd ce b kdC lnC 272 I1 L R) H1 → WT kdC R → va_S (box b 272) s.heap H1 locs1 → W p l e rmX10_back s m av below meth c H1 locs1 0 0 QQ (F0 m pc1 ls1 [.int r]) := by
    intro r I1 hq H1 locs1 ls1 pc1 hd hP hT hS
    cases hq
    rw [hQQ]
    exact mm_iret hx hb hr hlocks hP hT hS hd
  unfold f_X10_back at hf
  obtain ⟨H, hH⟩ : ∃ z, z = s.heap := ⟨_, rfl⟩
  obtain ⟨locs, hlo⟩ : ∃ z : List Loc, z = [] := ⟨_, rfl⟩
  have hP : va_P D vwCl (wd ce b kdC lnC 272 I L R) H := by rw [hH]; exact hP
  have hS : va_S (box b 272) s.heap H locs := by rw [hH, hlo]; exact hS
  rw [show W p l e rmX10_back s m av below meth c s.heap [] 0 0 QQ = W p l e rmX10_back s m av below meth c H locs 0 0 QQ by rw [hH, hlo]]
  clear hH hlo
  clear hQQ
  show W p l e rmX10_back s m av below meth c H locs 0 0 QQ (F0 m 0 ls [])
  refine lv_aload_n hx hb dX10_back_0 rfl (lv_at hl 0 rfl) ?_
  have t1 : kdC (R x0 1) = 7 := wt hT h0 rfl
  refine mm_getr hx hb hts hown hKK hP fk10_1 (Nat.le_of_ble_eq_true rfl) lkX10_19 (kdC_lt h0 (Nat.succ_ne_zero _)) h0 (nC t1 (Nat.succ_ne_zero _)) dX10_back_1 ?_
  refine mm_geti hx hb hts hown hKK hP fk1_1 (Or.inl rfl) lkX10_232 (kdC_lt t1 (Nat.succ_ne_zero _)) t1 dX10_back_4 ?_
  refine lv_if_ne (tgt := 23) hx hb dX10_back_7 (by decide) (fun c2 => ?_) (fun c2 => ?_)
  · have hf := ifF hf c2
    refine lv_aload_n hx hb dX10_back_23 rfl (lv_at hl 0 rfl) ?_
    refine mm_getr hx hb hts hown hKK hP fk10_1 (Nat.le_of_ble_eq_true rfl) lkX10_19 (kdC_lt h0 (Nat.succ_ne_zero _)) h0 (nC t1 (Nat.succ_ne_zero _)) dX10_back_24 ?_
    refine lv_aload_n hx hb dX10_back_27 rfl (lv_at hl 0 rfl) ?_
    have t3 : kdC (R x0 0) = 13 := wt hT h0 rfl
    refine mm_getr hx hb hts hown hKK hP fk10_0 (Nat.le_of_ble_eq_true rfl) lkX10_10 (kdC_lt h0 (Nat.succ_ne_zero _)) h0 (nC t3 (Nat.succ_ne_zero _)) dX10_back_28 ?_
    obtain ⟨I4, e4, hf⟩ := bd1_o hf
    refine mm_Vv (rest := []) hx hb hml hown hts hKK hP hS hA (kdC_lt t1 (Nat.succ_ne_zero _)) t1 (show vwCl[1]? = some (yX1_giveBack.cls, TX1, 2) from rfl) vkX10_236 (k_X1_giveBack l D ce b I L R hT (R x0 1) (R x0 0) t1 t3 I4 e4) rfl hl.1 rfl (Nat.le_of_ble_eq_true rfl) ⟨rfl, rfl⟩ ⟨Nat.le_of_ble_eq_true rfl, Nat.le_of_ble_eq_true rfl⟩ ⟨Nat.zero_le _, Nat.zero_le _⟩ dX10_back_31 (fun H locs hP hT hS => ?_)
    refine lv_aload_n hx hb dX10_back_34 rfl (lv_at hl 0 rfl) ?_
    obtain ⟨I5, e5, hf⟩ := bd1_o hf
    refine mm_Vv (rest := []) hx hb hml hown hts hKK hP hS hA (kdC_lt h0 (Nat.succ_ne_zero _)) h0 (show vwCl[10]? = some (yX10_forgetFindings.cls, TX10, 15) from rfl) vkX10_108 (k_X10_forgetFindings l D ce b I4 L R hT x0 h0 I5 e5) rfl hl.1 rfl (Nat.le_of_ble_eq_true rfl) ⟨rfl, rfl⟩ ⟨Nat.le_of_ble_eq_true rfl, Nat.le_of_ble_eq_true rfl⟩ ⟨Nat.zero_le _, Nat.zero_le _⟩ dX10_back_35 (fun H locs hP hT hS => ?_)
    refine lv_aload_n hx hb dX10_back_38 rfl (lv_at hl 0 rfl) ?_
    refine mm_getr hx hb hts hown hKK hP fk10_1 (Nat.le_of_ble_eq_true rfl) lkX10_19 (kdC_lt h0 (Nat.succ_ne_zero _)) h0 (nC t1 (Nat.succ_ne_zero _)) dX10_back_39 ?_
    refine mm_geti hx hb hts hown hKK hP fk1_1 (Or.inl rfl) lkX10_232 (kdC_lt t1 (Nat.succ_ne_zero _)) t1 dX10_back_42 ?_
    exact hret (I5 (R x0 1) 1) I5 hf H locs ls _ dX10_back_45 hP hT hS
  · have hf := ifT hf c2
    refine lv_aload_n hx hb dX10_back_10 rfl (lv_at hl 0 rfl) ?_
    refine lv_dup hx hb dX10_back_11 rfl ?_
    refine mm_geti hx hb hts hown hKK hP fk10_13 (Or.inl rfl) lkX10_233 (kdC_lt h0 (Nat.succ_ne_zero _)) h0 dX10_back_12 ?_
    refine lv_iconst (v := (1 : Int32)) hx hb dX10_back_15 (by decide) ?_
    refine lv_iadd hx hb dX10_back_16 ?_
    refine jnE hf (fun I6 eI6 hf => ?_)
    refine mm_puti hx hb hts hown hKK hP hA hS fk10_13 (Or.inl rfl) fw10_13 lkX10_233 (kdC_lt h0 (Nat.succ_ne_zero _)) h0 rfl rfl dX10_back_17 (fun H locs hP hS => ?_)
    rw [← eI6] at hP
    refine lv_bipush (v := (-3 : Int32)) hx hb dX10_back_20 (by decide) ?_
    exact hret (-3 : Int32) I6 hf H locs ls _ dX10_back_22 hP hT hS
def rmX10_told : Room := { frames := 1, cells := 0, slots := 0, locals := 20 }
set_option maxHeartbeats 4000000 in
set_option maxRecDepth 100000 in
theorem k_X10_told (l : Launch) (D : va_G) (ce : Nat → ClassId) (b : Nat) (I : mI) (L : mL) (R : mR) (hT : WT kdC R) (x0 : Nat) (x1 : Int32) (h0 : kdC x0 = 16) (o1 : Int32) (o2 : mI) (hf : f_X10_told x0 x1 I R = some (o1, o2)) : Met l yX10_told (Cond.code yX10_told cX10_told 2 (some .int) :: GW) rmX10_told (va_Pc [.ref (b + x0), .int x1] (PW D ce b kdC lnC 272 I L R)) (va_Qi (fun r u => r = o1 ∧ u = (o2, L, R)) (QW D ce b kdC lnC 272) (box b 272)) 0 0 (box b 272) := by
  refine Met.ofW (cc := cX10_told) (maxL := 2) (ret := (some .int)) (by decide) rfl ?_
  intro p e s m args below meth c s₁ B hml hv
  obtain ⟨rfl, hP, hKK⟩ := hv
  have hx := B.exec
  have hb := B.bytes
  have hr := B.returns
  have hts0 := atoms_spec (ws := Cond.code yX10_told cX10_told 2 (some .int) :: GW) B.pre
  have hts : ∀ w ∈ GW, w.before _ s = true := fun w h => hts0 w (List.mem_cons_of_mem _ h)
  clear hts0
  have hown : s.vm.findClass RX10 = some m.cls := findClass_of_methodNamed B.named
  have hlocks := B.notSynchronized
  have hA : ∀ q, box b 272 q → box b 272 q := fun _ h => h
  have hS : va_S (box b 272) s.heap s.heap [] := va_S.rf
  have hl := lv_entry ([.ref (b + x0), .int x1]) (n := 2) (Nat.le_of_ble_eq_true rfl)
  rw [lg_entry_eq]
  generalize (lg_sl ([.ref (b + x0), .int x1]) ++ List.replicate (2 - (lg_sl ([.ref (b + x0), .int x1])).length) Slot.unset).toArray = ls at hl ⊢
  have hl : lv_has ls 2 [(0, .ref (b + x0)), (1, .int x1)] := hl
  generalize ([.ref (b + x0), .int x1] : List Value).toArray = av at hts ⊢
  show W p l e rmX10_told s m av below meth c s.heap [] 0 0 _ _
  obtain ⟨QQ, hQQ⟩ : ∃ z, z = MQ below (va_Qi (fun r u => r = o1 ∧ u = (o2, L, R)) (QW D ce b kdC lnC 272) (box b 272)) av s 0 0 (box b 272) := ⟨_, rfl⟩
  rw [← hQQ]
  have hret : ∀ (r : Int32) (I1 : mI), some (r, I1) = some (o1, o2) → ∀ (H1 : Heap) (locs1 : List Loc) (ls1 : Array Slot) (pc1 : Nat), decode cX10_told pc1 = .ok (.ireturn, 1) → va_P D vwCl (wd ce b kdC lnC 272 I1 L R) H1 → WT kdC R → va_S (box b 272) s.heap H1 locs1 → W p l e rmX10_told s m av below meth c H1 locs1 0 0 QQ (F0 m pc1 ls1 [.int r]) := by
    intro r I1 hq H1 locs1 ls1 pc1 hd hP hT hS
    cases hq
    rw [hQQ]
    exact mm_iret hx hb hr hlocks hP hT hS hd
  unfold f_X10_told at hf
  obtain ⟨H, hH⟩ : ∃ z, z = s.heap := ⟨_, rfl⟩
  obtain ⟨locs, hlo⟩ : ∃ z : List Loc, z = [] := ⟨_, rfl⟩
  have hP : va_P D vwCl (wd ce b kdC lnC 272 I L R) H := by rw [hH]; exact hP
  have hS : va_S (box b 272) s.heap H locs := by rw [hH, hlo]; exact hS
  rw [show W p l e rmX10_told s m av below meth c s.heap [] 0 0 QQ = W p l e rmX10_told s m av below meth c H locs 0 0 QQ by rw [hH, hlo]]
  clear hH hlo
  clear hQQ
  show W p l e rmX10_told s m av below meth c H locs 0 0 QQ (F0 m 0 ls [])
  refine lv_iload_n hx hb dX10_told_0 rfl (lv_at hl 1 rfl) ?_
  by_cases c1 : x1 = (0 : Int32)
  · have hf := ifT hf c1
    refine lv_tableIn (off := 43) (tgt := 44) hx hb dX10_told_1 (by rw [c1]; decide) (by rw [c1]; decide) (by rw [c1]; first | done | rfl) (by decide) ?_
    refine lv_aload_n hx hb dX10_told_44 rfl (lv_at hl 0 rfl) ?_
    refine mm_geti hx hb hts hown hKK hP fk10_12 (Or.inl rfl) lkX10_239 (kdC_lt h0 (Nat.succ_ne_zero _)) h0 dX10_told_45 ?_
    exact hret (I x0 12) I hf H locs ls _ dX10_told_48 hP hT hS
  · have hf := ifF hf c1
    by_cases c2 : x1 = (1 : Int32)
    · have hf := ifT hf c2
      refine lv_tableIn (off := 48) (tgt := 49) hx hb dX10_told_1 (by rw [c2]; decide) (by rw [c2]; decide) (by rw [c2]; first | done | rfl) (by decide) ?_
      refine lv_aload_n hx hb dX10_told_49 rfl (lv_at hl 0 rfl) ?_
      refine mm_geti hx hb hts hown hKK hP fk10_13 (Or.inl rfl) lkX10_233 (kdC_lt h0 (Nat.succ_ne_zero _)) h0 dX10_told_50 ?_
      exact hret (I x0 13) I hf H locs ls _ dX10_told_53 hP hT hS
    · have hf := ifF hf c2
      by_cases c3 : x1 = (2 : Int32)
      · have hf := ifT hf c3
        refine lv_tableIn (off := 53) (tgt := 54) hx hb dX10_told_1 (by rw [c3]; decide) (by rw [c3]; decide) (by rw [c3]; first | done | rfl) (by decide) ?_
        refine lv_aload_n hx hb dX10_told_54 rfl (lv_at hl 0 rfl) ?_
        refine mm_geti hx hb hts hown hKK hP fk10_14 (Or.inl rfl) lkX10_88 (kdC_lt h0 (Nat.succ_ne_zero _)) h0 dX10_told_55 ?_
        exact hret (I x0 14) I hf H locs ls _ dX10_told_58 hP hT hS
      · have hf := ifF hf c3
        by_cases c4 : x1 = (3 : Int32)
        · have hf := ifT hf c4
          refine lv_tableIn (off := 58) (tgt := 59) hx hb dX10_told_1 (by rw [c4]; decide) (by rw [c4]; decide) (by rw [c4]; first | done | rfl) (by decide) ?_
          refine lv_aload_n hx hb dX10_told_59 rfl (lv_at hl 0 rfl) ?_
          have t5 : kdC (R x0 2) = 8 := wt hT h0 rfl
          refine mm_getr hx hb hts hown hKK hP fk10_2 (Nat.le_of_ble_eq_true rfl) lkX10_26 (kdC_lt h0 (Nat.succ_ne_zero _)) h0 (nC t5 (Nat.succ_ne_zero _)) dX10_told_60 ?_
          refine mm_geti hx hb hts hown hKK hP fk2_2 (Or.inl rfl) lkX10_85 (kdC_lt t5 (Nat.succ_ne_zero _)) t5 dX10_told_63 ?_
          exact hret (I (R x0 2) 2) I hf H locs ls _ dX10_told_66 hP hT hS
        · have hf := ifF hf c4
          by_cases c6 : x1 = (4 : Int32)
          · have hf := ifT hf c6
            refine lv_tableIn (off := 66) (tgt := 67) hx hb dX10_told_1 (by rw [c6]; decide) (by rw [c6]; decide) (by rw [c6]; first | done | rfl) (by decide) ?_
            refine lv_aload_n hx hb dX10_told_67 rfl (lv_at hl 0 rfl) ?_
            have t7 : kdC (R x0 0) = 13 := wt hT h0 rfl
            refine mm_getr hx hb hts hown hKK hP fk10_0 (Nat.le_of_ble_eq_true rfl) lkX10_10 (kdC_lt h0 (Nat.succ_ne_zero _)) h0 (nC t7 (Nat.succ_ne_zero _)) dX10_told_68 ?_
            refine mm_geti hx hb hts hown hKK hP fk7_2 (Or.inl rfl) lkX10_105 (kdC_lt t7 (Nat.succ_ne_zero _)) t7 dX10_told_71 ?_
            exact hret (I (R x0 0) 2) I hf H locs ls _ dX10_told_74 hP hT hS
          · have hf := ifF hf c6
            by_cases c8 : x1 = (5 : Int32)
            · have hf := ifT hf c8
              refine lv_tableIn (off := 74) (tgt := 75) hx hb dX10_told_1 (by rw [c8]; decide) (by rw [c8]; decide) (by rw [c8]; first | done | rfl) (by decide) ?_
              refine lv_aload_n hx hb dX10_told_75 rfl (lv_at hl 0 rfl) ?_
              have t9 : kdC (R x0 0) = 13 := wt hT h0 rfl
              refine mm_getr hx hb hts hown hKK hP fk10_0 (Nat.le_of_ble_eq_true rfl) lkX10_10 (kdC_lt h0 (Nat.succ_ne_zero _)) h0 (nC t9 (Nat.succ_ne_zero _)) dX10_told_76 ?_
              have t10 : kdC (R (R x0 0) 1) = 14 := wt hT t9 rfl
              refine mm_getr hx hb hts hown hKK hP fk7_1 (Nat.le_of_ble_eq_true rfl) lkX10_75 (kdC_lt t9 (Nat.succ_ne_zero _)) t9 (nC t10 (Nat.succ_ne_zero _)) dX10_told_79 ?_
              refine mm_geti hx hb hts hown hKK hP fk8_2 (Or.inl rfl) lkX10_119 (kdC_lt t10 (Nat.succ_ne_zero _)) t10 dX10_told_82 ?_
              exact hret (I (R (R x0 0) 1) 2) I hf H locs ls _ dX10_told_85 hP hT hS
            · have hf := ifF hf c8
              by_cases c11 : x1 = (6 : Int32)
              · have hf := ifT hf c11
                refine lv_tableIn (off := 85) (tgt := 86) hx hb dX10_told_1 (by rw [c11]; decide) (by rw [c11]; decide) (by rw [c11]; first | done | rfl) (by decide) ?_
                refine lv_aload_n hx hb dX10_told_86 rfl (lv_at hl 0 rfl) ?_
                have t12 : kdC (R x0 1) = 7 := wt hT h0 rfl
                refine mm_getr hx hb hts hown hKK hP fk10_1 (Nat.le_of_ble_eq_true rfl) lkX10_19 (kdC_lt h0 (Nat.succ_ne_zero _)) h0 (nC t12 (Nat.succ_ne_zero _)) dX10_told_87 ?_
                refine mm_geti hx hb hts hown hKK hP fk1_1 (Or.inl rfl) lkX10_232 (kdC_lt t12 (Nat.succ_ne_zero _)) t12 dX10_told_90 ?_
                exact hret (I (R x0 1) 1) I hf H locs ls _ dX10_told_93 hP hT hS
              · have hf := ifF hf c11
                have qc1 := lv_neT c1 (a := 0) rfl
                have qc2 := lv_neT c2 (a := 1) rfl
                have qc3 := lv_neT c3 (a := 2) rfl
                have qc4 := lv_neT c4 (a := 3) rfl
                have qc6 := lv_neT c6 (a := 4) rfl
                have qc8 := lv_neT c8 (a := 5) rfl
                have qc11 := lv_neT c11 (a := 6) rfl
                refine lv_tableOut (tgt := 94) hx hb dX10_told_1 (by omega) (by decide) ?_
                refine lv_aload_n hx hb dX10_told_94 rfl (lv_at hl 0 rfl) ?_
                obtain ⟨r13, I13, e13, hf⟩ := bd2_o hf
                refine mm_Vi (rest := []) hx hb hml hown hts hKK hP hS hA (kdC_lt h0 (Nat.succ_ne_zero _)) h0 (show vwCl[10]? = some (yX10_refuseBad.cls, TX10, 15) from rfl) vkX10_81 (k_X10_refuseBad l D ce b I L R hT x0 h0 r13 I13 e13) rfl hl.1 rfl (Nat.le_of_ble_eq_true rfl) ⟨rfl, rfl⟩ ⟨Nat.le_of_ble_eq_true rfl, Nat.le_of_ble_eq_true rfl⟩ ⟨Nat.zero_le _, Nat.zero_le _⟩ dX10_told_95 (fun H locs hP hT hS => ?_)
                exact hret r13 I13 hf H locs ls _ dX10_told_98 hP hT hS
def rmX10_digest : Room := { frames := 6, cells := 0, slots := 0, locals := 150 }
set_option maxHeartbeats 4000000 in
set_option maxRecDepth 100000 in
theorem k_X10_digest (l : Launch) (D : va_G) (ce : Nat → ClassId) (b : Nat) (I : mI) (L : mL) (R : mR) (hT : WT kdC R) (x0 : Nat) (h0 : kdC x0 = 16) (o1 : Int64) (o2 : mI) (o3 : mL) (hf : f_X10_digest x0 I L R = some (o1, o2, o3)) : Met l yX10_digest (Cond.code yX10_digest cX10_digest 5 (some .long) :: GW) rmX10_digest (va_Pc [.ref (b + x0)] (PW D ce b kdC lnC 272 I L R)) (va_Ql (fun r u => r = o1 ∧ u = (o2, o3, R)) (QW D ce b kdC lnC 272) (box b 272)) 0 0 (box b 272) := by
  refine Met.ofW (cc := cX10_digest) (maxL := 5) (ret := (some .long)) (by decide) rfl ?_
  intro p e s m args below meth c s₁ B hml hv
  obtain ⟨rfl, hP, hKK⟩ := hv
  have hx := B.exec
  have hb := B.bytes
  have hr := B.returns
  have hts0 := atoms_spec (ws := Cond.code yX10_digest cX10_digest 5 (some .long) :: GW) B.pre
  have hts : ∀ w ∈ GW, w.before _ s = true := fun w h => hts0 w (List.mem_cons_of_mem _ h)
  clear hts0
  have hown : s.vm.findClass RX10 = some m.cls := findClass_of_methodNamed B.named
  have hlocks := B.notSynchronized
  have hA : ∀ q, box b 272 q → box b 272 q := fun _ h => h
  have hS : va_S (box b 272) s.heap s.heap [] := va_S.rf
  have hl := lv_entry ([.ref (b + x0)]) (n := 5) (Nat.le_of_ble_eq_true rfl)
  rw [lg_entry_eq]
  generalize (lg_sl ([.ref (b + x0)]) ++ List.replicate (5 - (lg_sl ([.ref (b + x0)])).length) Slot.unset).toArray = ls at hl ⊢
  have hl : lv_has ls 5 [(0, .ref (b + x0))] := hl
  generalize ([.ref (b + x0)] : List Value).toArray = av at hts ⊢
  show W p l e rmX10_digest s m av below meth c s.heap [] 0 0 _ _
  obtain ⟨QQ, hQQ⟩ : ∃ z, z = MQ below (va_Ql (fun r u => r = o1 ∧ u = (o2, o3, R)) (QW D ce b kdC lnC 272) (box b 272)) av s 0 0 (box b 272) := ⟨_, rfl⟩
  rw [← hQQ]
  have hret : ∀ (r : Int64) (I1 : mI) (L1 : mL), some (r, I1, L1) = some (o1, o2, o3) → ∀ (H1 : Heap) (locs1 : List Loc) (ls1 : Array Slot) (pc1 : Nat), decode cX10_digest pc1 = .ok (.lreturn, 1) → va_P D vwCl (wd ce b kdC lnC 272 I1 L1 R) H1 → WT kdC R → va_S (box b 272) s.heap H1 locs1 → W p l e rmX10_digest s m av below meth c H1 locs1 0 0 QQ (F0 m pc1 ls1 [.long r]) := by
    intro r I1 L1 hq H1 locs1 ls1 pc1 hd hP hT hS
    cases hq
    rw [hQQ]
    exact mm_lret hx hb hr hlocks hP hT hS hd
  unfold f_X10_digest at hf
  obtain ⟨H, hH⟩ : ∃ z, z = s.heap := ⟨_, rfl⟩
  obtain ⟨locs, hlo⟩ : ∃ z : List Loc, z = [] := ⟨_, rfl⟩
  have hP : va_P D vwCl (wd ce b kdC lnC 272 I L R) H := by rw [hH]; exact hP
  have hS : va_S (box b 272) s.heap H locs := by rw [hH, hlo]; exact hS
  rw [show W p l e rmX10_digest s m av below meth c s.heap [] 0 0 QQ = W p l e rmX10_digest s m av below meth c H locs 0 0 QQ by rw [hH, hlo]]
  clear hH hlo
  clear hQQ
  show W p l e rmX10_digest s m av below meth c H locs 0 0 QQ (F0 m 0 ls [])
  refine lv_ldc2 (v := (2609 : Int64)) hx hb hown (hts _ cwX10_242) dX10_digest_0 ?_
  refine lv_lstore_n (lv' := [(1, .long (2609 : Int64)), (0, .ref (b + x0))]) hx hb dX10_digest_3 rfl hl (Nat.le_of_ble_eq_true rfl) rfl (fun ls hl => ?_)
  refine lv_iconst (v := (0 : Int32)) hx hb dX10_digest_4 (by decide) ?_
  refine lv_istore_n (lv' := [(3, .int (0 : Int32)), (1, .long (2609 : Int64)), (0, .ref (b + x0))]) hx hb dX10_digest_5 rfl hl (Nat.le_of_ble_eq_true rfl) rfl (fun ls hl => ?_)
  have lp6 : ∀ (n : Nat) (x0 : Nat) (x1 : Int64) (x3 : Int32) (I : mI) (L : mL) (R : mR) (a1 : Int64) (a2 : mI) (H : Heap) (locs : List Loc) (ls : Array Slot), va_P D vwCl (wd ce b kdC lnC 272 I L R) H → va_S (box b 272) s.heap H locs → WT kdC R → kdC x0 = 16 → lv_has ls 5 [(0, .ref (b + x0)), (1, .long x1), (3, .int x3)] → f_X10_digest_L6 n x0 x1 x3 I L R = some (a1, a2) → (∀ (H1 : Heap) (locs1 : List Loc) (ls1 : Array Slot), va_P D vwCl (wd ce b kdC lnC 272 a2 L R) H1 → va_S (box b 272) s.heap H1 locs1 → lv_has ls1 5 [(0, .ref (b + x0)), (1, .long a1)] → W p l e rmX10_digest s m av below meth c H1 locs1 0 0 QQ (F0 m 31 ls1 [])) → W p l e rmX10_digest s m av below meth c H locs 0 0 QQ (F0 m 6 ls []) := by
    intro n
    induction n with
    | zero =>
      intro x0 x1 x3 I L R a1 a2 H locs ls hP hS hT h0 hl hf kx
      exact absurd (show (none : Option (Int64 × mI)) = some _ from hf) (by simp)
    | succ n ih =>
      intro x0 x1 x3 I L R a1 a2 H locs ls hP hS hT h0 hl hf kx
      rw [f_X10_digest_L6] at hf
      refine lv_iload_n hx hb dX10_digest_6 rfl (lv_at hl 2 rfl) ?_
      refine lv_bipush (v := (6 : Int32)) hx hb dX10_digest_7 (by decide) ?_
      refine lv_icmp_gt (tgt := 31) hx hb dX10_digest_9 (by decide) (fun c1 => ?_) (fun c1 => ?_)
      · have hf := ifT hf c1
        cases hf
        exact kx H locs ls hP hS (lv_sub hl [0, 1] rfl)
      · have hf := ifF hf c1
        refine lv_ldc2 (v := (31 : Int64)) hx hb hown (hts _ cwX10_244) dX10_digest_12 ?_
        refine lv_lload_n hx hb dX10_digest_15 rfl (lv_at hl 1 rfl) ?_
        refine lv_lmul hx hb dX10_digest_16 ?_
        refine lv_aload_n hx hb dX10_digest_17 rfl (lv_at hl 0 rfl) ?_
        refine lv_iload_n hx hb dX10_digest_18 rfl (lv_at hl 2 rfl) ?_
        obtain ⟨r2, I2, e2, hf⟩ := bd2_o hf
        refine mm_Vi (rest := [.long ((31 : Int64) * x1)]) hx hb hml hown hts hKK hP hS hA (kdC_lt h0 (Nat.succ_ne_zero _)) h0 (show vwCl[10]? = some (yX10_told.cls, TX10, 15) from rfl) vkX10_246 (k_X10_told l D ce b I L R hT x0 x3 h0 r2 I2 e2) rfl hl.1 rfl (Nat.le_of_ble_eq_true rfl) ⟨rfl, rfl⟩ ⟨Nat.le_of_ble_eq_true rfl, Nat.le_of_ble_eq_true rfl⟩ ⟨Nat.zero_le _, Nat.zero_le _⟩ dX10_digest_19 (fun H locs hP hT hS => ?_)
        refine lv_i2l (v := (r2).toInt64) hx hb dX10_digest_22 rfl ?_
        refine lv_ladd hx hb dX10_digest_23 ?_
        refine lv_lstore_n (lv' := [(1, .long (((31 : Int64) * x1) + ((r2).toInt64))), (0, .ref (b + x0)), (3, .int x3)]) hx hb dX10_digest_24 rfl hl (Nat.le_of_ble_eq_true rfl) rfl (fun ls hl => ?_)
        refine lv_iinc (v := (x3 + (1 : Int32))) (lv' := [(3, .int (x3 + (1 : Int32))), (1, .long (((31 : Int64) * x1) + ((r2).toInt64))), (0, .ref (b + x0))]) hx hb dX10_digest_25 hl (k := 2) rfl rfl (Nat.le_of_ble_eq_true rfl) rfl (fun ls hl => ?_)
        refine lv_goto (tgt := 6) hx hb dX10_digest_28 (by decide) ?_
        exact ih x0 (((31 : Int64) * x1) + ((r2).toInt64)) (x3 + (1 : Int32)) I2 L R a1 a2 H locs ls hP hS hT h0 (lv_sub hl [2, 1, 0] rfl) hf kx
  obtain ⟨y1_3, I_3, e_3, hf⟩ := bd2_o hf
  refine lp6 FU x0 (2609 : Int64) (0 : Int32) I L R y1_3 I_3 H locs ls hP hS hT h0 (lv_sub hl [2, 1, 0] rfl) e_3 (fun H locs ls hP hS hl => ?_)
  refine lv_iconst (v := (0 : Int32)) hx hb dX10_digest_31 (by decide) ?_
  refine lv_istore_n (lv' := [(3, .int (0 : Int32)), (0, .ref (b + x0)), (1, .long y1_3)]) hx hb dX10_digest_32 rfl hl (Nat.le_of_ble_eq_true rfl) rfl (fun ls hl => ?_)
  have lp33 : ∀ (n : Nat) (x0 : Nat) (x1 : Int64) (x3 : Int32) (I : mI) (L : mL) (R : mR) (a1 : Int64) (a2 : mI) (a3 : mL) (H : Heap) (locs : List Loc) (ls : Array Slot), va_P D vwCl (wd ce b kdC lnC 272 I L R) H → va_S (box b 272) s.heap H locs → WT kdC R → kdC x0 = 16 → lv_has ls 5 [(0, .ref (b + x0)), (1, .long x1), (3, .int x3)] → f_X10_digest_L33 n x0 x1 x3 I L R = some (a1, a2, a3) → (∀ (H1 : Heap) (locs1 : List Loc) (ls1 : Array Slot), va_P D vwCl (wd ce b kdC lnC 272 a2 a3 R) H1 → va_S (box b 272) s.heap H1 locs1 → lv_has ls1 5 [(0, .ref (b + x0)), (1, .long a1)] → W p l e rmX10_digest s m av below meth c H1 locs1 0 0 QQ (F0 m 95 ls1 [])) → W p l e rmX10_digest s m av below meth c H locs 0 0 QQ (F0 m 33 ls []) := by
    intro n
    induction n with
    | zero =>
      intro x0 x1 x3 I L R a1 a2 a3 H locs ls hP hS hT h0 hl hf kx
      exact absurd (show (none : Option (Int64 × mI × mL)) = some _ from hf) (by simp)
    | succ n ih =>
      intro x0 x1 x3 I L R a1 a2 a3 H locs ls hP hS hT h0 hl hf kx
      rw [f_X10_digest_L33] at hf
      refine lv_iload_n hx hb dX10_digest_33 rfl (lv_at hl 2 rfl) ?_
      refine lv_aload_n hx hb dX10_digest_34 rfl (lv_at hl 0 rfl) ?_
      have t4 : kdC (R x0 0) = 13 := wt hT h0 rfl
      refine mm_getr hx hb hts hown hKK hP fk10_0 (Nat.le_of_ble_eq_true rfl) lkX10_10 (kdC_lt h0 (Nat.succ_ne_zero _)) h0 (nC t4 (Nat.succ_ne_zero _)) dX10_digest_35 ?_
      refine mm_geti hx hb hts hown hKK hP fk7_2 (Or.inl rfl) lkX10_105 (kdC_lt t4 (Nat.succ_ne_zero _)) t4 dX10_digest_38 ?_
      refine lv_icmp_ge (tgt := 95) hx hb dX10_digest_41 (by decide) (fun c5 => ?_) (fun c5 => ?_)
      · have hf := ifT hf c5
        cases hf
        exact kx H locs ls hP hS (lv_sub hl [0, 1] rfl)
      · have hf := ifF hf c5
        refine lv_iconst (v := (0 : Int32)) hx hb dX10_digest_44 (by decide) ?_
        refine lv_istore (lv' := [(4, .int (0 : Int32)), (0, .ref (b + x0)), (1, .long x1), (3, .int x3)]) hx hb dX10_digest_45 hl (Nat.le_of_ble_eq_true rfl) rfl (fun ls hl => ?_)
        have lp47 : ∀ (n : Nat) (x0 : Nat) (x1 : Int64) (x3 : Int32) (x4 : Int32) (I : mI) (L : mL) (R : mR) (a1 : Int64) (a2 : mI) (a3 : mL) (H : Heap) (locs : List Loc) (ls : Array Slot), va_P D vwCl (wd ce b kdC lnC 272 I L R) H → va_S (box b 272) s.heap H locs → WT kdC R → kdC x0 = 16 → lv_has ls 5 [(0, .ref (b + x0)), (1, .long x1), (3, .int x3), (4, .int x4)] → f_X10_digest_L47 n x0 x1 x3 x4 I L R = some (a1, a2, a3) → (∀ (H1 : Heap) (locs1 : List Loc) (ls1 : Array Slot), va_P D vwCl (wd ce b kdC lnC 272 a2 a3 R) H1 → va_S (box b 272) s.heap H1 locs1 → lv_has ls1 5 [(0, .ref (b + x0)), (1, .long a1), (3, .int x3)] → W p l e rmX10_digest s m av below meth c H1 locs1 0 0 QQ (F0 m 74 ls1 [])) → W p l e rmX10_digest s m av below meth c H locs 0 0 QQ (F0 m 47 ls []) := by
          intro n
          induction n with
          | zero =>
            intro x0 x1 x3 x4 I L R a1 a2 a3 H locs ls hP hS hT h0 hl hf kx
            exact absurd (show (none : Option (Int64 × mI × mL)) = some _ from hf) (by simp)
          | succ n ih =>
            intro x0 x1 x3 x4 I L R a1 a2 a3 H locs ls hP hS hT h0 hl hf kx
            rw [f_X10_digest_L47] at hf
            refine lv_iload hx hb dX10_digest_47 (lv_at hl 3 rfl) ?_
            refine lv_iconst (v := (5 : Int32)) hx hb dX10_digest_49 (by decide) ?_
            refine lv_icmp_gt (tgt := 74) hx hb dX10_digest_50 (by decide) (fun c6 => ?_) (fun c6 => ?_)
            · have hf := ifT hf c6
              cases hf
              exact kx H locs ls hP hS (lv_sub hl [0, 1, 2] rfl)
            · have hf := ifF hf c6
              refine lv_ldc2 (v := (31 : Int64)) hx hb hown (hts _ cwX10_244) dX10_digest_53 ?_
              refine lv_lload_n hx hb dX10_digest_56 rfl (lv_at hl 1 rfl) ?_
              refine lv_lmul hx hb dX10_digest_57 ?_
              refine lv_aload_n hx hb dX10_digest_58 rfl (lv_at hl 0 rfl) ?_
              refine lv_iload_n hx hb dX10_digest_59 rfl (lv_at hl 2 rfl) ?_
              refine lv_iload hx hb dX10_digest_60 (lv_at hl 3 rfl) ?_
              obtain ⟨r7, I7, L7, e7, hf⟩ := bd3_o hf
              refine mm_Vi (rest := [.long ((31 : Int64) * x1)]) hx hb hml hown hts hKK hP hS hA (kdC_lt h0 (Nat.succ_ne_zero _)) h0 (show vwCl[10]? = some (yX10_of.cls, TX10, 15) from rfl) vkX10_250 (k_X10_of l D ce b I L R hT x0 x3 x4 h0 r7 I7 L7 e7) rfl hl.1 rfl (Nat.le_of_ble_eq_true rfl) ⟨rfl, rfl⟩ ⟨Nat.le_of_ble_eq_true rfl, Nat.le_of_ble_eq_true rfl⟩ ⟨Nat.zero_le _, Nat.zero_le _⟩ dX10_digest_62 (fun H locs hP hT hS => ?_)
              refine lv_i2l (v := (r7).toInt64) hx hb dX10_digest_65 rfl ?_
              refine lv_ladd hx hb dX10_digest_66 ?_
              refine lv_lstore_n (lv' := [(1, .long (((31 : Int64) * x1) + ((r7).toInt64))), (0, .ref (b + x0)), (3, .int x3), (4, .int x4)]) hx hb dX10_digest_67 rfl hl (Nat.le_of_ble_eq_true rfl) rfl (fun ls hl => ?_)
              refine lv_iinc (v := (x4 + (1 : Int32))) (lv' := [(4, .int (x4 + (1 : Int32))), (1, .long (((31 : Int64) * x1) + ((r7).toInt64))), (0, .ref (b + x0)), (3, .int x3)]) hx hb dX10_digest_68 hl (k := 3) rfl rfl (Nat.le_of_ble_eq_true rfl) rfl (fun ls hl => ?_)
              refine lv_goto (tgt := 47) hx hb dX10_digest_71 (by decide) ?_
              exact ih x0 (((31 : Int64) * x1) + ((r7).toInt64)) x3 (x4 + (1 : Int32)) I7 L7 R a1 a2 a3 H locs ls hP hS hT h0 (lv_sub hl [2, 1, 3, 0] rfl) hf kx
        obtain ⟨y1_8, I_8, L_8, e_8, hf⟩ := bd3_o hf
        refine lp47 FU x0 x1 x3 (0 : Int32) I L R y1_8 I_8 L_8 H locs ls hP hS hT h0 (lv_sub hl [1, 2, 3, 0] rfl) e_8 (fun H locs ls hP hS hl => ?_)
        refine lv_ldc2 (v := (31 : Int64)) hx hb hown (hts _ cwX10_244) dX10_digest_74 ?_
        refine lv_lload_n hx hb dX10_digest_77 rfl (lv_at hl 1 rfl) ?_
        refine lv_lmul hx hb dX10_digest_78 ?_
        refine lv_aload_n hx hb dX10_digest_79 rfl (lv_at hl 0 rfl) ?_
        refine lv_ldc (v := (1111111 : Int32)) hx hb hown (hts _ cwX10_254) dX10_digest_80 ?_
        refine lv_iload_n hx hb dX10_digest_82 rfl (lv_at hl 2 rfl) ?_
        obtain ⟨r9, I9, e9, hf⟩ := bd2_o hf
        refine mm_Vi (rest := [.long ((31 : Int64) * y1_8)]) hx hb hml hown hts hKK hP hS hA (kdC_lt h0 (Nat.succ_ne_zero _)) h0 (show vwCl[10]? = some (yX10_weighs.cls, TX10, 15) from rfl) vkX10_255 (k_X10_weighs l D ce b I_8 L_8 R hT x0 (1111111 : Int32) x3 h0 r9 I9 e9) rfl hl.1 rfl (Nat.le_of_ble_eq_true rfl) ⟨rfl, rfl⟩ ⟨Nat.le_of_ble_eq_true rfl, Nat.le_of_ble_eq_true rfl⟩ ⟨Nat.zero_le _, Nat.zero_le _⟩ dX10_digest_83 (fun H locs hP hT hS => ?_)
        refine lv_i2l (v := (r9).toInt64) hx hb dX10_digest_86 rfl ?_
        refine lv_ladd hx hb dX10_digest_87 ?_
        refine lv_lstore_n (lv' := [(1, .long (((31 : Int64) * y1_8) + ((r9).toInt64))), (0, .ref (b + x0)), (3, .int x3)]) hx hb dX10_digest_88 rfl hl (Nat.le_of_ble_eq_true rfl) rfl (fun ls hl => ?_)
        refine lv_iinc (v := (x3 + (1 : Int32))) (lv' := [(3, .int (x3 + (1 : Int32))), (1, .long (((31 : Int64) * y1_8) + ((r9).toInt64))), (0, .ref (b + x0))]) hx hb dX10_digest_89 hl (k := 2) rfl rfl (Nat.le_of_ble_eq_true rfl) rfl (fun ls hl => ?_)
        refine lv_goto (tgt := 33) hx hb dX10_digest_92 (by decide) ?_
        exact ih x0 (((31 : Int64) * y1_8) + ((r9).toInt64)) (x3 + (1 : Int32)) I9 L_8 R a1 a2 a3 H locs ls hP hS hT h0 (lv_sub hl [2, 1, 0] rfl) hf kx
  obtain ⟨y1_10, I_10, L_10, e_10, hf⟩ := bd3_o hf
  refine lp33 FU x0 y1_3 (0 : Int32) I_3 L R y1_10 I_10 L_10 H locs ls hP hS hT h0 (lv_sub hl [1, 2, 0] rfl) e_10 (fun H locs ls hP hS hl => ?_)
  refine lv_iconst (v := (0 : Int32)) hx hb dX10_digest_95 (by decide) ?_
  refine lv_istore_n (lv' := [(3, .int (0 : Int32)), (0, .ref (b + x0)), (1, .long y1_10)]) hx hb dX10_digest_96 rfl hl (Nat.le_of_ble_eq_true rfl) rfl (fun ls hl => ?_)
  have lp97 : ∀ (n : Nat) (x0 : Nat) (x1 : Int64) (x3 : Int32) (I : mI) (L : mL) (R : mR) (a1 : Int64) (H : Heap) (locs : List Loc) (ls : Array Slot), va_P D vwCl (wd ce b kdC lnC 272 I L R) H → va_S (box b 272) s.heap H locs → WT kdC R → kdC x0 = 16 → lv_has ls 5 [(0, .ref (b + x0)), (1, .long x1), (3, .int x3)] → f_X10_digest_L97 n x0 x1 x3 I L R = some a1 → (∀ (H1 : Heap) (locs1 : List Loc) (ls1 : Array Slot), va_P D vwCl (wd ce b kdC lnC 272 I L R) H1 → va_S (box b 272) s.heap H1 locs1 → lv_has ls1 5 [(0, .ref (b + x0)), (1, .long a1)] → W p l e rmX10_digest s m av below meth c H1 locs1 0 0 QQ (F0 m 137 ls1 [])) → W p l e rmX10_digest s m av below meth c H locs 0 0 QQ (F0 m 97 ls []) := by
    intro n
    induction n with
    | zero =>
      intro x0 x1 x3 I L R a1 H locs ls hP hS hT h0 hl hf kx
      exact absurd (show (none : Option (Int64)) = some _ from hf) (by simp)
    | succ n ih =>
      intro x0 x1 x3 I L R a1 H locs ls hP hS hT h0 hl hf kx
      rw [f_X10_digest_L97] at hf
      refine lv_iload_n hx hb dX10_digest_97 rfl (lv_at hl 2 rfl) ?_
      refine lv_aload_n hx hb dX10_digest_98 rfl (lv_at hl 0 rfl) ?_
      have t11 : kdC (R x0 0) = 13 := wt hT h0 rfl
      refine mm_getr hx hb hts hown hKK hP fk10_0 (Nat.le_of_ble_eq_true rfl) lkX10_10 (kdC_lt h0 (Nat.succ_ne_zero _)) h0 (nC t11 (Nat.succ_ne_zero _)) dX10_digest_99 ?_
      have t12 : kdC (R (R x0 0) 1) = 14 := wt hT t11 rfl
      refine mm_getr hx hb hts hown hKK hP fk7_1 (Nat.le_of_ble_eq_true rfl) lkX10_75 (kdC_lt t11 (Nat.succ_ne_zero _)) t11 (nC t12 (Nat.succ_ne_zero _)) dX10_digest_102 ?_
      refine mm_geti hx hb hts hown hKK hP fk8_2 (Or.inl rfl) lkX10_119 (kdC_lt t12 (Nat.succ_ne_zero _)) t12 dX10_digest_105 ?_
      refine lv_icmp_ge (tgt := 137) hx hb dX10_digest_108 (by decide) (fun c13 => ?_) (fun c13 => ?_)
      · have hf := ifT hf c13
        cases hf
        exact kx H locs ls hP hS (lv_sub hl [0, 1] rfl)
      · have hf := ifF hf c13
        refine lv_ldc2 (v := (31 : Int64)) hx hb hown (hts _ cwX10_244) dX10_digest_111 ?_
        refine lv_lload_n hx hb dX10_digest_114 rfl (lv_at hl 1 rfl) ?_
        refine lv_lmul hx hb dX10_digest_115 ?_
        refine lv_aload_n hx hb dX10_digest_116 rfl (lv_at hl 0 rfl) ?_
        refine mm_getr hx hb hts hown hKK hP fk10_0 (Nat.le_of_ble_eq_true rfl) lkX10_10 (kdC_lt h0 (Nat.succ_ne_zero _)) h0 (nC t11 (Nat.succ_ne_zero _)) dX10_digest_117 ?_
        refine mm_getr hx hb hts hown hKK hP fk7_1 (Nat.le_of_ble_eq_true rfl) lkX10_75 (kdC_lt t11 (Nat.succ_ne_zero _)) t11 (nC t12 (Nat.succ_ne_zero _)) dX10_digest_120 ?_
        have t14 : kdC (R (R (R x0 0) 1) 0) = 1 := wt hT t12 rfl
        refine mm_getr hx hb hts hown hKK hP fk8_0 (Nat.le_of_ble_eq_true rfl) lkX10_144 (kdC_lt t12 (Nat.succ_ne_zero _)) t12 (nC t14 (Nat.succ_ne_zero _)) dX10_digest_123 ?_
        refine lv_iload_n hx hb dX10_digest_126 rfl (lv_at hl 2 rfl) ?_
        obtain ⟨g15, hf⟩ := grd hf
        refine mm_iald hx hb hKK hP (kdC_lt t14 (Nat.succ_ne_zero _)) t14 g15 dX10_digest_127 ?_
        refine lv_i2l (v := ((I (R (R (R x0 0) 1) 0) x3.toNatClampNeg)).toInt64) hx hb dX10_digest_128 rfl ?_
        refine lv_ladd hx hb dX10_digest_129 ?_
        refine lv_lstore_n (lv' := [(1, .long (((31 : Int64) * x1) + (((I (R (R (R x0 0) 1) 0) x3.toNatClampNeg)).toInt64))), (0, .ref (b + x0)), (3, .int x3)]) hx hb dX10_digest_130 rfl hl (Nat.le_of_ble_eq_true rfl) rfl (fun ls hl => ?_)
        refine lv_iinc (v := (x3 + (1 : Int32))) (lv' := [(3, .int (x3 + (1 : Int32))), (1, .long (((31 : Int64) * x1) + (((I (R (R (R x0 0) 1) 0) x3.toNatClampNeg)).toInt64))), (0, .ref (b + x0))]) hx hb dX10_digest_131 hl (k := 2) rfl rfl (Nat.le_of_ble_eq_true rfl) rfl (fun ls hl => ?_)
        refine lv_goto (tgt := 97) hx hb dX10_digest_134 (by decide) ?_
        exact ih x0 (((31 : Int64) * x1) + (((I (R (R (R x0 0) 1) 0) x3.toNatClampNeg)).toInt64)) (x3 + (1 : Int32)) I L R a1 H locs ls hP hS hT h0 (lv_sub hl [2, 1, 0] rfl) hf kx
  obtain ⟨y1_16, e_16, hf⟩ := bd1_o hf
  refine lp97 FU x0 y1_10 (0 : Int32) I_10 L_10 R y1_16 H locs ls hP hS hT h0 (lv_sub hl [1, 2, 0] rfl) e_16 (fun H locs ls hP hS hl => ?_)
  refine lv_ldc2 (v := (31 : Int64)) hx hb hown (hts _ cwX10_244) dX10_digest_137 ?_
  refine lv_lload_n hx hb dX10_digest_140 rfl (lv_at hl 1 rfl) ?_
  refine lv_lmul hx hb dX10_digest_141 ?_
  refine lv_aload_n hx hb dX10_digest_142 rfl (lv_at hl 0 rfl) ?_
  obtain ⟨r17, I17, e17, hf⟩ := bd2_o hf
  refine mm_Vi (rest := [.long ((31 : Int64) * y1_16)]) hx hb hml hown hts hKK hP hS hA (kdC_lt h0 (Nat.succ_ne_zero _)) h0 (show vwCl[10]? = some (yX10_fall.cls, TX10, 15) from rfl) vkX10_258 (k_X10_fall l D ce b I_10 L_10 R hT x0 h0 r17 I17 e17) rfl hl.1 rfl (Nat.le_of_ble_eq_true rfl) ⟨rfl, rfl⟩ ⟨Nat.le_of_ble_eq_true rfl, Nat.le_of_ble_eq_true rfl⟩ ⟨Nat.zero_le _, Nat.zero_le _⟩ dX10_digest_143 (fun H locs hP hT hS => ?_)
  refine lv_i2l (v := (r17).toInt64) hx hb dX10_digest_146 rfl ?_
  refine lv_ladd hx hb dX10_digest_147 ?_
  refine lv_lstore_n (lv' := [(1, .long (((31 : Int64) * y1_16) + ((r17).toInt64))), (0, .ref (b + x0))]) hx hb dX10_digest_148 rfl hl (Nat.le_of_ble_eq_true rfl) rfl (fun ls hl => ?_)
  refine lv_iconst (v := (0 : Int32)) hx hb dX10_digest_149 (by decide) ?_
  refine lv_istore_n (lv' := [(3, .int (0 : Int32)), (1, .long (((31 : Int64) * y1_16) + ((r17).toInt64))), (0, .ref (b + x0))]) hx hb dX10_digest_150 rfl hl (Nat.le_of_ble_eq_true rfl) rfl (fun ls hl => ?_)
  have lp151 : ∀ (n : Nat) (x0 : Nat) (x1 : Int64) (x3 : Int32) (I : mI) (L : mL) (R : mR) (a1 : Int64) (a2 : mI) (a3 : mL) (H : Heap) (locs : List Loc) (ls : Array Slot), va_P D vwCl (wd ce b kdC lnC 272 I L R) H → va_S (box b 272) s.heap H locs → WT kdC R → kdC x0 = 16 → lv_has ls 5 [(0, .ref (b + x0)), (1, .long x1), (3, .int x3)] → f_X10_digest_L151 n x0 x1 x3 I L R = some (a1, a2, a3) → (∀ (H1 : Heap) (locs1 : List Loc) (ls1 : Array Slot), va_P D vwCl (wd ce b kdC lnC 272 a2 a3 R) H1 → va_S (box b 272) s.heap H1 locs1 → lv_has ls1 5 [(0, .ref (b + x0)), (1, .long a1)] → W p l e rmX10_digest s m av below meth c H1 locs1 0 0 QQ (F0 m 175 ls1 [])) → W p l e rmX10_digest s m av below meth c H locs 0 0 QQ (F0 m 151 ls []) := by
    intro n
    induction n with
    | zero =>
      intro x0 x1 x3 I L R a1 a2 a3 H locs ls hP hS hT h0 hl hf kx
      exact absurd (show (none : Option (Int64 × mI × mL)) = some _ from hf) (by simp)
    | succ n ih =>
      intro x0 x1 x3 I L R a1 a2 a3 H locs ls hP hS hT h0 hl hf kx
      rw [f_X10_digest_L151] at hf
      refine lv_iload_n hx hb dX10_digest_151 rfl (lv_at hl 2 rfl) ?_
      refine lv_iconst (v := (2 : Int32)) hx hb dX10_digest_152 (by decide) ?_
      refine lv_icmp_gt (tgt := 175) hx hb dX10_digest_153 (by decide) (fun c18 => ?_) (fun c18 => ?_)
      · have hf := ifT hf c18
        cases hf
        exact kx H locs ls hP hS (lv_sub hl [0, 1] rfl)
      · have hf := ifF hf c18
        refine lv_ldc2 (v := (31 : Int64)) hx hb hown (hts _ cwX10_244) dX10_digest_156 ?_
        refine lv_lload_n hx hb dX10_digest_159 rfl (lv_at hl 1 rfl) ?_
        refine lv_lmul hx hb dX10_digest_160 ?_
        refine lv_aload_n hx hb dX10_digest_161 rfl (lv_at hl 0 rfl) ?_
        refine lv_iload_n hx hb dX10_digest_162 rfl (lv_at hl 2 rfl) ?_
        obtain ⟨r19, I19, L19, e19, hf⟩ := bd3_o hf
        refine mm_Vi (rest := [.long ((31 : Int64) * x1)]) hx hb hml hown hts hKK hP hS hA (kdC_lt h0 (Nat.succ_ne_zero _)) h0 (show vwCl[10]? = some (yX10_calls.cls, TX10, 15) from rfl) vkX10_261 (k_X10_calls l D ce b I L R hT x0 x3 h0 r19 I19 L19 e19) rfl hl.1 rfl (Nat.le_of_ble_eq_true rfl) ⟨rfl, rfl⟩ ⟨Nat.le_of_ble_eq_true rfl, Nat.le_of_ble_eq_true rfl⟩ ⟨Nat.zero_le _, Nat.zero_le _⟩ dX10_digest_163 (fun H locs hP hT hS => ?_)
        refine lv_i2l (v := (r19).toInt64) hx hb dX10_digest_166 rfl ?_
        refine lv_ladd hx hb dX10_digest_167 ?_
        refine lv_lstore_n (lv' := [(1, .long (((31 : Int64) * x1) + ((r19).toInt64))), (0, .ref (b + x0)), (3, .int x3)]) hx hb dX10_digest_168 rfl hl (Nat.le_of_ble_eq_true rfl) rfl (fun ls hl => ?_)
        refine lv_iinc (v := (x3 + (1 : Int32))) (lv' := [(3, .int (x3 + (1 : Int32))), (1, .long (((31 : Int64) * x1) + ((r19).toInt64))), (0, .ref (b + x0))]) hx hb dX10_digest_169 hl (k := 2) rfl rfl (Nat.le_of_ble_eq_true rfl) rfl (fun ls hl => ?_)
        refine lv_goto (tgt := 151) hx hb dX10_digest_172 (by decide) ?_
        exact ih x0 (((31 : Int64) * x1) + ((r19).toInt64)) (x3 + (1 : Int32)) I19 L19 R a1 a2 a3 H locs ls hP hS hT h0 (lv_sub hl [2, 1, 0] rfl) hf kx
  obtain ⟨y1_20, I_20, L_20, e_20, hf⟩ := bd3_o hf
  refine lp151 FU x0 (((31 : Int64) * y1_16) + ((r17).toInt64)) (0 : Int32) I17 L_10 R y1_20 I_20 L_20 H locs ls hP hS hT h0 (lv_sub hl [2, 1, 0] rfl) e_20 (fun H locs ls hP hS hl => ?_)
  refine lv_iconst (v := (0 : Int32)) hx hb dX10_digest_175 (by decide) ?_
  refine lv_istore_n (lv' := [(3, .int (0 : Int32)), (0, .ref (b + x0)), (1, .long y1_20)]) hx hb dX10_digest_176 rfl hl (Nat.le_of_ble_eq_true rfl) rfl (fun ls hl => ?_)
  have lp177 : ∀ (n : Nat) (x0 : Nat) (x1 : Int64) (x3 : Int32) (I : mI) (L : mL) (R : mR) (a1 : Int64) (a2 : mI) (a3 : mL) (H : Heap) (locs : List Loc) (ls : Array Slot), va_P D vwCl (wd ce b kdC lnC 272 I L R) H → va_S (box b 272) s.heap H locs → WT kdC R → kdC x0 = 16 → lv_has ls 5 [(0, .ref (b + x0)), (1, .long x1), (3, .int x3)] → f_X10_digest_L177 n x0 x1 x3 I L R = some (a1, a2, a3) → (∀ (H1 : Heap) (locs1 : List Loc) (ls1 : Array Slot), va_P D vwCl (wd ce b kdC lnC 272 a2 a3 R) H1 → va_S (box b 272) s.heap H1 locs1 → lv_has ls1 5 [(0, .ref (b + x0)), (1, .long a1)] → W p l e rmX10_digest s m av below meth c H1 locs1 0 0 QQ (F0 m 224 ls1 [])) → W p l e rmX10_digest s m av below meth c H locs 0 0 QQ (F0 m 177 ls []) := by
    intro n
    induction n with
    | zero =>
      intro x0 x1 x3 I L R a1 a2 a3 H locs ls hP hS hT h0 hl hf kx
      exact absurd (show (none : Option (Int64 × mI × mL)) = some _ from hf) (by simp)
    | succ n ih =>
      intro x0 x1 x3 I L R a1 a2 a3 H locs ls hP hS hT h0 hl hf kx
      rw [f_X10_digest_L177] at hf
      refine lv_iload_n hx hb dX10_digest_177 rfl (lv_at hl 2 rfl) ?_
      refine lv_aload_n hx hb dX10_digest_178 rfl (lv_at hl 0 rfl) ?_
      have t21 : kdC (R x0 4) = 6 := wt hT h0 rfl
      refine mm_getr hx hb hts hown hKK hP fk10_4 (Nat.le_of_ble_eq_true rfl) lkX10_40 (kdC_lt h0 (Nat.succ_ne_zero _)) h0 (nC t21 (Nat.succ_ne_zero _)) dX10_digest_179 ?_
      refine mm_geti hx hb hts hown hKK hP fk0_8 (Or.inl rfl) lkX10_186 (kdC_lt t21 (Nat.succ_ne_zero _)) t21 dX10_digest_182 ?_
      refine lv_icmp_ge (tgt := 224) hx hb dX10_digest_185 (by decide) (fun c22 => ?_) (fun c22 => ?_)
      · have hf := ifT hf c22
        cases hf
        exact kx H locs ls hP hS (lv_sub hl [0, 1] rfl)
      · have hf := ifF hf c22
        refine lv_iconst (v := (0 : Int32)) hx hb dX10_digest_188 (by decide) ?_
        refine lv_istore (lv' := [(4, .int (0 : Int32)), (0, .ref (b + x0)), (1, .long x1), (3, .int x3)]) hx hb dX10_digest_189 hl (Nat.le_of_ble_eq_true rfl) rfl (fun ls hl => ?_)
        have lp191 : ∀ (n : Nat) (x0 : Nat) (x1 : Int64) (x3 : Int32) (x4 : Int32) (I : mI) (L : mL) (R : mR) (a1 : Int64) (a2 : mI) (a3 : mL) (H : Heap) (locs : List Loc) (ls : Array Slot), va_P D vwCl (wd ce b kdC lnC 272 I L R) H → va_S (box b 272) s.heap H locs → WT kdC R → kdC x0 = 16 → lv_has ls 5 [(0, .ref (b + x0)), (1, .long x1), (3, .int x3), (4, .int x4)] → f_X10_digest_L191 n x0 x1 x3 x4 I L R = some (a1, a2, a3) → (∀ (H1 : Heap) (locs1 : List Loc) (ls1 : Array Slot), va_P D vwCl (wd ce b kdC lnC 272 a2 a3 R) H1 → va_S (box b 272) s.heap H1 locs1 → lv_has ls1 5 [(0, .ref (b + x0)), (1, .long a1), (3, .int x3)] → W p l e rmX10_digest s m av below meth c H1 locs1 0 0 QQ (F0 m 218 ls1 [])) → W p l e rmX10_digest s m av below meth c H locs 0 0 QQ (F0 m 191 ls []) := by
          intro n
          induction n with
          | zero =>
            intro x0 x1 x3 x4 I L R a1 a2 a3 H locs ls hP hS hT h0 hl hf kx
            exact absurd (show (none : Option (Int64 × mI × mL)) = some _ from hf) (by simp)
          | succ n ih =>
            intro x0 x1 x3 x4 I L R a1 a2 a3 H locs ls hP hS hT h0 hl hf kx
            rw [f_X10_digest_L191] at hf
            refine lv_iload hx hb dX10_digest_191 (lv_at hl 3 rfl) ?_
            refine lv_iconst (v := (3 : Int32)) hx hb dX10_digest_193 (by decide) ?_
            refine lv_icmp_gt (tgt := 218) hx hb dX10_digest_194 (by decide) (fun c23 => ?_) (fun c23 => ?_)
            · have hf := ifT hf c23
              cases hf
              exact kx H locs ls hP hS (lv_sub hl [0, 1, 2] rfl)
            · have hf := ifF hf c23
              refine lv_ldc2 (v := (31 : Int64)) hx hb hown (hts _ cwX10_244) dX10_digest_197 ?_
              refine lv_lload_n hx hb dX10_digest_200 rfl (lv_at hl 1 rfl) ?_
              refine lv_lmul hx hb dX10_digest_201 ?_
              refine lv_aload_n hx hb dX10_digest_202 rfl (lv_at hl 0 rfl) ?_
              refine lv_iload_n hx hb dX10_digest_203 rfl (lv_at hl 2 rfl) ?_
              refine lv_iload hx hb dX10_digest_204 (lv_at hl 3 rfl) ?_
              obtain ⟨r24, I24, L24, e24, hf⟩ := bd3_o hf
              refine mm_Vi (rest := [.long ((31 : Int64) * x1)]) hx hb hml hown hts hKK hP hS hA (kdC_lt h0 (Nat.succ_ne_zero _)) h0 (show vwCl[10]? = some (yX10_call.cls, TX10, 15) from rfl) vkX10_264 (k_X10_call l D ce b I L R hT x0 x3 x4 h0 r24 I24 L24 e24) rfl hl.1 rfl (Nat.le_of_ble_eq_true rfl) ⟨rfl, rfl⟩ ⟨Nat.le_of_ble_eq_true rfl, Nat.le_of_ble_eq_true rfl⟩ ⟨Nat.zero_le _, Nat.zero_le _⟩ dX10_digest_206 (fun H locs hP hT hS => ?_)
              refine lv_i2l (v := (r24).toInt64) hx hb dX10_digest_209 rfl ?_
              refine lv_ladd hx hb dX10_digest_210 ?_
              refine lv_lstore_n (lv' := [(1, .long (((31 : Int64) * x1) + ((r24).toInt64))), (0, .ref (b + x0)), (3, .int x3), (4, .int x4)]) hx hb dX10_digest_211 rfl hl (Nat.le_of_ble_eq_true rfl) rfl (fun ls hl => ?_)
              refine lv_iinc (v := (x4 + (1 : Int32))) (lv' := [(4, .int (x4 + (1 : Int32))), (1, .long (((31 : Int64) * x1) + ((r24).toInt64))), (0, .ref (b + x0)), (3, .int x3)]) hx hb dX10_digest_212 hl (k := 3) rfl rfl (Nat.le_of_ble_eq_true rfl) rfl (fun ls hl => ?_)
              refine lv_goto (tgt := 191) hx hb dX10_digest_215 (by decide) ?_
              exact ih x0 (((31 : Int64) * x1) + ((r24).toInt64)) x3 (x4 + (1 : Int32)) I24 L24 R a1 a2 a3 H locs ls hP hS hT h0 (lv_sub hl [2, 1, 3, 0] rfl) hf kx
        obtain ⟨y1_25, I_25, L_25, e_25, hf⟩ := bd3_o hf
        refine lp191 FU x0 x1 x3 (0 : Int32) I L R y1_25 I_25 L_25 H locs ls hP hS hT h0 (lv_sub hl [1, 2, 3, 0] rfl) e_25 (fun H locs ls hP hS hl => ?_)
        refine lv_iinc (v := (x3 + (1 : Int32))) (lv' := [(3, .int (x3 + (1 : Int32))), (0, .ref (b + x0)), (1, .long y1_25)]) hx hb dX10_digest_218 hl (k := 2) rfl rfl (Nat.le_of_ble_eq_true rfl) rfl (fun ls hl => ?_)
        refine lv_goto (tgt := 177) hx hb dX10_digest_221 (by decide) ?_
        exact ih x0 y1_25 (x3 + (1 : Int32)) I_25 L_25 R a1 a2 a3 H locs ls hP hS hT h0 (lv_sub hl [1, 2, 0] rfl) hf kx
  obtain ⟨y1_26, I_26, L_26, e_26, hf⟩ := bd3_o hf
  refine lp177 FU x0 y1_20 (0 : Int32) I_20 L_20 R y1_26 I_26 L_26 H locs ls hP hS hT h0 (lv_sub hl [1, 2, 0] rfl) e_26 (fun H locs ls hP hS hl => ?_)
  refine lv_ldc2 (v := (31 : Int64)) hx hb hown (hts _ cwX10_244) dX10_digest_224 ?_
  refine lv_lload_n hx hb dX10_digest_227 rfl (lv_at hl 1 rfl) ?_
  refine lv_lmul hx hb dX10_digest_228 ?_
  refine lv_aload_n hx hb dX10_digest_229 rfl (lv_at hl 0 rfl) ?_
  obtain ⟨r27, I27, e27, hf⟩ := bd2_o hf
  refine mm_Vi (rest := [.long ((31 : Int64) * y1_26)]) hx hb hml hown hts hKK hP hS hA (kdC_lt h0 (Nat.succ_ne_zero _)) h0 (show vwCl[10]? = some (yX10_settles.cls, TX10, 15) from rfl) vkX10_267 (k_X10_settles l D ce b I_26 L_26 R hT x0 h0 r27 I27 e27) rfl hl.1 rfl (Nat.le_of_ble_eq_true rfl) ⟨rfl, rfl⟩ ⟨Nat.le_of_ble_eq_true rfl, Nat.le_of_ble_eq_true rfl⟩ ⟨Nat.zero_le _, Nat.zero_le _⟩ dX10_digest_230 (fun H locs hP hT hS => ?_)
  refine lv_i2l (v := (r27).toInt64) hx hb dX10_digest_233 rfl ?_
  refine lv_ladd hx hb dX10_digest_234 ?_
  refine lv_lstore_n (lv' := [(1, .long (((31 : Int64) * y1_26) + ((r27).toInt64))), (0, .ref (b + x0))]) hx hb dX10_digest_235 rfl hl (Nat.le_of_ble_eq_true rfl) rfl (fun ls hl => ?_)
  refine lv_ldc2 (v := (31 : Int64)) hx hb hown (hts _ cwX10_244) dX10_digest_236 ?_
  refine lv_lload_n hx hb dX10_digest_239 rfl (lv_at hl 0 rfl) ?_
  refine lv_lmul hx hb dX10_digest_240 ?_
  refine lv_aload_n hx hb dX10_digest_241 rfl (lv_at hl 1 rfl) ?_
  refine lv_iconst (v := (0 : Int32)) hx hb dX10_digest_242 (by decide) ?_
  obtain ⟨r28, I28, e28, hf⟩ := bd2_o hf
  refine mm_Vi (rest := [.long ((31 : Int64) * (((31 : Int64) * y1_26) + ((r27).toInt64)))]) hx hb hml hown hts hKK hP hS hA (kdC_lt h0 (Nat.succ_ne_zero _)) h0 (show vwCl[10]? = some (yX10_next.cls, TX10, 15) from rfl) vkX10_270 (k_X10_next l D ce b I27 L_26 R hT x0 (0 : Int32) h0 r28 I28 e28) rfl hl.1 rfl (Nat.le_of_ble_eq_true rfl) ⟨rfl, rfl⟩ ⟨Nat.le_of_ble_eq_true rfl, Nat.le_of_ble_eq_true rfl⟩ ⟨Nat.zero_le _, Nat.zero_le _⟩ dX10_digest_243 (fun H locs hP hT hS => ?_)
  refine lv_i2l (v := (r28).toInt64) hx hb dX10_digest_246 rfl ?_
  refine lv_ladd hx hb dX10_digest_247 ?_
  refine lv_lstore_n (lv' := [(1, .long (((31 : Int64) * (((31 : Int64) * y1_26) + ((r27).toInt64))) + ((r28).toInt64))), (0, .ref (b + x0))]) hx hb dX10_digest_248 rfl hl (Nat.le_of_ble_eq_true rfl) rfl (fun ls hl => ?_)
  refine lv_ldc2 (v := (31 : Int64)) hx hb hown (hts _ cwX10_244) dX10_digest_249 ?_
  refine lv_lload_n hx hb dX10_digest_252 rfl (lv_at hl 0 rfl) ?_
  refine lv_lmul hx hb dX10_digest_253 ?_
  refine lv_aload_n hx hb dX10_digest_254 rfl (lv_at hl 1 rfl) ?_
  refine lv_iconst (v := (1 : Int32)) hx hb dX10_digest_255 (by decide) ?_
  obtain ⟨r29, I29, e29, hf⟩ := bd2_o hf
  refine mm_Vi (rest := [.long ((31 : Int64) * (((31 : Int64) * (((31 : Int64) * y1_26) + ((r27).toInt64))) + ((r28).toInt64)))]) hx hb hml hown hts hKK hP hS hA (kdC_lt h0 (Nat.succ_ne_zero _)) h0 (show vwCl[10]? = some (yX10_next.cls, TX10, 15) from rfl) vkX10_270 (k_X10_next l D ce b I28 L_26 R hT x0 (1 : Int32) h0 r29 I29 e29) rfl hl.1 rfl (Nat.le_of_ble_eq_true rfl) ⟨rfl, rfl⟩ ⟨Nat.le_of_ble_eq_true rfl, Nat.le_of_ble_eq_true rfl⟩ ⟨Nat.zero_le _, Nat.zero_le _⟩ dX10_digest_256 (fun H locs hP hT hS => ?_)
  refine lv_i2l (v := (r29).toInt64) hx hb dX10_digest_259 rfl ?_
  refine lv_ladd hx hb dX10_digest_260 ?_
  exact hret (((31 : Int64) * (((31 : Int64) * (((31 : Int64) * y1_26) + ((r27).toInt64))) + ((r28).toInt64))) + ((r29).toInt64)) I29 L_26 hf H locs ls _ dX10_digest_261 hP hT hS
def rmX11_in : Room := { frames := 0, cells := 0, slots := 0, locals := 0 }
set_option maxHeartbeats 4000000 in
set_option maxRecDepth 100000 in
theorem k_X11_in (l : Launch) (D : va_G) (ce : Nat → ClassId) (b : Nat) (I : mI) (L : mL) (R : mR) (hT : WT kdM R) (x0 : Int32) (x1 : Int32) (x2 : Int32)  (o1 : Int32) (hf : f_X11_in x0 x1 x2  = some o1) : Met l yX11_in (Cond.code yX11_in cX11_in 3 (some .boolean) :: GW) rmX11_in (va_Pc [.int x0, .int x1, .int x2] (PW D ce b kdM lnM 21 I L R)) (va_Qi (fun r u => r = o1 ∧ u = (I, L, R)) (QW D ce b kdM lnM 21) (box b 21)) 0 0 (box b 21) := by
  refine Met.ofW (cc := cX11_in) (maxL := 3) (ret := (some .boolean)) (by decide) rfl ?_
  intro p e s m args below meth c s₁ B hml hv
  obtain ⟨rfl, hP, hKK⟩ := hv
  have hx := B.exec
  have hb := B.bytes
  have hr := B.returns
  have hts0 := atoms_spec (ws := Cond.code yX11_in cX11_in 3 (some .boolean) :: GW) B.pre
  have hts : ∀ w ∈ GW, w.before _ s = true := fun w h => hts0 w (List.mem_cons_of_mem _ h)
  clear hts0
  have hown : s.vm.findClass RX11 = some m.cls := findClass_of_methodNamed B.named
  have hlocks := B.notSynchronized
  have hA : ∀ q, box b 21 q → box b 21 q := fun _ h => h
  have hS : va_S (box b 21) s.heap s.heap [] := va_S.rf
  have hl := lv_entry ([.int x0, .int x1, .int x2]) (n := 3) (Nat.le_of_ble_eq_true rfl)
  rw [lg_entry_eq]
  generalize (lg_sl ([.int x0, .int x1, .int x2]) ++ List.replicate (3 - (lg_sl ([.int x0, .int x1, .int x2])).length) Slot.unset).toArray = ls at hl ⊢
  have hl : lv_has ls 3 [(0, .int x0), (1, .int x1), (2, .int x2)] := hl
  generalize ([.int x0, .int x1, .int x2] : List Value).toArray = av at hts ⊢
  show W p l e rmX11_in s m av below meth c s.heap [] 0 0 _ _
  obtain ⟨QQ, hQQ⟩ : ∃ z, z = MQ below (va_Qi (fun r u => r = o1 ∧ u = (I, L, R)) (QW D ce b kdM lnM 21) (box b 21)) av s 0 0 (box b 21) := ⟨_, rfl⟩
  rw [← hQQ]
  have hret : ∀ (r : Int32), some r = some o1 → ∀ (H1 : Heap) (locs1 : List Loc) (ls1 : Array Slot) (pc1 : Nat), decode cX11_in pc1 = .ok (.ireturn, 1) → zb r = true → va_P D vwCl (wd ce b kdM lnM 21 I L R) H1 → WT kdM R → va_S (box b 21) s.heap H1 locs1 → W p l e rmX11_in s m av below meth c H1 locs1 0 0 QQ (F0 m pc1 ls1 [.int r]) := by
    intro r hq H1 locs1 ls1 pc1 hd hz hP hT hS
    cases hq
    rw [hQQ]
    exact mm_zret hx hb hr hlocks hz hP hT hS hd
  unfold f_X11_in at hf
  obtain ⟨H, hH⟩ : ∃ z, z = s.heap := ⟨_, rfl⟩
  obtain ⟨locs, hlo⟩ : ∃ z : List Loc, z = [] := ⟨_, rfl⟩
  have hP : va_P D vwCl (wd ce b kdM lnM 21 I L R) H := by rw [hH]; exact hP
  have hS : va_S (box b 21) s.heap H locs := by rw [hH, hlo]; exact hS
  rw [show W p l e rmX11_in s m av below meth c s.heap [] 0 0 QQ = W p l e rmX11_in s m av below meth c H locs 0 0 QQ by rw [hH, hlo]]
  clear hH hlo
  clear hQQ
  show W p l e rmX11_in s m av below meth c H locs 0 0 QQ (F0 m 0 ls [])
  refine lv_iload_n hx hb dX11_in_0 rfl (lv_at hl 0 rfl) ?_
  refine lv_iload_n hx hb dX11_in_1 rfl (lv_at hl 1 rfl) ?_
  refine jnE hf (fun j14_1 ej_1 hf => ?_)
  have hJ14_1 : ∀ (H : Heap) (locs : List Loc) (ls : Array Slot), va_P D vwCl (wd ce b kdM lnM 21 I L R) H → va_S (box b 21) s.heap H locs → lv_has ls 3 [] → j14_1  = some o1 → W p l e rmX11_in s m av below meth c H locs 0 0 QQ (F0 m 14 ls []) := by
    intro  H locs ls hP hS  hl hf
    rw [ej_1] at hf
    try dsimp only at hf
    refine lv_iconst (v := (0 : Int32)) hx hb dX11_in_14 (by decide) ?_
    exact hret (0 : Int32) hf H locs ls _ dX11_in_15 rfl hP hT hS
  clear ej_1
  refine lv_icmp_lt (tgt := 14) hx hb dX11_in_2 (by decide) (fun c2 => ?_) (fun c2 => ?_)
  · have hf := ifT hf c2
    exact hJ14_1  H locs ls hP hS  (lv_sub hl [] rfl) hf
  · have hf := ifF hf c2
    refine lv_iload_n hx hb dX11_in_5 rfl (lv_at hl 0 rfl) ?_
    refine lv_iload_n hx hb dX11_in_6 rfl (lv_at hl 2 rfl) ?_
    refine lv_icmp_gt (tgt := 14) hx hb dX11_in_7 (by decide) (fun c3 => ?_) (fun c3 => ?_)
    · have hf := ifT hf c3
      exact hJ14_1  H locs ls hP hS  (lv_sub hl [] rfl) hf
    · have hf := ifF hf c3
      refine lv_iconst (v := (1 : Int32)) hx hb dX11_in_10 (by decide) ?_
      refine lv_goto (tgt := 15) hx hb dX11_in_11 (by decide) ?_
      exact hret (1 : Int32) hf H locs ls _ dX11_in_15 rfl hP hT hS
def rmX11_refuses : Room := { frames := 0, cells := 0, slots := 0, locals := 0 }
set_option maxHeartbeats 4000000 in
set_option maxRecDepth 100000 in
theorem k_X11_refuses (l : Launch) (D : va_G) (ce : Nat → ClassId) (b : Nat) (I : mI) (L : mL) (R : mR) (hT : WT kdM R) (x0 : Nat) (x1 : Int32) (h0 : kdM x0 = 17) (o1 : Int32) (o2 : mI) (hf : f_X11_refuses x0 x1 I R = some (o1, o2)) : Met l yX11_refuses (Cond.code yX11_refuses cX11_refuses 2 (some .int) :: GW) rmX11_refuses (va_Pc [.ref (b + x0), .int x1] (PW D ce b kdM lnM 21 I L R)) (va_Qi (fun r u => r = o1 ∧ u = (o2, L, R)) (QW D ce b kdM lnM 21) (box b 21)) 0 0 (box b 21) := by
  refine Met.ofW (cc := cX11_refuses) (maxL := 2) (ret := (some .int)) (by decide) rfl ?_
  intro p e s m args below meth c s₁ B hml hv
  obtain ⟨rfl, hP, hKK⟩ := hv
  have hx := B.exec
  have hb := B.bytes
  have hr := B.returns
  have hts0 := atoms_spec (ws := Cond.code yX11_refuses cX11_refuses 2 (some .int) :: GW) B.pre
  have hts : ∀ w ∈ GW, w.before _ s = true := fun w h => hts0 w (List.mem_cons_of_mem _ h)
  clear hts0
  have hown : s.vm.findClass RX11 = some m.cls := findClass_of_methodNamed B.named
  have hlocks := B.notSynchronized
  have hA : ∀ q, box b 21 q → box b 21 q := fun _ h => h
  have hS : va_S (box b 21) s.heap s.heap [] := va_S.rf
  have hl := lv_entry ([.ref (b + x0), .int x1]) (n := 2) (Nat.le_of_ble_eq_true rfl)
  rw [lg_entry_eq]
  generalize (lg_sl ([.ref (b + x0), .int x1]) ++ List.replicate (2 - (lg_sl ([.ref (b + x0), .int x1])).length) Slot.unset).toArray = ls at hl ⊢
  have hl : lv_has ls 2 [(0, .ref (b + x0)), (1, .int x1)] := hl
  generalize ([.ref (b + x0), .int x1] : List Value).toArray = av at hts ⊢
  show W p l e rmX11_refuses s m av below meth c s.heap [] 0 0 _ _
  obtain ⟨QQ, hQQ⟩ : ∃ z, z = MQ below (va_Qi (fun r u => r = o1 ∧ u = (o2, L, R)) (QW D ce b kdM lnM 21) (box b 21)) av s 0 0 (box b 21) := ⟨_, rfl⟩
  rw [← hQQ]
  have hret : ∀ (r : Int32) (I1 : mI), some (r, I1) = some (o1, o2) → ∀ (H1 : Heap) (locs1 : List Loc) (ls1 : Array Slot) (pc1 : Nat), decode cX11_refuses pc1 = .ok (.ireturn, 1) → va_P D vwCl (wd ce b kdM lnM 21 I1 L R) H1 → WT kdM R → va_S (box b 21) s.heap H1 locs1 → W p l e rmX11_refuses s m av below meth c H1 locs1 0 0 QQ (F0 m pc1 ls1 [.int r]) := by
    intro r I1 hq H1 locs1 ls1 pc1 hd hP hT hS
    cases hq
    rw [hQQ]
    exact mm_iret hx hb hr hlocks hP hT hS hd
  unfold f_X11_refuses at hf
  obtain ⟨H, hH⟩ : ∃ z, z = s.heap := ⟨_, rfl⟩
  obtain ⟨locs, hlo⟩ : ∃ z : List Loc, z = [] := ⟨_, rfl⟩
  have hP : va_P D vwCl (wd ce b kdM lnM 21 I L R) H := by rw [hH]; exact hP
  have hS : va_S (box b 21) s.heap H locs := by rw [hH, hlo]; exact hS
  rw [show W p l e rmX11_refuses s m av below meth c s.heap [] 0 0 QQ = W p l e rmX11_refuses s m av below meth c H locs 0 0 QQ by rw [hH, hlo]]
  clear hH hlo
  clear hQQ
  show W p l e rmX11_refuses s m av below meth c H locs 0 0 QQ (F0 m 0 ls [])
  refine lv_aload_n hx hb dX11_refuses_0 rfl (lv_at hl 0 rfl) ?_
  have t1 : kdM (R x0 4) = 1 := wt hT h0 rfl
  refine mm_getr hx hb hts hown hKK hP fk11_4 (Nat.le_of_ble_eq_true rfl) lkX11_19 (kdM_lt h0 (Nat.succ_ne_zero _)) h0 (nM t1 (Nat.succ_ne_zero _)) dX11_refuses_1 ?_
  refine lv_bipush (v := (-2 : Int32)) hx hb dX11_refuses_4 (by decide) ?_
  refine lv_iload_n hx hb dX11_refuses_6 rfl (lv_at hl 1 rfl) ?_
  refine lv_isub hx hb dX11_refuses_7 ?_
  refine lv_dup2_11 hx hb dX11_refuses_8 rfl rfl ?_
  obtain ⟨g2, hf⟩ := grd hf
  refine mm_iald hx hb hKK hP (kdM_lt t1 (Nat.succ_ne_zero _)) t1 g2 dX11_refuses_9 ?_
  refine lv_iconst (v := (1 : Int32)) hx hb dX11_refuses_10 (by decide) ?_
  refine lv_iadd hx hb dX11_refuses_11 ?_
  refine jnE hf (fun I3 eI3 hf => ?_)
  refine mm_iast hx hb hKK hP hA hS (kdM_lt t1 (Nat.succ_ne_zero _)) t1 g2 dX11_refuses_12 (fun H locs hP hS => ?_)
  rw [← eI3] at hP
  refine lv_iload_n hx hb dX11_refuses_13 rfl (lv_at hl 1 rfl) ?_
  exact hret x1 I3 hf H locs ls _ dX11_refuses_14 hP hT hS
def rmX11_copies : Room := { frames := 0, cells := 0, slots := 0, locals := 0 }
set_option maxHeartbeats 4000000 in
set_option maxRecDepth 100000 in
theorem k_X11_copies (l : Launch) (D : va_G) (ce : Nat → ClassId) (b : Nat) (I : mI) (L : mL) (R : mR) (hT : WT kdM R) (x0 : Nat) (x1 : Int32) (x2 : Nat) (x3 : Int32) (h0 : kdM x0 = 1) (h2 : kdM x2 = 1) (o1 : mI) (hf : f_X11_copies x0 x1 x2 x3 I = some o1) : Met l yX11_copies (Cond.code yX11_copies cX11_copies 5 none :: GW) rmX11_copies (va_Pc [.ref (b + x0), .int x1, .ref (b + x2), .int x3] (PW D ce b kdM lnM 21 I L R)) (va_Qv (fun u => u = (o1, L, R)) (QW D ce b kdM lnM 21) (box b 21)) 0 0 (box b 21) := by
  refine Met.ofW (cc := cX11_copies) (maxL := 5) (ret := none) (by decide) rfl ?_
  intro p e s m args below meth c s₁ B hml hv
  obtain ⟨rfl, hP, hKK⟩ := hv
  have hx := B.exec
  have hb := B.bytes
  have hr := B.returns
  have hts0 := atoms_spec (ws := Cond.code yX11_copies cX11_copies 5 none :: GW) B.pre
  have hts : ∀ w ∈ GW, w.before _ s = true := fun w h => hts0 w (List.mem_cons_of_mem _ h)
  clear hts0
  have hown : s.vm.findClass RX11 = some m.cls := findClass_of_methodNamed B.named
  have hlocks := B.notSynchronized
  have hA : ∀ q, box b 21 q → box b 21 q := fun _ h => h
  have hS : va_S (box b 21) s.heap s.heap [] := va_S.rf
  have hl := lv_entry ([.ref (b + x0), .int x1, .ref (b + x2), .int x3]) (n := 5) (Nat.le_of_ble_eq_true rfl)
  rw [lg_entry_eq]
  generalize (lg_sl ([.ref (b + x0), .int x1, .ref (b + x2), .int x3]) ++ List.replicate (5 - (lg_sl ([.ref (b + x0), .int x1, .ref (b + x2), .int x3])).length) Slot.unset).toArray = ls at hl ⊢
  have hl : lv_has ls 5 [(0, .ref (b + x0)), (1, .int x1), (2, .ref (b + x2)), (3, .int x3)] := hl
  generalize ([.ref (b + x0), .int x1, .ref (b + x2), .int x3] : List Value).toArray = av at hts ⊢
  show W p l e rmX11_copies s m av below meth c s.heap [] 0 0 _ _
  obtain ⟨QQ, hQQ⟩ : ∃ z, z = MQ below (va_Qv (fun u => u = (o1, L, R)) (QW D ce b kdM lnM 21) (box b 21)) av s 0 0 (box b 21) := ⟨_, rfl⟩
  rw [← hQQ]
  have hret : ∀ (I1 : mI), some I1 = some o1 → ∀ (H1 : Heap) (locs1 : List Loc) (ls1 : Array Slot) (pc1 : Nat), decode cX11_copies pc1 = .ok (.return_, 1) → va_P D vwCl (wd ce b kdM lnM 21 I1 L R) H1 → WT kdM R → va_S (box b 21) s.heap H1 locs1 → W p l e rmX11_copies s m av below meth c H1 locs1 0 0 QQ (F0 m pc1 ls1 []) := by
    intro I1 hq H1 locs1 ls1 pc1 hd hP hT hS
    cases hq
    rw [hQQ]
    exact mm_vret hx hb hr hlocks hP hT hS hd
  unfold f_X11_copies at hf
  obtain ⟨H, hH⟩ : ∃ z, z = s.heap := ⟨_, rfl⟩
  obtain ⟨locs, hlo⟩ : ∃ z : List Loc, z = [] := ⟨_, rfl⟩
  have hP : va_P D vwCl (wd ce b kdM lnM 21 I L R) H := by rw [hH]; exact hP
  have hS : va_S (box b 21) s.heap H locs := by rw [hH, hlo]; exact hS
  rw [show W p l e rmX11_copies s m av below meth c s.heap [] 0 0 QQ = W p l e rmX11_copies s m av below meth c H locs 0 0 QQ by rw [hH, hlo]]
  clear hH hlo
  clear hQQ
  show W p l e rmX11_copies s m av below meth c H locs 0 0 QQ (F0 m 0 ls [])
  refine lv_iconst (v := (0 : Int32)) hx hb dX11_copies_0 (by decide) ?_
  refine lv_istore (lv' := [(4, .int (0 : Int32)), (0, .ref (b + x0)), (1, .int x1), (2, .ref (b + x2)), (3, .int x3)]) hx hb dX11_copies_1 hl (Nat.le_of_ble_eq_true rfl) rfl (fun ls hl => ?_)
  have lp3 : ∀ (n : Nat) (x0 : Nat) (x1 : Int32) (x2 : Nat) (x3 : Int32) (x4 : Int32) (I : mI) (L : mL) (R : mR) (a1 : mI) (H : Heap) (locs : List Loc) (ls : Array Slot), va_P D vwCl (wd ce b kdM lnM 21 I L R) H → va_S (box b 21) s.heap H locs → WT kdM R → kdM x0 = 1 → kdM x2 = 1 → lv_has ls 5 [(0, .ref (b + x0)), (1, .int x1), (2, .ref (b + x2)), (3, .int x3), (4, .int x4)] → f_X11_copies_L3 n x0 x1 x2 x3 x4 I = some a1 → (∀ (H1 : Heap) (locs1 : List Loc) (ls1 : Array Slot), va_P D vwCl (wd ce b kdM lnM 21 a1 L R) H1 → va_S (box b 21) s.heap H1 locs1 → lv_has ls1 5 [] → W p l e rmX11_copies s m av below meth c H1 locs1 0 0 QQ (F0 m 29 ls1 [])) → W p l e rmX11_copies s m av below meth c H locs 0 0 QQ (F0 m 3 ls []) := by
    intro n
    induction n with
    | zero =>
      intro x0 x1 x2 x3 x4 I L R a1 H locs ls hP hS hT h0 h2 hl hf kx
      exact absurd (show (none : Option (mI)) = some _ from hf) (by simp)
    | succ n ih =>
      intro x0 x1 x2 x3 x4 I L R a1 H locs ls hP hS hT h0 h2 hl hf kx
      rw [f_X11_copies_L3] at hf
      refine lv_iload hx hb dX11_copies_3 (lv_at hl 4 rfl) ?_
      refine lv_sipush (v := (192 : Int32)) hx hb dX11_copies_5 (by decide) ?_
      refine lv_icmp_ge (tgt := 29) hx hb dX11_copies_8 (by decide) (fun c1 => ?_) (fun c1 => ?_)
      · have hf := ifT hf c1
        cases hf
        exact kx H locs ls hP hS (lv_sub hl [] rfl)
      · have hf := ifF hf c1
        refine lv_aload_n hx hb dX11_copies_11 rfl (lv_at hl 2 rfl) ?_
        refine lv_iload_n hx hb dX11_copies_12 rfl (lv_at hl 3 rfl) ?_
        refine lv_iload hx hb dX11_copies_13 (lv_at hl 4 rfl) ?_
        refine lv_iadd hx hb dX11_copies_15 ?_
        refine lv_aload_n hx hb dX11_copies_16 rfl (lv_at hl 0 rfl) ?_
        refine lv_iload_n hx hb dX11_copies_17 rfl (lv_at hl 1 rfl) ?_
        refine lv_iload hx hb dX11_copies_18 (lv_at hl 4 rfl) ?_
        refine lv_iadd hx hb dX11_copies_20 ?_
        obtain ⟨g2, hf⟩ := grd hf
        refine mm_iald hx hb hKK hP (kdM_lt h0 (Nat.succ_ne_zero _)) h0 g2 dX11_copies_21 ?_
        obtain ⟨g3, hf⟩ := grd hf
        refine jnE hf (fun I4 eI4 hf => ?_)
        refine mm_iast hx hb hKK hP hA hS (kdM_lt h2 (Nat.succ_ne_zero _)) h2 g3 dX11_copies_22 (fun H locs hP hS => ?_)
        rw [← eI4] at hP
        refine lv_iinc (v := (x4 + (1 : Int32))) (lv' := [(4, .int (x4 + (1 : Int32))), (0, .ref (b + x0)), (1, .int x1), (2, .ref (b + x2)), (3, .int x3)]) hx hb dX11_copies_23 hl (k := 4) rfl rfl (Nat.le_of_ble_eq_true rfl) rfl (fun ls hl => ?_)
        refine lv_goto (tgt := 3) hx hb dX11_copies_26 (by decide) ?_
        exact ih x0 x1 x2 x3 (x4 + (1 : Int32)) I4 L R a1 H locs ls hP hS hT h0 h2 (lv_sub hl [1, 2, 3, 4, 0] rfl) hf kx
  obtain ⟨I_5, e_5, hf⟩ := bd1_o hf
  refine lp3 FU x0 x1 x2 x3 (0 : Int32) I L R I_5 H locs ls hP hS hT h0 h2 (lv_sub hl [1, 2, 3, 4, 0] rfl) e_5 (fun H locs ls hP hS hl => ?_)
  exact hret I_5 hf H locs ls _ dX11_copies_29 hP hT hS
def rmX11_remembers : Room := { frames := 1, cells := 0, slots := 0, locals := 24 }
set_option maxHeartbeats 4000000 in
set_option maxRecDepth 100000 in
theorem k_X11_remembers (l : Launch) (D : va_G) (ce : Nat → ClassId) (b : Nat) (I : mI) (L : mL) (R : mR) (hT : WT kdM R) (x0 : Nat) (h0 : kdM x0 = 17) (o1 : mI) (hf : f_X11_remembers x0 I R = some o1) : Met l yX11_remembers (Cond.code yX11_remembers cX11_remembers 2 none :: GW) rmX11_remembers (va_Pc [.ref (b + x0)] (PW D ce b kdM lnM 21 I L R)) (va_Qv (fun u => u = (o1, L, R)) (QW D ce b kdM lnM 21) (box b 21)) 0 0 (box b 21) := by
  refine Met.ofW (cc := cX11_remembers) (maxL := 2) (ret := none) (by decide) rfl ?_
  intro p e s m args below meth c s₁ B hml hv
  obtain ⟨rfl, hP, hKK⟩ := hv
  have hx := B.exec
  have hb := B.bytes
  have hr := B.returns
  have hts0 := atoms_spec (ws := Cond.code yX11_remembers cX11_remembers 2 none :: GW) B.pre
  have hts : ∀ w ∈ GW, w.before _ s = true := fun w h => hts0 w (List.mem_cons_of_mem _ h)
  clear hts0
  have hown : s.vm.findClass RX11 = some m.cls := findClass_of_methodNamed B.named
  have hlocks := B.notSynchronized
  have hA : ∀ q, box b 21 q → box b 21 q := fun _ h => h
  have hS : va_S (box b 21) s.heap s.heap [] := va_S.rf
  have hl := lv_entry ([.ref (b + x0)]) (n := 2) (Nat.le_of_ble_eq_true rfl)
  rw [lg_entry_eq]
  generalize (lg_sl ([.ref (b + x0)]) ++ List.replicate (2 - (lg_sl ([.ref (b + x0)])).length) Slot.unset).toArray = ls at hl ⊢
  have hl : lv_has ls 2 [(0, .ref (b + x0))] := hl
  generalize ([.ref (b + x0)] : List Value).toArray = av at hts ⊢
  show W p l e rmX11_remembers s m av below meth c s.heap [] 0 0 _ _
  obtain ⟨QQ, hQQ⟩ : ∃ z, z = MQ below (va_Qv (fun u => u = (o1, L, R)) (QW D ce b kdM lnM 21) (box b 21)) av s 0 0 (box b 21) := ⟨_, rfl⟩
  rw [← hQQ]
  have hret : ∀ (I1 : mI), some I1 = some o1 → ∀ (H1 : Heap) (locs1 : List Loc) (ls1 : Array Slot) (pc1 : Nat), decode cX11_remembers pc1 = .ok (.return_, 1) → va_P D vwCl (wd ce b kdM lnM 21 I1 L R) H1 → WT kdM R → va_S (box b 21) s.heap H1 locs1 → W p l e rmX11_remembers s m av below meth c H1 locs1 0 0 QQ (F0 m pc1 ls1 []) := by
    intro I1 hq H1 locs1 ls1 pc1 hd hP hT hS
    cases hq
    rw [hQQ]
    exact mm_vret hx hb hr hlocks hP hT hS hd
  unfold f_X11_remembers at hf
  obtain ⟨H, hH⟩ : ∃ z, z = s.heap := ⟨_, rfl⟩
  obtain ⟨locs, hlo⟩ : ∃ z : List Loc, z = [] := ⟨_, rfl⟩
  have hP : va_P D vwCl (wd ce b kdM lnM 21 I L R) H := by rw [hH]; exact hP
  have hS : va_S (box b 21) s.heap H locs := by rw [hH, hlo]; exact hS
  rw [show W p l e rmX11_remembers s m av below meth c s.heap [] 0 0 QQ = W p l e rmX11_remembers s m av below meth c H locs 0 0 QQ by rw [hH, hlo]]
  clear hH hlo
  clear hQQ
  show W p l e rmX11_remembers s m av below meth c H locs 0 0 QQ (F0 m 0 ls [])
  refine lv_aload_n hx hb dX11_remembers_0 rfl (lv_at hl 0 rfl) ?_
  refine mm_geti hx hb hts hown hKK hP fk11_3 (Or.inl rfl) lkX11_72 (kdM_lt h0 (Nat.succ_ne_zero _)) h0 dX11_remembers_1 ?_
  refine lv_iconst (v := (5 : Int32)) hx hb dX11_remembers_4 (by decide) ?_
  refine jnE hf (fun j49_1 ej_1 hf => ?_)
  have hJ49_1 : ∀ (I_1 : mI) (H : Heap) (locs : List Loc) (ls : Array Slot), va_P D vwCl (wd ce b kdM lnM 21 I_1 L R) H → va_S (box b 21) s.heap H locs → lv_has ls 2 [(0, .ref (b + x0))] → j49_1 I_1 = some o1 → W p l e rmX11_remembers s m av below meth c H locs 0 0 QQ (F0 m 49 ls []) := by
    intro I_1 H locs ls hP hS  hl hf
    rw [ej_1] at hf
    try dsimp only at hf
    refine lv_aload_n hx hb dX11_remembers_49 rfl (lv_at hl 0 rfl) ?_
    have t2 : kdM (R x0 0) = 1 := wt hT h0 rfl
    refine mm_getr hx hb hts hown hKK hP fk11_0 (Nat.le_of_ble_eq_true rfl) lkX11_7 (kdM_lt h0 (Nat.succ_ne_zero _)) h0 (nM t2 (Nat.succ_ne_zero _)) dX11_remembers_50 ?_
    refine lv_iconst (v := (0 : Int32)) hx hb dX11_remembers_53 (by decide) ?_
    refine lv_aload_n hx hb dX11_remembers_54 rfl (lv_at hl 0 rfl) ?_
    have t3 : kdM (R x0 2) = 1 := wt hT h0 rfl
    refine mm_getr hx hb hts hown hKK hP fk11_2 (Nat.le_of_ble_eq_true rfl) lkX11_16 (kdM_lt h0 (Nat.succ_ne_zero _)) h0 (nM t3 (Nat.succ_ne_zero _)) dX11_remembers_55 ?_
    refine lv_sipush (v := (192 : Int32)) hx hb dX11_remembers_58 (by decide) ?_
    refine lv_aload_n hx hb dX11_remembers_61 rfl (lv_at hl 0 rfl) ?_
    refine mm_geti hx hb hts hown hKK hP fk11_3 (Or.inl rfl) lkX11_72 (kdM_lt h0 (Nat.succ_ne_zero _)) h0 dX11_remembers_62 ?_
    refine lv_imul hx hb dX11_remembers_65 ?_
    obtain ⟨I4, e4, hf⟩ := bd1_o hf
    refine mm_Sv (rest := []) hx hb hml hown hts hKK hP hS hA skX11_76 (k_X11_copies l D ce b I_1 L R hT (R x0 0) (0 : Int32) (R x0 2) ((192 : Int32) * (I_1 x0 3)) t2 t3 I4 e4) rfl hl.1 rfl (Nat.le_of_ble_eq_true rfl) ⟨rfl, rfl⟩ ⟨Nat.le_of_ble_eq_true rfl, Nat.le_of_ble_eq_true rfl⟩ ⟨Nat.zero_le _, Nat.zero_le _⟩ dX11_remembers_66 (fun H locs hP hT hS => ?_)
    refine lv_aload_n hx hb dX11_remembers_69 rfl (lv_at hl 0 rfl) ?_
    refine lv_dup hx hb dX11_remembers_70 rfl ?_
    refine mm_geti hx hb hts hown hKK hP fk11_3 (Or.inl rfl) lkX11_72 (kdM_lt h0 (Nat.succ_ne_zero _)) h0 dX11_remembers_71 ?_
    refine lv_iconst (v := (1 : Int32)) hx hb dX11_remembers_74 (by decide) ?_
    refine lv_iadd hx hb dX11_remembers_75 ?_
    refine jnE hf (fun I5 eI5 hf => ?_)
    refine mm_puti hx hb hts hown hKK hP hA hS fk11_3 (Or.inl rfl) fw11_3 lkX11_72 (kdM_lt h0 (Nat.succ_ne_zero _)) h0 rfl rfl dX11_remembers_76 (fun H locs hP hS => ?_)
    rw [← eI5] at hP
    exact hret I5 hf H locs ls _ dX11_remembers_79 hP hT hS
  clear ej_1
  refine lv_icmp_ne (tgt := 49) hx hb dX11_remembers_5 (by decide) (fun c6 => ?_) (fun c6 => ?_)
  · have hf := ifF hf c6
    exact hJ49_1 I H locs ls hP hS  (lv_sub hl [0] rfl) hf
  · have hf := ifT hf c6
    refine lv_iconst (v := (0 : Int32)) hx hb dX11_remembers_8 (by decide) ?_
    refine lv_istore_n (lv' := [(1, .int (0 : Int32)), (0, .ref (b + x0))]) hx hb dX11_remembers_9 rfl hl (Nat.le_of_ble_eq_true rfl) rfl (fun ls hl => ?_)
    have lp10 : ∀ (n : Nat) (x0 : Nat) (x1 : Int32) (I : mI) (L : mL) (R : mR) (a1 : mI) (H : Heap) (locs : List Loc) (ls : Array Slot), va_P D vwCl (wd ce b kdM lnM 21 I L R) H → va_S (box b 21) s.heap H locs → WT kdM R → kdM x0 = 17 → lv_has ls 2 [(0, .ref (b + x0)), (1, .int x1)] → f_X11_remembers_L10 n x0 x1 I R = some a1 → (∀ (H1 : Heap) (locs1 : List Loc) (ls1 : Array Slot), va_P D vwCl (wd ce b kdM lnM 21 a1 L R) H1 → va_S (box b 21) s.heap H1 locs1 → lv_has ls1 2 [(0, .ref (b + x0))] → W p l e rmX11_remembers s m av below meth c H1 locs1 0 0 QQ (F0 m 39 ls1 [])) → W p l e rmX11_remembers s m av below meth c H locs 0 0 QQ (F0 m 10 ls []) := by
      intro n
      induction n with
      | zero =>
        intro x0 x1 I L R a1 H locs ls hP hS hT h0 hl hf kx
        exact absurd (show (none : Option (mI)) = some _ from hf) (by simp)
      | succ n ih =>
        intro x0 x1 I L R a1 H locs ls hP hS hT h0 hl hf kx
        rw [f_X11_remembers_L10] at hf
        refine lv_iload_n hx hb dX11_remembers_10 rfl (lv_at hl 1 rfl) ?_
        refine lv_sipush (v := (768 : Int32)) hx hb dX11_remembers_11 (by decide) ?_
        refine lv_icmp_ge (tgt := 39) hx hb dX11_remembers_14 (by decide) (fun c7 => ?_) (fun c7 => ?_)
        · have hf := ifT hf c7
          cases hf
          exact kx H locs ls hP hS (lv_sub hl [0] rfl)
        · have hf := ifF hf c7
          refine lv_aload_n hx hb dX11_remembers_17 rfl (lv_at hl 0 rfl) ?_
          have t8 : kdM (R x0 2) = 1 := wt hT h0 rfl
          refine mm_getr hx hb hts hown hKK hP fk11_2 (Nat.le_of_ble_eq_true rfl) lkX11_16 (kdM_lt h0 (Nat.succ_ne_zero _)) h0 (nM t8 (Nat.succ_ne_zero _)) dX11_remembers_18 ?_
          refine lv_iload_n hx hb dX11_remembers_21 rfl (lv_at hl 1 rfl) ?_
          refine lv_aload_n hx hb dX11_remembers_22 rfl (lv_at hl 0 rfl) ?_
          refine mm_getr hx hb hts hown hKK hP fk11_2 (Nat.le_of_ble_eq_true rfl) lkX11_16 (kdM_lt h0 (Nat.succ_ne_zero _)) h0 (nM t8 (Nat.succ_ne_zero _)) dX11_remembers_23 ?_
          refine lv_iload_n hx hb dX11_remembers_26 rfl (lv_at hl 1 rfl) ?_
          refine lv_sipush (v := (192 : Int32)) hx hb dX11_remembers_27 (by decide) ?_
          refine lv_iadd hx hb dX11_remembers_30 ?_
          obtain ⟨g9, hf⟩ := grd hf
          refine mm_iald hx hb hKK hP (kdM_lt t8 (Nat.succ_ne_zero _)) t8 g9 dX11_remembers_31 ?_
          obtain ⟨g10, hf⟩ := grd hf
          refine jnE hf (fun I11 eI11 hf => ?_)
          refine mm_iast hx hb hKK hP hA hS (kdM_lt t8 (Nat.succ_ne_zero _)) t8 g10 dX11_remembers_32 (fun H locs hP hS => ?_)
          rw [← eI11] at hP
          refine lv_iinc (v := (x1 + (1 : Int32))) (lv' := [(1, .int (x1 + (1 : Int32))), (0, .ref (b + x0))]) hx hb dX11_remembers_33 hl (k := 1) rfl rfl (Nat.le_of_ble_eq_true rfl) rfl (fun ls hl => ?_)
          refine lv_goto (tgt := 10) hx hb dX11_remembers_36 (by decide) ?_
          exact ih x0 (x1 + (1 : Int32)) I11 L R a1 H locs ls hP hS hT h0 (lv_sub hl [1, 0] rfl) hf kx
    obtain ⟨I_12, e_12, hf⟩ := bd1_o hf
    refine lp10 FU x0 (0 : Int32) I L R I_12 H locs ls hP hS hT h0 (lv_sub hl [1, 0] rfl) e_12 (fun H locs ls hP hS hl => ?_)
    refine lv_aload_n hx hb dX11_remembers_39 rfl (lv_at hl 0 rfl) ?_
    refine lv_dup hx hb dX11_remembers_40 rfl ?_
    refine mm_geti hx hb hts hown hKK hP fk11_3 (Or.inl rfl) lkX11_72 (kdM_lt h0 (Nat.succ_ne_zero _)) h0 dX11_remembers_41 ?_
    refine lv_iconst (v := (1 : Int32)) hx hb dX11_remembers_44 (by decide) ?_
    refine lv_isub hx hb dX11_remembers_45 ?_
    refine jnE hf (fun I13 eI13 hf => ?_)
    refine mm_puti hx hb hts hown hKK hP hA hS fk11_3 (Or.inl rfl) fw11_3 lkX11_72 (kdM_lt h0 (Nat.succ_ne_zero _)) h0 rfl rfl dX11_remembers_46 (fun H locs hP hS => ?_)
    rw [← eI13] at hP
    exact hJ49_1 I13 H locs ls hP hS  (lv_sub hl [0] rfl) hf
def rmX11_back : Room := { frames := 1, cells := 0, slots := 0, locals := 24 }
set_option maxHeartbeats 4000000 in
set_option maxRecDepth 100000 in
theorem k_X11_back (l : Launch) (D : va_G) (ce : Nat → ClassId) (b : Nat) (I : mI) (L : mL) (R : mR) (hT : WT kdM R) (x0 : Nat) (h0 : kdM x0 = 17) (o1 : Int32) (o2 : mI) (hf : f_X11_back x0 I R = some (o1, o2)) : Met l yX11_back (Cond.code yX11_back cX11_back 1 (some .int) :: GW) rmX11_back (va_Pc [.ref (b + x0)] (PW D ce b kdM lnM 21 I L R)) (va_Qi (fun r u => r = o1 ∧ u = (o2, L, R)) (QW D ce b kdM lnM 21) (box b 21)) 0 0 (box b 21) := by
  refine Met.ofW (cc := cX11_back) (maxL := 1) (ret := (some .int)) (by decide) rfl ?_
  intro p e s m args below meth c s₁ B hml hv
  obtain ⟨rfl, hP, hKK⟩ := hv
  have hx := B.exec
  have hb := B.bytes
  have hr := B.returns
  have hts0 := atoms_spec (ws := Cond.code yX11_back cX11_back 1 (some .int) :: GW) B.pre
  have hts : ∀ w ∈ GW, w.before _ s = true := fun w h => hts0 w (List.mem_cons_of_mem _ h)
  clear hts0
  have hown : s.vm.findClass RX11 = some m.cls := findClass_of_methodNamed B.named
  have hlocks := B.notSynchronized
  have hA : ∀ q, box b 21 q → box b 21 q := fun _ h => h
  have hS : va_S (box b 21) s.heap s.heap [] := va_S.rf
  have hl := lv_entry ([.ref (b + x0)]) (n := 1) (Nat.le_of_ble_eq_true rfl)
  rw [lg_entry_eq]
  generalize (lg_sl ([.ref (b + x0)]) ++ List.replicate (1 - (lg_sl ([.ref (b + x0)])).length) Slot.unset).toArray = ls at hl ⊢
  have hl : lv_has ls 1 [(0, .ref (b + x0))] := hl
  generalize ([.ref (b + x0)] : List Value).toArray = av at hts ⊢
  show W p l e rmX11_back s m av below meth c s.heap [] 0 0 _ _
  obtain ⟨QQ, hQQ⟩ : ∃ z, z = MQ below (va_Qi (fun r u => r = o1 ∧ u = (o2, L, R)) (QW D ce b kdM lnM 21) (box b 21)) av s 0 0 (box b 21) := ⟨_, rfl⟩
  rw [← hQQ]
  have hret : ∀ (r : Int32) (I1 : mI), some (r, I1) = some (o1, o2) → ∀ (H1 : Heap) (locs1 : List Loc) (ls1 : Array Slot) (pc1 : Nat), decode cX11_back pc1 = .ok (.ireturn, 1) → va_P D vwCl (wd ce b kdM lnM 21 I1 L R) H1 → WT kdM R → va_S (box b 21) s.heap H1 locs1 → W p l e rmX11_back s m av below meth c H1 locs1 0 0 QQ (F0 m pc1 ls1 [.int r]) := by
    intro r I1 hq H1 locs1 ls1 pc1 hd hP hT hS
    cases hq
    rw [hQQ]
    exact mm_iret hx hb hr hlocks hP hT hS hd
  unfold f_X11_back at hf
  obtain ⟨H, hH⟩ : ∃ z, z = s.heap := ⟨_, rfl⟩
  obtain ⟨locs, hlo⟩ : ∃ z : List Loc, z = [] := ⟨_, rfl⟩
  have hP : va_P D vwCl (wd ce b kdM lnM 21 I L R) H := by rw [hH]; exact hP
  have hS : va_S (box b 21) s.heap H locs := by rw [hH, hlo]; exact hS
  rw [show W p l e rmX11_back s m av below meth c s.heap [] 0 0 QQ = W p l e rmX11_back s m av below meth c H locs 0 0 QQ by rw [hH, hlo]]
  clear hH hlo
  clear hQQ
  show W p l e rmX11_back s m av below meth c H locs 0 0 QQ (F0 m 0 ls [])
  refine lv_aload_n hx hb dX11_back_0 rfl (lv_at hl 0 rfl) ?_
  refine mm_geti hx hb hts hown hKK hP fk11_3 (Or.inl rfl) lkX11_72 (kdM_lt h0 (Nat.succ_ne_zero _)) h0 dX11_back_1 ?_
  refine lv_if_ne (tgt := 14) hx hb dX11_back_4 (by decide) (fun c1 => ?_) (fun c1 => ?_)
  · have hf := ifF hf c1
    refine lv_aload_n hx hb dX11_back_14 rfl (lv_at hl 0 rfl) ?_
    refine lv_dup hx hb dX11_back_15 rfl ?_
    refine mm_geti hx hb hts hown hKK hP fk11_3 (Or.inl rfl) lkX11_72 (kdM_lt h0 (Nat.succ_ne_zero _)) h0 dX11_back_16 ?_
    refine lv_iconst (v := (1 : Int32)) hx hb dX11_back_19 (by decide) ?_
    refine lv_isub hx hb dX11_back_20 ?_
    refine jnE hf (fun I2 eI2 hf => ?_)
    refine mm_puti hx hb hts hown hKK hP hA hS fk11_3 (Or.inl rfl) fw11_3 lkX11_72 (kdM_lt h0 (Nat.succ_ne_zero _)) h0 rfl rfl dX11_back_21 (fun H locs hP hS => ?_)
    rw [← eI2] at hP
    refine lv_aload_n hx hb dX11_back_24 rfl (lv_at hl 0 rfl) ?_
    have t3 : kdM (R x0 2) = 1 := wt hT h0 rfl
    refine mm_getr hx hb hts hown hKK hP fk11_2 (Nat.le_of_ble_eq_true rfl) lkX11_16 (kdM_lt h0 (Nat.succ_ne_zero _)) h0 (nM t3 (Nat.succ_ne_zero _)) dX11_back_25 ?_
    refine lv_sipush (v := (192 : Int32)) hx hb dX11_back_28 (by decide) ?_
    refine lv_aload_n hx hb dX11_back_31 rfl (lv_at hl 0 rfl) ?_
    refine mm_geti hx hb hts hown hKK hP fk11_3 (Or.inl rfl) lkX11_72 (kdM_lt h0 (Nat.succ_ne_zero _)) h0 dX11_back_32 ?_
    refine lv_imul hx hb dX11_back_35 ?_
    refine lv_aload_n hx hb dX11_back_36 rfl (lv_at hl 0 rfl) ?_
    have t4 : kdM (R x0 0) = 1 := wt hT h0 rfl
    refine mm_getr hx hb hts hown hKK hP fk11_0 (Nat.le_of_ble_eq_true rfl) lkX11_7 (kdM_lt h0 (Nat.succ_ne_zero _)) h0 (nM t4 (Nat.succ_ne_zero _)) dX11_back_37 ?_
    refine lv_iconst (v := (0 : Int32)) hx hb dX11_back_40 (by decide) ?_
    obtain ⟨I5, e5, hf⟩ := bd1_o hf
    refine mm_Sv (rest := []) hx hb hml hown hts hKK hP hS hA skX11_76 (k_X11_copies l D ce b I2 L R hT (R x0 2) ((192 : Int32) * (I2 x0 3)) (R x0 0) (0 : Int32) t3 t4 I5 e5) rfl hl.1 rfl (Nat.le_of_ble_eq_true rfl) ⟨rfl, rfl⟩ ⟨Nat.le_of_ble_eq_true rfl, Nat.le_of_ble_eq_true rfl⟩ ⟨Nat.zero_le _, Nat.zero_le _⟩ dX11_back_41 (fun H locs hP hT hS => ?_)
    refine lv_aload_n hx hb dX11_back_44 rfl (lv_at hl 0 rfl) ?_
    refine mm_geti hx hb hts hown hKK hP fk11_3 (Or.inl rfl) lkX11_72 (kdM_lt h0 (Nat.succ_ne_zero _)) h0 dX11_back_45 ?_
    exact hret (I5 x0 3) I5 hf H locs ls _ dX11_back_48 hP hT hS
  · have hf := ifT hf c1
    refine lv_aload_n hx hb dX11_back_7 rfl (lv_at hl 0 rfl) ?_
    refine lv_bipush (v := (-3 : Int32)) hx hb dX11_back_8 (by decide) ?_
    obtain ⟨r6, I6, e6, hf⟩ := bd2_o hf
    refine mm_Vi (rest := []) hx hb hml hown hts hKK hP hS hA (kdM_lt h0 (Nat.succ_ne_zero _)) h0 (show vwCl[11]? = some (yX11_refuses.cls, TX11, 32) from rfl) vkX11_80 (k_X11_refuses l D ce b I L R hT x0 (-3 : Int32) h0 r6 I6 e6) rfl hl.1 rfl (Nat.le_of_ble_eq_true rfl) ⟨rfl, rfl⟩ ⟨Nat.le_of_ble_eq_true rfl, Nat.le_of_ble_eq_true rfl⟩ ⟨Nat.zero_le _, Nat.zero_le _⟩ dX11_back_10 (fun H locs hP hT hS => ?_)
    exact hret r6 I6 hf H locs ls _ dX11_back_13 hP hT hS
