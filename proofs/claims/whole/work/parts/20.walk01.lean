def rmX1_loseOldest : Room := { frames := 0, cells := 0, slots := 0, locals := 0 }
set_option maxHeartbeats 4000000 in
set_option maxRecDepth 100000 in
theorem k_X1_loseOldest (l : Launch) (D : va_G) (ce : Nat → ClassId) (b : Nat) (I : mI) (L : mL) (R : mR) (hT : WT kdC R) (x0 : Nat) (h0 : kdC x0 = 7) (o1 : mI) (o2 : mR) (hf : f_X1_loseOldest x0 I R = some (o1, o2)) : Met l yX1_loseOldest (Cond.code yX1_loseOldest cX1_loseOldest 3 none :: GW) rmX1_loseOldest (va_Pc [.ref (b + x0)] (PW D ce b kdC lnC 272 I L R)) (va_Qv (fun u => u = (o1, L, o2)) (QW D ce b kdC lnC 272) (box b 272)) 0 0 (box b 272) := by
  refine Met.ofW (cc := cX1_loseOldest) (maxL := 3) (ret := none) (by decide) rfl ?_
  intro p e s m args below meth c s₁ B hml hv
  obtain ⟨rfl, hP, hKK⟩ := hv
  have hx := B.exec
  have hb := B.bytes
  have hr := B.returns
  have hts0 := atoms_spec (ws := Cond.code yX1_loseOldest cX1_loseOldest 3 none :: GW) B.pre
  have hts : ∀ w ∈ GW, w.before _ s = true := fun w h => hts0 w (List.mem_cons_of_mem _ h)
  clear hts0
  have hown : s.vm.findClass RX1 = some m.cls := findClass_of_methodNamed B.named
  have hlocks := B.notSynchronized
  have hA : ∀ q, box b 272 q → box b 272 q := fun _ h => h
  have hS : va_S (box b 272) s.heap s.heap [] := va_S.rf
  have hl := lv_entry ([.ref (b + x0)]) (n := 3) (Nat.le_of_ble_eq_true rfl)
  rw [lg_entry_eq]
  generalize (lg_sl ([.ref (b + x0)]) ++ List.replicate (3 - (lg_sl ([.ref (b + x0)])).length) Slot.unset).toArray = ls at hl ⊢
  have hl : lv_has ls 3 [(0, .ref (b + x0))] := hl
  generalize ([.ref (b + x0)] : List Value).toArray = av at hts ⊢
  show W p l e rmX1_loseOldest s m av below meth c s.heap [] 0 0 _ _
  obtain ⟨QQ, hQQ⟩ : ∃ z, z = MQ below (va_Qv (fun u => u = (o1, L, o2)) (QW D ce b kdC lnC 272) (box b 272)) av s 0 0 (box b 272) := ⟨_, rfl⟩
  rw [← hQQ]
  have hret : ∀ (I1 : mI) (R1 : mR), some (I1, R1) = some (o1, o2) → ∀ (H1 : Heap) (locs1 : List Loc) (ls1 : Array Slot) (pc1 : Nat), decode cX1_loseOldest pc1 = .ok (.return_, 1) → va_P D vwCl (wd ce b kdC lnC 272 I1 L R1) H1 → WT kdC R1 → va_S (box b 272) s.heap H1 locs1 → W p l e rmX1_loseOldest s m av below meth c H1 locs1 0 0 QQ (F0 m pc1 ls1 []) := by
    intro I1 R1 hq H1 locs1 ls1 pc1 hd hP hT hS
    cases hq
    rw [hQQ]
    exact mm_vret hx hb hr hlocks hP hT hS hd
  unfold f_X1_loseOldest at hf
  obtain ⟨H, hH⟩ : ∃ z, z = s.heap := ⟨_, rfl⟩
  obtain ⟨locs, hlo⟩ : ∃ z : List Loc, z = [] := ⟨_, rfl⟩
  have hP : va_P D vwCl (wd ce b kdC lnC 272 I L R) H := by rw [hH]; exact hP
  have hS : va_S (box b 272) s.heap H locs := by rw [hH, hlo]; exact hS
  rw [show W p l e rmX1_loseOldest s m av below meth c s.heap [] 0 0 QQ = W p l e rmX1_loseOldest s m av below meth c H locs 0 0 QQ by rw [hH, hlo]]
  clear hH hlo
  clear hQQ
  show W p l e rmX1_loseOldest s m av below meth c H locs 0 0 QQ (F0 m 0 ls [])
  refine lv_aload_n hx hb dX1_loseOldest_0 rfl (lv_at hl 0 rfl) ?_
  have t1 : kdC (R x0 0) = 5 := wt hT h0 rfl
  refine mm_getr hx hb hts hown hKK hP fk1_0 (Nat.le_of_ble_eq_true rfl) lkX1_11 (kdC_lt h0 (Nat.succ_ne_zero _)) h0 (nC t1 (Nat.succ_ne_zero _)) dX1_loseOldest_1 ?_
  refine lv_iconst (v := (0 : Int32)) hx hb dX1_loseOldest_4 (by decide) ?_
  obtain ⟨g2, hf⟩ := grd hf
  have t3 : kdC (R (R x0 0) ((0 : Int32)).toNatClampNeg) = 13 := wt hT t1 rfl
  refine mm_aald5 hx hb hKK hP (kdC_lt t1 (Nat.succ_ne_zero _)) t1 g2 (nC t3 (Nat.succ_ne_zero _)) dX1_loseOldest_5 ?_
  refine lv_astore_n (lv' := [(1, .ref (b + (R (R x0 0) ((0 : Int32)).toNatClampNeg))), (0, .ref (b + x0))]) hx hb dX1_loseOldest_6 rfl hl (Nat.le_of_ble_eq_true rfl) rfl (fun ls hl => ?_)
  refine lv_iconst (v := (0 : Int32)) hx hb dX1_loseOldest_7 (by decide) ?_
  refine lv_istore_n (lv' := [(2, .int (0 : Int32)), (1, .ref (b + (R (R x0 0) ((0 : Int32)).toNatClampNeg))), (0, .ref (b + x0))]) hx hb dX1_loseOldest_8 rfl hl (Nat.le_of_ble_eq_true rfl) rfl (fun ls hl => ?_)
  have lp9 : ∀ (n : Nat) (x0 : Nat) (x1 : Nat) (x2 : Int32) (I : mI) (L : mL) (R : mR) (a1 : mR) (H : Heap) (locs : List Loc) (ls : Array Slot), va_P D vwCl (wd ce b kdC lnC 272 I L R) H → va_S (box b 272) s.heap H locs → WT kdC R → kdC x0 = 7 → kdC x1 = 13 → lv_has ls 3 [(0, .ref (b + x0)), (1, .ref (b + x1)), (2, .int x2)] → f_X1_loseOldest_L9 n x0 x1 x2 I R = some a1 → (∀ (H1 : Heap) (locs1 : List Loc) (ls1 : Array Slot), va_P D vwCl (wd ce b kdC lnC 272 I L a1) H1 → va_S (box b 272) s.heap H1 locs1 → WT kdC a1 → lv_has ls1 3 [(0, .ref (b + x0)), (1, .ref (b + x1))] → W p l e rmX1_loseOldest s m av below meth c H1 locs1 0 0 QQ (F0 m 36 ls1 [])) → W p l e rmX1_loseOldest s m av below meth c H locs 0 0 QQ (F0 m 9 ls []) := by
    intro n
    induction n with
    | zero =>
      intro x0 x1 x2 I L R a1 H locs ls hP hS hT h0 h1 hl hf kx
      exact absurd (show (none : Option (mR)) = some _ from hf) (by simp)
    | succ n ih =>
      intro x0 x1 x2 I L R a1 H locs ls hP hS hT h0 h1 hl hf kx
      rw [f_X1_loseOldest_L9] at hf
      refine lv_iload_n hx hb dX1_loseOldest_9 rfl (lv_at hl 2 rfl) ?_
      refine lv_iconst (v := (1 : Int32)) hx hb dX1_loseOldest_10 (by decide) ?_
      refine lv_iadd hx hb dX1_loseOldest_11 ?_
      refine lv_iconst (v := (5 : Int32)) hx hb dX1_loseOldest_12 (by decide) ?_
      refine lv_icmp_ge (tgt := 36) hx hb dX1_loseOldest_13 (by decide) (fun c4 => ?_) (fun c4 => ?_)
      · have hf := ifT hf c4
        cases hf
        exact kx H locs ls hP hS hT (lv_sub hl [0, 1] rfl)
      · have hf := ifF hf c4
        refine lv_aload_n hx hb dX1_loseOldest_16 rfl (lv_at hl 0 rfl) ?_
        have t5 : kdC (R x0 0) = 5 := wt hT h0 rfl
        refine mm_getr hx hb hts hown hKK hP fk1_0 (Nat.le_of_ble_eq_true rfl) lkX1_11 (kdC_lt h0 (Nat.succ_ne_zero _)) h0 (nC t5 (Nat.succ_ne_zero _)) dX1_loseOldest_17 ?_
        refine lv_iload_n hx hb dX1_loseOldest_20 rfl (lv_at hl 2 rfl) ?_
        refine lv_aload_n hx hb dX1_loseOldest_21 rfl (lv_at hl 0 rfl) ?_
        refine mm_getr hx hb hts hown hKK hP fk1_0 (Nat.le_of_ble_eq_true rfl) lkX1_11 (kdC_lt h0 (Nat.succ_ne_zero _)) h0 (nC t5 (Nat.succ_ne_zero _)) dX1_loseOldest_22 ?_
        refine lv_iload_n hx hb dX1_loseOldest_25 rfl (lv_at hl 2 rfl) ?_
        refine lv_iconst (v := (1 : Int32)) hx hb dX1_loseOldest_26 (by decide) ?_
        refine lv_iadd hx hb dX1_loseOldest_27 ?_
        obtain ⟨g6, hf⟩ := grd hf
        have t7 : kdC (R (R x0 0) ((x2 + (1 : Int32))).toNatClampNeg) = 13 := wt hT t5 rfl
        refine mm_aald5 hx hb hKK hP (kdC_lt t5 (Nat.succ_ne_zero _)) t5 g6 (nC t7 (Nat.succ_ne_zero _)) dX1_loseOldest_28 ?_
        obtain ⟨g8, hf⟩ := grd hf
        refine jnE hf (fun R9 eR9 hf => ?_)
        refine mm_aast5 hx hb hKK hP hA hS (kdC_lt t5 (Nat.succ_ne_zero _)) t5 (kdC_lt t7 (Nat.succ_ne_zero _)) t7 (nC t7 (Nat.succ_ne_zero _)) g8 dX1_loseOldest_29 (fun H locs hP hS => ?_)
        have hT := WT.up (k := x2.toNatClampNeg) hT (a := (R x0 0)) (t := 13) (fun j => by rw [t5]; rfl) t7
        rw [← eR9] at hP hT
        refine lv_iinc (v := (x2 + (1 : Int32))) (lv' := [(2, .int (x2 + (1 : Int32))), (0, .ref (b + x0)), (1, .ref (b + x1))]) hx hb dX1_loseOldest_30 hl (k := 2) rfl rfl (Nat.le_of_ble_eq_true rfl) rfl (fun ls hl => ?_)
        refine lv_goto (tgt := 9) hx hb dX1_loseOldest_33 (by decide) ?_
        exact ih x0 x1 (x2 + (1 : Int32)) I L R9 a1 H locs ls hP hS hT h0 h1 (lv_sub hl [1, 2, 0] rfl) hf kx
  obtain ⟨R_10, e_10, hf⟩ := bd1_o hf
  refine lp9 FU x0 (R (R x0 0) ((0 : Int32)).toNatClampNeg) (0 : Int32) I L R R_10 H locs ls hP hS hT h0 t3 (lv_sub hl [2, 1, 0] rfl) e_10 (fun H locs ls hP hS hT hl => ?_)
  refine lv_aload_n hx hb dX1_loseOldest_36 rfl (lv_at hl 0 rfl) ?_
  have t11 : kdC (R_10 x0 0) = 5 := wt hT h0 rfl
  refine mm_getr hx hb hts hown hKK hP fk1_0 (Nat.le_of_ble_eq_true rfl) lkX1_11 (kdC_lt h0 (Nat.succ_ne_zero _)) h0 (nC t11 (Nat.succ_ne_zero _)) dX1_loseOldest_37 ?_
  refine lv_iconst (v := (4 : Int32)) hx hb dX1_loseOldest_40 (by decide) ?_
  refine lv_aload_n hx hb dX1_loseOldest_41 rfl (lv_at hl 1 rfl) ?_
  obtain ⟨g12, hf⟩ := grd hf
  refine jnE hf (fun R13 eR13 hf => ?_)
  refine mm_aast5 hx hb hKK hP hA hS (kdC_lt t11 (Nat.succ_ne_zero _)) t11 (kdC_lt t3 (Nat.succ_ne_zero _)) t3 (nC t3 (Nat.succ_ne_zero _)) g12 dX1_loseOldest_42 (fun H locs hP hS => ?_)
  have hT := WT.up (k := ((4 : Int32)).toNatClampNeg) hT (a := (R_10 x0 0)) (t := 13) (fun j => by rw [t11]; rfl) t3
  rw [← eR13] at hP hT
  refine lv_aload_n hx hb dX1_loseOldest_43 rfl (lv_at hl 0 rfl) ?_
  refine lv_dup hx hb dX1_loseOldest_44 rfl ?_
  refine mm_geti hx hb hts hown hKK hP fk1_1 (Or.inl rfl) lkX1_18 (kdC_lt h0 (Nat.succ_ne_zero _)) h0 dX1_loseOldest_45 ?_
  refine lv_iconst (v := (1 : Int32)) hx hb dX1_loseOldest_48 (by decide) ?_
  refine lv_isub hx hb dX1_loseOldest_49 ?_
  refine jnE hf (fun I14 eI14 hf => ?_)
  refine mm_puti hx hb hts hown hKK hP hA hS fk1_1 (Or.inl rfl) fw1_1 lkX1_18 (kdC_lt h0 (Nat.succ_ne_zero _)) h0 rfl rfl dX1_loseOldest_50 (fun H locs hP hS => ?_)
  rw [← eI14] at hP
  exact hret I14 R13 hf H locs ls _ dX1_loseOldest_53 hP hT hS
def rmX8_copyFrom : Room := { frames := 1, cells := 0, slots := 0, locals := 30 }
set_option maxHeartbeats 4000000 in
set_option maxRecDepth 100000 in
theorem k_X8_copyFrom (l : Launch) (D : va_G) (ce : Nat → ClassId) (b : Nat) (I : mI) (L : mL) (R : mR) (hT : WT kdC R) (x0 : Nat) (x1 : Nat) (h0 : kdC x0 = 14) (h1 : kdC x1 = 14) (o1 : mI) (hf : f_X8_copyFrom x0 x1 I R = some o1) : Met l yX8_copyFrom (Cond.code yX8_copyFrom cX8_copyFrom 2 none :: GW) rmX8_copyFrom (va_Pc [.ref (b + x0), .ref (b + x1)] (PW D ce b kdC lnC 272 I L R)) (va_Qv (fun u => u = (o1, L, R)) (QW D ce b kdC lnC 272) (box b 272)) 0 0 (box b 272) := by
  refine Met.ofW (cc := cX8_copyFrom) (maxL := 2) (ret := none) (by decide) rfl ?_
  intro p e s m args below meth c s₁ B hml hv
  obtain ⟨rfl, hP, hKK⟩ := hv
  have hx := B.exec
  have hb := B.bytes
  have hr := B.returns
  have hts0 := atoms_spec (ws := Cond.code yX8_copyFrom cX8_copyFrom 2 none :: GW) B.pre
  have hts : ∀ w ∈ GW, w.before _ s = true := fun w h => hts0 w (List.mem_cons_of_mem _ h)
  clear hts0
  have hown : s.vm.findClass RX8 = some m.cls := findClass_of_methodNamed B.named
  have hlocks := B.notSynchronized
  have hA : ∀ q, box b 272 q → box b 272 q := fun _ h => h
  have hS : va_S (box b 272) s.heap s.heap [] := va_S.rf
  have hl := lv_entry ([.ref (b + x0), .ref (b + x1)]) (n := 2) (Nat.le_of_ble_eq_true rfl)
  rw [lg_entry_eq]
  generalize (lg_sl ([.ref (b + x0), .ref (b + x1)]) ++ List.replicate (2 - (lg_sl ([.ref (b + x0), .ref (b + x1)])).length) Slot.unset).toArray = ls at hl ⊢
  have hl : lv_has ls 2 [(0, .ref (b + x0)), (1, .ref (b + x1))] := hl
  generalize ([.ref (b + x0), .ref (b + x1)] : List Value).toArray = av at hts ⊢
  show W p l e rmX8_copyFrom s m av below meth c s.heap [] 0 0 _ _
  obtain ⟨QQ, hQQ⟩ : ∃ z, z = MQ below (va_Qv (fun u => u = (o1, L, R)) (QW D ce b kdC lnC 272) (box b 272)) av s 0 0 (box b 272) := ⟨_, rfl⟩
  rw [← hQQ]
  have hret : ∀ (I1 : mI), some I1 = some o1 → ∀ (H1 : Heap) (locs1 : List Loc) (ls1 : Array Slot) (pc1 : Nat), decode cX8_copyFrom pc1 = .ok (.return_, 1) → va_P D vwCl (wd ce b kdC lnC 272 I1 L R) H1 → WT kdC R → va_S (box b 272) s.heap H1 locs1 → W p l e rmX8_copyFrom s m av below meth c H1 locs1 0 0 QQ (F0 m pc1 ls1 []) := by
    intro I1 hq H1 locs1 ls1 pc1 hd hP hT hS
    cases hq
    rw [hQQ]
    exact mm_vret hx hb hr hlocks hP hT hS hd
  unfold f_X8_copyFrom at hf
  obtain ⟨H, hH⟩ : ∃ z, z = s.heap := ⟨_, rfl⟩
  obtain ⟨locs, hlo⟩ : ∃ z : List Loc, z = [] := ⟨_, rfl⟩
  have hP : va_P D vwCl (wd ce b kdC lnC 272 I L R) H := by rw [hH]; exact hP
  have hS : va_S (box b 272) s.heap H locs := by rw [hH, hlo]; exact hS
  rw [show W p l e rmX8_copyFrom s m av below meth c s.heap [] 0 0 QQ = W p l e rmX8_copyFrom s m av below meth c H locs 0 0 QQ by rw [hH, hlo]]
  clear hH hlo
  clear hQQ
  show W p l e rmX8_copyFrom s m av below meth c H locs 0 0 QQ (F0 m 0 ls [])
  refine lv_aload_n hx hb dX8_copyFrom_0 rfl (lv_at hl 0 rfl) ?_
  refine lv_aload_n hx hb dX8_copyFrom_1 rfl (lv_at hl 1 rfl) ?_
  refine mm_geti hx hb hts hown hKK hP fk8_2 (Or.inl rfl) lkX8_22 (kdC_lt h1 (Nat.succ_ne_zero _)) h1 dX8_copyFrom_2 ?_
  refine lv_aload_n hx hb dX8_copyFrom_5 rfl (lv_at hl 0 rfl) ?_
  have t1 : kdC (R x0 0) = 1 := wt hT h0 rfl
  refine mm_getr hx hb hts hown hKK hP fk8_0 (Nat.le_of_ble_eq_true rfl) lkX8_13 (kdC_lt h0 (Nat.succ_ne_zero _)) h0 (nC t1 (Nat.succ_ne_zero _)) dX8_copyFrom_6 ?_
  refine mm_alen hx hb hKK hP (kdC_lt t1 (Nat.succ_ne_zero _)) t1 dX8_copyFrom_9 ?_
  refine va_mmin hx hb (hml.trans hl.1.symm) hown (hts _ mkX8_39.1) (hts _ mkX8_39.2.1) (hts _ mkX8_39.2.2.1) (hts _ mkX8_39.2.2.2) (Nat.le_of_ble_eq_true rfl) (Nat.le_of_ble_eq_true rfl) (Nat.zero_le _) (Nat.zero_le _) dX8_copyFrom_10 ?_
  refine jnE hf (fun I2 eI2 hf => ?_)
  refine mm_puti hx hb hts hown hKK hP hA hS fk8_2 (Or.inl rfl) fw8_2 lkX8_22 (kdC_lt h0 (Nat.succ_ne_zero _)) h0 rfl rfl dX8_copyFrom_13 (fun H locs hP hS => ?_)
  rw [← eI2] at hP
  refine lv_aload_n hx hb dX8_copyFrom_16 rfl (lv_at hl 1 rfl) ?_
  have t3 : kdC (R x1 0) = 1 := wt hT h1 rfl
  refine mm_getr hx hb hts hown hKK hP fk8_0 (Nat.le_of_ble_eq_true rfl) lkX8_13 (kdC_lt h1 (Nat.succ_ne_zero _)) h1 (nC t3 (Nat.succ_ne_zero _)) dX8_copyFrom_17 ?_
  refine lv_iconst (v := (0 : Int32)) hx hb dX8_copyFrom_20 (by decide) ?_
  refine lv_aload_n hx hb dX8_copyFrom_21 rfl (lv_at hl 0 rfl) ?_
  refine mm_getr hx hb hts hown hKK hP fk8_0 (Nat.le_of_ble_eq_true rfl) lkX8_13 (kdC_lt h0 (Nat.succ_ne_zero _)) h0 (nC t1 (Nat.succ_ne_zero _)) dX8_copyFrom_22 ?_
  refine lv_iconst (v := (0 : Int32)) hx hb dX8_copyFrom_25 (by decide) ?_
  refine lv_aload_n hx hb dX8_copyFrom_26 rfl (lv_at hl 0 rfl) ?_
  refine mm_geti hx hb hts hown hKK hP fk8_2 (Or.inl rfl) lkX8_22 (kdC_lt h0 (Nat.succ_ne_zero _)) h0 dX8_copyFrom_27 ?_
  obtain ⟨g4, hf⟩ := grd hf
  refine jnE hf (fun I5 eI5 hf => ?_)
  refine mm_copy hx hb (hml.trans hl.1.symm) hts hown hKK hP hA hS akX8_42 akw (kdC_lt t3 (Nat.succ_ne_zero _)) t3 (kdC_lt t1 (Nat.succ_ne_zero _)) t1 g4 (Nat.le_of_ble_eq_true rfl) (Nat.le_of_ble_eq_true rfl) dX8_copyFrom_30 (fun H locs hP hS => ?_)
  rw [← eI5] at hP
  refine lv_aload_n hx hb dX8_copyFrom_33 rfl (lv_at hl 1 rfl) ?_
  have t6 : kdC (R x1 1) = 1 := wt hT h1 rfl
  refine mm_getr hx hb hts hown hKK hP fk8_1 (Nat.le_of_ble_eq_true rfl) lkX8_19 (kdC_lt h1 (Nat.succ_ne_zero _)) h1 (nC t6 (Nat.succ_ne_zero _)) dX8_copyFrom_34 ?_
  refine lv_iconst (v := (0 : Int32)) hx hb dX8_copyFrom_37 (by decide) ?_
  refine lv_aload_n hx hb dX8_copyFrom_38 rfl (lv_at hl 0 rfl) ?_
  have t7 : kdC (R x0 1) = 1 := wt hT h0 rfl
  refine mm_getr hx hb hts hown hKK hP fk8_1 (Nat.le_of_ble_eq_true rfl) lkX8_19 (kdC_lt h0 (Nat.succ_ne_zero _)) h0 (nC t7 (Nat.succ_ne_zero _)) dX8_copyFrom_39 ?_
  refine lv_iconst (v := (0 : Int32)) hx hb dX8_copyFrom_42 (by decide) ?_
  refine lv_aload_n hx hb dX8_copyFrom_43 rfl (lv_at hl 0 rfl) ?_
  refine mm_geti hx hb hts hown hKK hP fk8_2 (Or.inl rfl) lkX8_22 (kdC_lt h0 (Nat.succ_ne_zero _)) h0 dX8_copyFrom_44 ?_
  obtain ⟨g8, hf⟩ := grd hf
  refine jnE hf (fun I9 eI9 hf => ?_)
  refine mm_copy hx hb (hml.trans hl.1.symm) hts hown hKK hP hA hS akX8_42 akw (kdC_lt t6 (Nat.succ_ne_zero _)) t6 (kdC_lt t7 (Nat.succ_ne_zero _)) t7 g8 (Nat.le_of_ble_eq_true rfl) (Nat.le_of_ble_eq_true rfl) dX8_copyFrom_47 (fun H locs hP hS => ?_)
  rw [← eI9] at hP
  exact hret I9 hf H locs ls _ dX8_copyFrom_50 hP hT hS
def rmX3_copyFrom : Room := { frames := 2, cells := 0, slots := 0, locals := 51 }
set_option maxHeartbeats 4000000 in
set_option maxRecDepth 100000 in
theorem k_X3_copyFrom (l : Launch) (D : va_G) (ce : Nat → ClassId) (b : Nat) (I : mI) (L : mL) (R : mR) (hT : WT kdC R) (x0 : Nat) (x1 : Nat) (h0 : kdC x0 = 9) (h1 : kdC x1 = 9) (o1 : mI) (hf : f_X3_copyFrom x0 x1 I R = some o1) : Met l yX3_copyFrom (Cond.code yX3_copyFrom cX3_copyFrom 2 none :: GW) rmX3_copyFrom (va_Pc [.ref (b + x0), .ref (b + x1)] (PW D ce b kdC lnC 272 I L R)) (va_Qv (fun u => u = (o1, L, R)) (QW D ce b kdC lnC 272) (box b 272)) 0 0 (box b 272) := by
  refine Met.ofW (cc := cX3_copyFrom) (maxL := 2) (ret := none) (by decide) rfl ?_
  intro p e s m args below meth c s₁ B hml hv
  obtain ⟨rfl, hP, hKK⟩ := hv
  have hx := B.exec
  have hb := B.bytes
  have hr := B.returns
  have hts0 := atoms_spec (ws := Cond.code yX3_copyFrom cX3_copyFrom 2 none :: GW) B.pre
  have hts : ∀ w ∈ GW, w.before _ s = true := fun w h => hts0 w (List.mem_cons_of_mem _ h)
  clear hts0
  have hown : s.vm.findClass RX3 = some m.cls := findClass_of_methodNamed B.named
  have hlocks := B.notSynchronized
  have hA : ∀ q, box b 272 q → box b 272 q := fun _ h => h
  have hS : va_S (box b 272) s.heap s.heap [] := va_S.rf
  have hl := lv_entry ([.ref (b + x0), .ref (b + x1)]) (n := 2) (Nat.le_of_ble_eq_true rfl)
  rw [lg_entry_eq]
  generalize (lg_sl ([.ref (b + x0), .ref (b + x1)]) ++ List.replicate (2 - (lg_sl ([.ref (b + x0), .ref (b + x1)])).length) Slot.unset).toArray = ls at hl ⊢
  have hl : lv_has ls 2 [(0, .ref (b + x0)), (1, .ref (b + x1))] := hl
  generalize ([.ref (b + x0), .ref (b + x1)] : List Value).toArray = av at hts ⊢
  show W p l e rmX3_copyFrom s m av below meth c s.heap [] 0 0 _ _
  obtain ⟨QQ, hQQ⟩ : ∃ z, z = MQ below (va_Qv (fun u => u = (o1, L, R)) (QW D ce b kdC lnC 272) (box b 272)) av s 0 0 (box b 272) := ⟨_, rfl⟩
  rw [← hQQ]
  have hret : ∀ (I1 : mI), some I1 = some o1 → ∀ (H1 : Heap) (locs1 : List Loc) (ls1 : Array Slot) (pc1 : Nat), decode cX3_copyFrom pc1 = .ok (.return_, 1) → va_P D vwCl (wd ce b kdC lnC 272 I1 L R) H1 → WT kdC R → va_S (box b 272) s.heap H1 locs1 → W p l e rmX3_copyFrom s m av below meth c H1 locs1 0 0 QQ (F0 m pc1 ls1 []) := by
    intro I1 hq H1 locs1 ls1 pc1 hd hP hT hS
    cases hq
    rw [hQQ]
    exact mm_vret hx hb hr hlocks hP hT hS hd
  unfold f_X3_copyFrom at hf
  obtain ⟨H, hH⟩ : ∃ z, z = s.heap := ⟨_, rfl⟩
  obtain ⟨locs, hlo⟩ : ∃ z : List Loc, z = [] := ⟨_, rfl⟩
  have hP : va_P D vwCl (wd ce b kdC lnC 272 I L R) H := by rw [hH]; exact hP
  have hS : va_S (box b 272) s.heap H locs := by rw [hH, hlo]; exact hS
  rw [show W p l e rmX3_copyFrom s m av below meth c s.heap [] 0 0 QQ = W p l e rmX3_copyFrom s m av below meth c H locs 0 0 QQ by rw [hH, hlo]]
  clear hH hlo
  clear hQQ
  show W p l e rmX3_copyFrom s m av below meth c H locs 0 0 QQ (F0 m 0 ls [])
  refine lv_aload_n hx hb dX3_copyFrom_0 rfl (lv_at hl 0 rfl) ?_
  have t1 : kdC (R x0 0) = 14 := wt hT h0 rfl
  refine mm_getr hx hb hts hown hKK hP fk3_0 (Nat.le_of_ble_eq_true rfl) lkX3_14 (kdC_lt h0 (Nat.succ_ne_zero _)) h0 (nC t1 (Nat.succ_ne_zero _)) dX3_copyFrom_1 ?_
  refine lv_aload_n hx hb dX3_copyFrom_4 rfl (lv_at hl 1 rfl) ?_
  have t2 : kdC (R x1 0) = 14 := wt hT h1 rfl
  refine mm_getr hx hb hts hown hKK hP fk3_0 (Nat.le_of_ble_eq_true rfl) lkX3_14 (kdC_lt h1 (Nat.succ_ne_zero _)) h1 (nC t2 (Nat.succ_ne_zero _)) dX3_copyFrom_5 ?_
  obtain ⟨I3, e3, hf⟩ := bd1_o hf
  refine mm_Vv (rest := []) hx hb hml hown hts hKK hP hS hA (kdC_lt t1 (Nat.succ_ne_zero _)) t1 (show vwCl[8]? = some (yX8_copyFrom.cls, TX8, 3) from rfl) vkX3_23 (k_X8_copyFrom l D ce b I L R hT (R x0 0) (R x1 0) t1 t2 I3 e3) rfl hl.1 rfl (Nat.le_of_ble_eq_true rfl) ⟨rfl, rfl⟩ ⟨Nat.le_of_ble_eq_true rfl, Nat.le_of_ble_eq_true rfl⟩ ⟨Nat.zero_le _, Nat.zero_le _⟩ dX3_copyFrom_8 (fun H locs hP hT hS => ?_)
  refine lv_aload_n hx hb dX3_copyFrom_11 rfl (lv_at hl 0 rfl) ?_
  have t4 : kdC (R x0 1) = 14 := wt hT h0 rfl
  refine mm_getr hx hb hts hown hKK hP fk3_1 (Nat.le_of_ble_eq_true rfl) lkX3_20 (kdC_lt h0 (Nat.succ_ne_zero _)) h0 (nC t4 (Nat.succ_ne_zero _)) dX3_copyFrom_12 ?_
  refine lv_aload_n hx hb dX3_copyFrom_15 rfl (lv_at hl 1 rfl) ?_
  have t5 : kdC (R x1 1) = 14 := wt hT h1 rfl
  refine mm_getr hx hb hts hown hKK hP fk3_1 (Nat.le_of_ble_eq_true rfl) lkX3_20 (kdC_lt h1 (Nat.succ_ne_zero _)) h1 (nC t5 (Nat.succ_ne_zero _)) dX3_copyFrom_16 ?_
  obtain ⟨I6, e6, hf⟩ := bd1_o hf
  refine mm_Vv (rest := []) hx hb hml hown hts hKK hP hS hA (kdC_lt t4 (Nat.succ_ne_zero _)) t4 (show vwCl[8]? = some (yX8_copyFrom.cls, TX8, 3) from rfl) vkX3_23 (k_X8_copyFrom l D ce b I3 L R hT (R x0 1) (R x1 1) t4 t5 I6 e6) rfl hl.1 rfl (Nat.le_of_ble_eq_true rfl) ⟨rfl, rfl⟩ ⟨Nat.le_of_ble_eq_true rfl, Nat.le_of_ble_eq_true rfl⟩ ⟨Nat.zero_le _, Nat.zero_le _⟩ dX3_copyFrom_19 (fun H locs hP hT hS => ?_)
  exact hret I6 hf H locs ls _ dX3_copyFrom_22 hP hT hS
def rmX7_copyFrom : Room := { frames := 3, cells := 0, slots := 0, locals := 72 }
set_option maxHeartbeats 4000000 in
set_option maxRecDepth 100000 in
theorem k_X7_copyFrom (l : Launch) (D : va_G) (ce : Nat → ClassId) (b : Nat) (I : mI) (L : mL) (R : mR) (hT : WT kdC R) (x0 : Nat) (x1 : Nat) (h0 : kdC x0 = 13) (h1 : kdC x1 = 13) (o1 : mI) (hf : f_X7_copyFrom x0 x1 I R = some o1) : Met l yX7_copyFrom (Cond.code yX7_copyFrom cX7_copyFrom 3 none :: GW) rmX7_copyFrom (va_Pc [.ref (b + x0), .ref (b + x1)] (PW D ce b kdC lnC 272 I L R)) (va_Qv (fun u => u = (o1, L, R)) (QW D ce b kdC lnC 272) (box b 272)) 0 0 (box b 272) := by
  refine Met.ofW (cc := cX7_copyFrom) (maxL := 3) (ret := none) (by decide) rfl ?_
  intro p e s m args below meth c s₁ B hml hv
  obtain ⟨rfl, hP, hKK⟩ := hv
  have hx := B.exec
  have hb := B.bytes
  have hr := B.returns
  have hts0 := atoms_spec (ws := Cond.code yX7_copyFrom cX7_copyFrom 3 none :: GW) B.pre
  have hts : ∀ w ∈ GW, w.before _ s = true := fun w h => hts0 w (List.mem_cons_of_mem _ h)
  clear hts0
  have hown : s.vm.findClass RX7 = some m.cls := findClass_of_methodNamed B.named
  have hlocks := B.notSynchronized
  have hA : ∀ q, box b 272 q → box b 272 q := fun _ h => h
  have hS : va_S (box b 272) s.heap s.heap [] := va_S.rf
  have hl := lv_entry ([.ref (b + x0), .ref (b + x1)]) (n := 3) (Nat.le_of_ble_eq_true rfl)
  rw [lg_entry_eq]
  generalize (lg_sl ([.ref (b + x0), .ref (b + x1)]) ++ List.replicate (3 - (lg_sl ([.ref (b + x0), .ref (b + x1)])).length) Slot.unset).toArray = ls at hl ⊢
  have hl : lv_has ls 3 [(0, .ref (b + x0)), (1, .ref (b + x1))] := hl
  generalize ([.ref (b + x0), .ref (b + x1)] : List Value).toArray = av at hts ⊢
  show W p l e rmX7_copyFrom s m av below meth c s.heap [] 0 0 _ _
  obtain ⟨QQ, hQQ⟩ : ∃ z, z = MQ below (va_Qv (fun u => u = (o1, L, R)) (QW D ce b kdC lnC 272) (box b 272)) av s 0 0 (box b 272) := ⟨_, rfl⟩
  rw [← hQQ]
  have hret : ∀ (I1 : mI), some I1 = some o1 → ∀ (H1 : Heap) (locs1 : List Loc) (ls1 : Array Slot) (pc1 : Nat), decode cX7_copyFrom pc1 = .ok (.return_, 1) → va_P D vwCl (wd ce b kdC lnC 272 I1 L R) H1 → WT kdC R → va_S (box b 272) s.heap H1 locs1 → W p l e rmX7_copyFrom s m av below meth c H1 locs1 0 0 QQ (F0 m pc1 ls1 []) := by
    intro I1 hq H1 locs1 ls1 pc1 hd hP hT hS
    cases hq
    rw [hQQ]
    exact mm_vret hx hb hr hlocks hP hT hS hd
  unfold f_X7_copyFrom at hf
  obtain ⟨H, hH⟩ : ∃ z, z = s.heap := ⟨_, rfl⟩
  obtain ⟨locs, hlo⟩ : ∃ z : List Loc, z = [] := ⟨_, rfl⟩
  have hP : va_P D vwCl (wd ce b kdC lnC 272 I L R) H := by rw [hH]; exact hP
  have hS : va_S (box b 272) s.heap H locs := by rw [hH, hlo]; exact hS
  rw [show W p l e rmX7_copyFrom s m av below meth c s.heap [] 0 0 QQ = W p l e rmX7_copyFrom s m av below meth c H locs 0 0 QQ by rw [hH, hlo]]
  clear hH hlo
  clear hQQ
  show W p l e rmX7_copyFrom s m av below meth c H locs 0 0 QQ (F0 m 0 ls [])
  refine lv_aload_n hx hb dX7_copyFrom_0 rfl (lv_at hl 0 rfl) ?_
  refine lv_aload_n hx hb dX7_copyFrom_1 rfl (lv_at hl 1 rfl) ?_
  refine mm_geti hx hb hts hown hKK hP fk7_2 (Or.inl rfl) lkX7_27 (kdC_lt h1 (Nat.succ_ne_zero _)) h1 dX7_copyFrom_2 ?_
  refine jnE hf (fun I1 eI1 hf => ?_)
  refine mm_puti hx hb hts hown hKK hP hA hS fk7_2 (Or.inl rfl) fw7_2 lkX7_27 (kdC_lt h0 (Nat.succ_ne_zero _)) h0 rfl rfl dX7_copyFrom_5 (fun H locs hP hS => ?_)
  rw [← eI1] at hP
  refine lv_iconst (v := (0 : Int32)) hx hb dX7_copyFrom_8 (by decide) ?_
  refine lv_istore_n (lv' := [(2, .int (0 : Int32)), (0, .ref (b + x0)), (1, .ref (b + x1))]) hx hb dX7_copyFrom_9 rfl hl (Nat.le_of_ble_eq_true rfl) rfl (fun ls hl => ?_)
  have lp10 : ∀ (n : Nat) (x0 : Nat) (x1 : Nat) (x2 : Int32) (I : mI) (L : mL) (R : mR) (a1 : mI) (H : Heap) (locs : List Loc) (ls : Array Slot), va_P D vwCl (wd ce b kdC lnC 272 I L R) H → va_S (box b 272) s.heap H locs → WT kdC R → kdC x0 = 13 → kdC x1 = 13 → lv_has ls 3 [(0, .ref (b + x0)), (1, .ref (b + x1)), (2, .int x2)] → f_X7_copyFrom_L10 n x0 x1 x2 I R = some a1 → (∀ (H1 : Heap) (locs1 : List Loc) (ls1 : Array Slot), va_P D vwCl (wd ce b kdC lnC 272 a1 L R) H1 → va_S (box b 272) s.heap H1 locs1 → lv_has ls1 3 [(0, .ref (b + x0)), (1, .ref (b + x1))] → W p l e rmX7_copyFrom s m av below meth c H1 locs1 0 0 QQ (F0 m 39 ls1 [])) → W p l e rmX7_copyFrom s m av below meth c H locs 0 0 QQ (F0 m 10 ls []) := by
    intro n
    induction n with
    | zero =>
      intro x0 x1 x2 I L R a1 H locs ls hP hS hT h0 h1 hl hf kx
      exact absurd (show (none : Option (mI)) = some _ from hf) (by simp)
    | succ n ih =>
      intro x0 x1 x2 I L R a1 H locs ls hP hS hT h0 h1 hl hf kx
      rw [f_X7_copyFrom_L10] at hf
      refine lv_iload_n hx hb dX7_copyFrom_10 rfl (lv_at hl 2 rfl) ?_
      refine lv_aload_n hx hb dX7_copyFrom_11 rfl (lv_at hl 0 rfl) ?_
      refine mm_geti hx hb hts hown hKK hP fk7_2 (Or.inl rfl) lkX7_27 (kdC_lt h0 (Nat.succ_ne_zero _)) h0 dX7_copyFrom_12 ?_
      refine lv_icmp_ge (tgt := 39) hx hb dX7_copyFrom_15 (by decide) (fun c2 => ?_) (fun c2 => ?_)
      · have hf := ifT hf c2
        cases hf
        exact kx H locs ls hP hS (lv_sub hl [0, 1] rfl)
      · have hf := ifF hf c2
        refine lv_aload_n hx hb dX7_copyFrom_18 rfl (lv_at hl 0 rfl) ?_
        have t3 : kdC (R x0 0) = 4 := wt hT h0 rfl
        refine mm_getr hx hb hts hown hKK hP fk7_0 (Nat.le_of_ble_eq_true rfl) lkX7_11 (kdC_lt h0 (Nat.succ_ne_zero _)) h0 (nC t3 (Nat.succ_ne_zero _)) dX7_copyFrom_19 ?_
        refine lv_iload_n hx hb dX7_copyFrom_22 rfl (lv_at hl 2 rfl) ?_
        obtain ⟨g4, hf⟩ := grd hf
        have t5 : kdC (R (R x0 0) x2.toNatClampNeg) = 9 := wt hT t3 rfl
        refine mm_aald4 hx hb hKK hP (kdC_lt t3 (Nat.succ_ne_zero _)) t3 g4 (nC t5 (Nat.succ_ne_zero _)) dX7_copyFrom_23 ?_
        refine lv_aload_n hx hb dX7_copyFrom_24 rfl (lv_at hl 1 rfl) ?_
        have t6 : kdC (R x1 0) = 4 := wt hT h1 rfl
        refine mm_getr hx hb hts hown hKK hP fk7_0 (Nat.le_of_ble_eq_true rfl) lkX7_11 (kdC_lt h1 (Nat.succ_ne_zero _)) h1 (nC t6 (Nat.succ_ne_zero _)) dX7_copyFrom_25 ?_
        refine lv_iload_n hx hb dX7_copyFrom_28 rfl (lv_at hl 2 rfl) ?_
        obtain ⟨g7, hf⟩ := grd hf
        have t8 : kdC (R (R x1 0) x2.toNatClampNeg) = 9 := wt hT t6 rfl
        refine mm_aald4 hx hb hKK hP (kdC_lt t6 (Nat.succ_ne_zero _)) t6 g7 (nC t8 (Nat.succ_ne_zero _)) dX7_copyFrom_29 ?_
        obtain ⟨I9, e9, hf⟩ := bd1_o hf
        refine mm_Vv (rest := []) hx hb hml hown hts hKK hP hS hA (kdC_lt t5 (Nat.succ_ne_zero _)) t5 (show vwCl[3]? = some (yX3_copyFrom.cls, TX3, 2) from rfl) vkX7_31 (k_X3_copyFrom l D ce b I L R hT (R (R x0 0) x2.toNatClampNeg) (R (R x1 0) x2.toNatClampNeg) t5 t8 I9 e9) rfl hl.1 rfl (Nat.le_of_ble_eq_true rfl) ⟨rfl, rfl⟩ ⟨Nat.le_of_ble_eq_true rfl, Nat.le_of_ble_eq_true rfl⟩ ⟨Nat.zero_le _, Nat.zero_le _⟩ dX7_copyFrom_30 (fun H locs hP hT hS => ?_)
        refine lv_iinc (v := (x2 + (1 : Int32))) (lv' := [(2, .int (x2 + (1 : Int32))), (0, .ref (b + x0)), (1, .ref (b + x1))]) hx hb dX7_copyFrom_33 hl (k := 2) rfl rfl (Nat.le_of_ble_eq_true rfl) rfl (fun ls hl => ?_)
        refine lv_goto (tgt := 10) hx hb dX7_copyFrom_36 (by decide) ?_
        exact ih x0 x1 (x2 + (1 : Int32)) I9 L R a1 H locs ls hP hS hT h0 h1 (lv_sub hl [1, 2, 0] rfl) hf kx
  obtain ⟨I_10, e_10, hf⟩ := bd1_o hf
  refine lp10 FU x0 x1 (0 : Int32) I1 L R I_10 H locs ls hP hS hT h0 h1 (lv_sub hl [1, 2, 0] rfl) e_10 (fun H locs ls hP hS hl => ?_)
  refine lv_aload_n hx hb dX7_copyFrom_39 rfl (lv_at hl 0 rfl) ?_
  have t11 : kdC (R x0 1) = 14 := wt hT h0 rfl
  refine mm_getr hx hb hts hown hKK hP fk7_1 (Nat.le_of_ble_eq_true rfl) lkX7_22 (kdC_lt h0 (Nat.succ_ne_zero _)) h0 (nC t11 (Nat.succ_ne_zero _)) dX7_copyFrom_40 ?_
  refine lv_aload_n hx hb dX7_copyFrom_43 rfl (lv_at hl 1 rfl) ?_
  have t12 : kdC (R x1 1) = 14 := wt hT h1 rfl
  refine mm_getr hx hb hts hown hKK hP fk7_1 (Nat.le_of_ble_eq_true rfl) lkX7_22 (kdC_lt h1 (Nat.succ_ne_zero _)) h1 (nC t12 (Nat.succ_ne_zero _)) dX7_copyFrom_44 ?_
  obtain ⟨I13, e13, hf⟩ := bd1_o hf
  refine mm_Vv (rest := []) hx hb hml hown hts hKK hP hS hA (kdC_lt t11 (Nat.succ_ne_zero _)) t11 (show vwCl[8]? = some (yX8_copyFrom.cls, TX8, 3) from rfl) vkX7_35 (k_X8_copyFrom l D ce b I_10 L R hT (R x0 1) (R x1 1) t11 t12 I13 e13) rfl hl.1 rfl (Nat.le_of_ble_eq_true rfl) ⟨rfl, rfl⟩ ⟨Nat.le_of_ble_eq_true rfl, Nat.le_of_ble_eq_true rfl⟩ ⟨Nat.zero_le _, Nat.zero_le _⟩ dX7_copyFrom_47 (fun H locs hP hT hS => ?_)
  exact hret I13 hf H locs ls _ dX7_copyFrom_50 hP hT hS
def rmX1_keep : Room := { frames := 4, cells := 0, slots := 0, locals := 94 }
set_option maxHeartbeats 4000000 in
set_option maxRecDepth 100000 in
theorem k_X1_keep (l : Launch) (D : va_G) (ce : Nat → ClassId) (b : Nat) (I : mI) (L : mL) (R : mR) (hT : WT kdC R) (x0 : Nat) (x1 : Nat) (h0 : kdC x0 = 7) (h1 : kdC x1 = 13) (o1 : mI) (o2 : mR) (hf : f_X1_keep x0 x1 I R = some (o1, o2)) : Met l yX1_keep (Cond.code yX1_keep cX1_keep 2 none :: GW) rmX1_keep (va_Pc [.ref (b + x0), .ref (b + x1)] (PW D ce b kdC lnC 272 I L R)) (va_Qv (fun u => u = (o1, L, o2)) (QW D ce b kdC lnC 272) (box b 272)) 0 0 (box b 272) := by
  refine Met.ofW (cc := cX1_keep) (maxL := 2) (ret := none) (by decide) rfl ?_
  intro p e s m args below meth c s₁ B hml hv
  obtain ⟨rfl, hP, hKK⟩ := hv
  have hx := B.exec
  have hb := B.bytes
  have hr := B.returns
  have hts0 := atoms_spec (ws := Cond.code yX1_keep cX1_keep 2 none :: GW) B.pre
  have hts : ∀ w ∈ GW, w.before _ s = true := fun w h => hts0 w (List.mem_cons_of_mem _ h)
  clear hts0
  have hown : s.vm.findClass RX1 = some m.cls := findClass_of_methodNamed B.named
  have hlocks := B.notSynchronized
  have hA : ∀ q, box b 272 q → box b 272 q := fun _ h => h
  have hS : va_S (box b 272) s.heap s.heap [] := va_S.rf
  have hl := lv_entry ([.ref (b + x0), .ref (b + x1)]) (n := 2) (Nat.le_of_ble_eq_true rfl)
  rw [lg_entry_eq]
  generalize (lg_sl ([.ref (b + x0), .ref (b + x1)]) ++ List.replicate (2 - (lg_sl ([.ref (b + x0), .ref (b + x1)])).length) Slot.unset).toArray = ls at hl ⊢
  have hl : lv_has ls 2 [(0, .ref (b + x0)), (1, .ref (b + x1))] := hl
  generalize ([.ref (b + x0), .ref (b + x1)] : List Value).toArray = av at hts ⊢
  show W p l e rmX1_keep s m av below meth c s.heap [] 0 0 _ _
  obtain ⟨QQ, hQQ⟩ : ∃ z, z = MQ below (va_Qv (fun u => u = (o1, L, o2)) (QW D ce b kdC lnC 272) (box b 272)) av s 0 0 (box b 272) := ⟨_, rfl⟩
  rw [← hQQ]
  have hret : ∀ (I1 : mI) (R1 : mR), some (I1, R1) = some (o1, o2) → ∀ (H1 : Heap) (locs1 : List Loc) (ls1 : Array Slot) (pc1 : Nat), decode cX1_keep pc1 = .ok (.return_, 1) → va_P D vwCl (wd ce b kdC lnC 272 I1 L R1) H1 → WT kdC R1 → va_S (box b 272) s.heap H1 locs1 → W p l e rmX1_keep s m av below meth c H1 locs1 0 0 QQ (F0 m pc1 ls1 []) := by
    intro I1 R1 hq H1 locs1 ls1 pc1 hd hP hT hS
    cases hq
    rw [hQQ]
    exact mm_vret hx hb hr hlocks hP hT hS hd
  unfold f_X1_keep at hf
  obtain ⟨H, hH⟩ : ∃ z, z = s.heap := ⟨_, rfl⟩
  obtain ⟨locs, hlo⟩ : ∃ z : List Loc, z = [] := ⟨_, rfl⟩
  have hP : va_P D vwCl (wd ce b kdC lnC 272 I L R) H := by rw [hH]; exact hP
  have hS : va_S (box b 272) s.heap H locs := by rw [hH, hlo]; exact hS
  rw [show W p l e rmX1_keep s m av below meth c s.heap [] 0 0 QQ = W p l e rmX1_keep s m av below meth c H locs 0 0 QQ by rw [hH, hlo]]
  clear hH hlo
  clear hQQ
  show W p l e rmX1_keep s m av below meth c H locs 0 0 QQ (F0 m 0 ls [])
  refine lv_aload_n hx hb dX1_keep_0 rfl (lv_at hl 0 rfl) ?_
  refine mm_geti hx hb hts hown hKK hP fk1_1 (Or.inl rfl) lkX1_18 (kdC_lt h0 (Nat.succ_ne_zero _)) h0 dX1_keep_1 ?_
  refine lv_iconst (v := (5 : Int32)) hx hb dX1_keep_4 (by decide) ?_
  refine jnE hf (fun j12_1 ej_1 hf => ?_)
  have hJ12_1 : ∀ (I_1 : mI) (R_1 : mR) (H : Heap) (locs : List Loc) (ls : Array Slot), va_P D vwCl (wd ce b kdC lnC 272 I_1 L R_1) H → va_S (box b 272) s.heap H locs → WT kdC R_1 → lv_has ls 2 [(0, .ref (b + x0)), (1, .ref (b + x1))] → j12_1 I_1 R_1 = some (o1, o2) → W p l e rmX1_keep s m av below meth c H locs 0 0 QQ (F0 m 12 ls []) := by
    intro I_1 R_1 H locs ls hP hS hT  hl hf
    rw [ej_1] at hf
    try dsimp only at hf
    refine lv_aload_n hx hb dX1_keep_12 rfl (lv_at hl 0 rfl) ?_
    have t2 : kdC (R_1 x0 0) = 5 := wt hT h0 rfl
    refine mm_getr hx hb hts hown hKK hP fk1_0 (Nat.le_of_ble_eq_true rfl) lkX1_11 (kdC_lt h0 (Nat.succ_ne_zero _)) h0 (nC t2 (Nat.succ_ne_zero _)) dX1_keep_13 ?_
    refine lv_aload_n hx hb dX1_keep_16 rfl (lv_at hl 0 rfl) ?_
    refine mm_geti hx hb hts hown hKK hP fk1_1 (Or.inl rfl) lkX1_18 (kdC_lt h0 (Nat.succ_ne_zero _)) h0 dX1_keep_17 ?_
    obtain ⟨g3, hf⟩ := grd hf
    have t4 : kdC (R_1 (R_1 x0 0) ((I_1 x0 1)).toNatClampNeg) = 13 := wt hT t2 rfl
    refine mm_aald5 hx hb hKK hP (kdC_lt t2 (Nat.succ_ne_zero _)) t2 g3 (nC t4 (Nat.succ_ne_zero _)) dX1_keep_20 ?_
    refine lv_aload_n hx hb dX1_keep_21 rfl (lv_at hl 1 rfl) ?_
    obtain ⟨I5, e5, hf⟩ := bd1_o hf
    refine mm_Vv (rest := []) hx hb hml hown hts hKK hP hS hA (kdC_lt t4 (Nat.succ_ne_zero _)) t4 (show vwCl[7]? = some (yX7_copyFrom.cls, TX7, 3) from rfl) vkX1_25 (k_X7_copyFrom l D ce b I_1 L R_1 hT (R_1 (R_1 x0 0) ((I_1 x0 1)).toNatClampNeg) x1 t4 h1 I5 e5) rfl hl.1 rfl (Nat.le_of_ble_eq_true rfl) ⟨rfl, rfl⟩ ⟨Nat.le_of_ble_eq_true rfl, Nat.le_of_ble_eq_true rfl⟩ ⟨Nat.zero_le _, Nat.zero_le _⟩ dX1_keep_22 (fun H locs hP hT hS => ?_)
    refine lv_aload_n hx hb dX1_keep_25 rfl (lv_at hl 0 rfl) ?_
    refine lv_dup hx hb dX1_keep_26 rfl ?_
    refine mm_geti hx hb hts hown hKK hP fk1_1 (Or.inl rfl) lkX1_18 (kdC_lt h0 (Nat.succ_ne_zero _)) h0 dX1_keep_27 ?_
    refine lv_iconst (v := (1 : Int32)) hx hb dX1_keep_30 (by decide) ?_
    refine lv_iadd hx hb dX1_keep_31 ?_
    refine jnE hf (fun I6 eI6 hf => ?_)
    refine mm_puti hx hb hts hown hKK hP hA hS fk1_1 (Or.inl rfl) fw1_1 lkX1_18 (kdC_lt h0 (Nat.succ_ne_zero _)) h0 rfl rfl dX1_keep_32 (fun H locs hP hS => ?_)
    rw [← eI6] at hP
    exact hret I6 R_1 hf H locs ls _ dX1_keep_35 hP hT hS
  clear ej_1
  refine lv_icmp_ne (tgt := 12) hx hb dX1_keep_5 (by decide) (fun c7 => ?_) (fun c7 => ?_)
  · have hf := ifF hf c7
    exact hJ12_1 I R H locs ls hP hS hT  (lv_sub hl [0, 1] rfl) hf
  · have hf := ifT hf c7
    refine lv_aload_n hx hb dX1_keep_8 rfl (lv_at hl 0 rfl) ?_
    obtain ⟨I8, R8, e8, hf⟩ := bd2_o hf
    refine mm_Vv (rest := []) hx hb hml hown hts hKK hP hS hA (kdC_lt h0 (Nat.succ_ne_zero _)) h0 (show vwCl[1]? = some (yX1_loseOldest.cls, TX1, 2) from rfl) vkX1_22 (k_X1_loseOldest l D ce b I L R hT x0 h0 I8 R8 e8) rfl hl.1 rfl (Nat.le_of_ble_eq_true rfl) ⟨rfl, rfl⟩ ⟨Nat.le_of_ble_eq_true rfl, Nat.le_of_ble_eq_true rfl⟩ ⟨Nat.zero_le _, Nat.zero_le _⟩ dX1_keep_9 (fun H locs hP hT hS => ?_)
    exact hJ12_1 I8 R8 H locs ls hP hS hT  (lv_sub hl [0, 1] rfl) hf
def rmX10_forgetFindings : Room := { frames := 0, cells := 0, slots := 0, locals := 0 }
set_option maxHeartbeats 4000000 in
set_option maxRecDepth 100000 in
theorem k_X10_forgetFindings (l : Launch) (D : va_G) (ce : Nat → ClassId) (b : Nat) (I : mI) (L : mL) (R : mR) (hT : WT kdC R) (x0 : Nat) (h0 : kdC x0 = 16) (o1 : mI) (hf : f_X10_forgetFindings x0 I = some o1) : Met l yX10_forgetFindings (Cond.code yX10_forgetFindings cX10_forgetFindings 1 none :: GW) rmX10_forgetFindings (va_Pc [.ref (b + x0)] (PW D ce b kdC lnC 272 I L R)) (va_Qv (fun u => u = (o1, L, R)) (QW D ce b kdC lnC 272) (box b 272)) 0 0 (box b 272) := by
  refine Met.ofW (cc := cX10_forgetFindings) (maxL := 1) (ret := none) (by decide) rfl ?_
  intro p e s m args below meth c s₁ B hml hv
  obtain ⟨rfl, hP, hKK⟩ := hv
  have hx := B.exec
  have hb := B.bytes
  have hr := B.returns
  have hts0 := atoms_spec (ws := Cond.code yX10_forgetFindings cX10_forgetFindings 1 none :: GW) B.pre
  have hts : ∀ w ∈ GW, w.before _ s = true := fun w h => hts0 w (List.mem_cons_of_mem _ h)
  clear hts0
  have hown : s.vm.findClass RX10 = some m.cls := findClass_of_methodNamed B.named
  have hlocks := B.notSynchronized
  have hA : ∀ q, box b 272 q → box b 272 q := fun _ h => h
  have hS : va_S (box b 272) s.heap s.heap [] := va_S.rf
  have hl := lv_entry ([.ref (b + x0)]) (n := 1) (Nat.le_of_ble_eq_true rfl)
  rw [lg_entry_eq]
  generalize (lg_sl ([.ref (b + x0)]) ++ List.replicate (1 - (lg_sl ([.ref (b + x0)])).length) Slot.unset).toArray = ls at hl ⊢
  have hl : lv_has ls 1 [(0, .ref (b + x0))] := hl
  generalize ([.ref (b + x0)] : List Value).toArray = av at hts ⊢
  show W p l e rmX10_forgetFindings s m av below meth c s.heap [] 0 0 _ _
  obtain ⟨QQ, hQQ⟩ : ∃ z, z = MQ below (va_Qv (fun u => u = (o1, L, R)) (QW D ce b kdC lnC 272) (box b 272)) av s 0 0 (box b 272) := ⟨_, rfl⟩
  rw [← hQQ]
  have hret : ∀ (I1 : mI), some I1 = some o1 → ∀ (H1 : Heap) (locs1 : List Loc) (ls1 : Array Slot) (pc1 : Nat), decode cX10_forgetFindings pc1 = .ok (.return_, 1) → va_P D vwCl (wd ce b kdC lnC 272 I1 L R) H1 → WT kdC R → va_S (box b 272) s.heap H1 locs1 → W p l e rmX10_forgetFindings s m av below meth c H1 locs1 0 0 QQ (F0 m pc1 ls1 []) := by
    intro I1 hq H1 locs1 ls1 pc1 hd hP hT hS
    cases hq
    rw [hQQ]
    exact mm_vret hx hb hr hlocks hP hT hS hd
  unfold f_X10_forgetFindings at hf
  obtain ⟨H, hH⟩ : ∃ z, z = s.heap := ⟨_, rfl⟩
  obtain ⟨locs, hlo⟩ : ∃ z : List Loc, z = [] := ⟨_, rfl⟩
  have hP : va_P D vwCl (wd ce b kdC lnC 272 I L R) H := by rw [hH]; exact hP
  have hS : va_S (box b 272) s.heap H locs := by rw [hH, hlo]; exact hS
  rw [show W p l e rmX10_forgetFindings s m av below meth c s.heap [] 0 0 QQ = W p l e rmX10_forgetFindings s m av below meth c H locs 0 0 QQ by rw [hH, hlo]]
  clear hH hlo
  clear hQQ
  show W p l e rmX10_forgetFindings s m av below meth c H locs 0 0 QQ (F0 m 0 ls [])
  refine lv_aload_n hx hb dX10_forgetFindings_0 rfl (lv_at hl 0 rfl) ?_
  refine lv_iconst (v := (0 : Int32)) hx hb dX10_forgetFindings_1 (by decide) ?_
  refine jnE hf (fun I1 eI1 hf => ?_)
  refine mm_puti hx hb hts hown hKK hP hA hS fk10_9 (Or.inr rfl) fw10_9 lkX10_273 (kdC_lt h0 (Nat.succ_ne_zero _)) h0 rfl rfl dX10_forgetFindings_2 (fun H locs hP hS => ?_)
  rw [← eI1] at hP
  refine lv_aload_n hx hb dX10_forgetFindings_5 rfl (lv_at hl 0 rfl) ?_
  refine lv_iconst (v := (0 : Int32)) hx hb dX10_forgetFindings_6 (by decide) ?_
  refine jnE hf (fun I2 eI2 hf => ?_)
  refine mm_puti hx hb hts hown hKK hP hA hS fk10_10 (Or.inr rfl) fw10_10 lkX10_276 (kdC_lt h0 (Nat.succ_ne_zero _)) h0 rfl rfl dX10_forgetFindings_7 (fun H locs hP hS => ?_)
  rw [← eI2] at hP
  refine lv_aload_n hx hb dX10_forgetFindings_10 rfl (lv_at hl 0 rfl) ?_
  refine lv_bipush (v := (-9 : Int32)) hx hb dX10_forgetFindings_11 (by decide) ?_
  refine jnE hf (fun I3 eI3 hf => ?_)
  refine mm_puti hx hb hts hown hKK hP hA hS fk10_11 (Or.inl rfl) fw10_11 lkX10_71 (kdC_lt h0 (Nat.succ_ne_zero _)) h0 rfl rfl dX10_forgetFindings_13 (fun H locs hP hS => ?_)
  rw [← eI3] at hP
  exact hret I3 hf H locs ls _ dX10_forgetFindings_16 hP hT hS
def rmX10_reads : Room := { frames := 6, cells := 0, slots := 0, locals := 132 }
set_option maxHeartbeats 4000000 in
set_option maxRecDepth 100000 in
theorem k_X10_reads (l : Launch) (D : va_G) (ce : Nat → ClassId) (b : Nat) (I : mI) (L : mL) (R : mR) (hT : WT kdC R) (x0 : Nat) (h0 : kdC x0 = 16) (o1 : Int32) (o2 : mI) (o3 : mR) (hf : f_X10_reads x0 I R = some (o1, o2, o3)) : Met l yX10_reads (Cond.code yX10_reads cX10_reads 2 (some .int) :: GW) rmX10_reads (va_Pc [.ref (b + x0)] (PW D ce b kdC lnC 272 I L R)) (va_Qi (fun r u => r = o1 ∧ u = (o2, L, o3)) (QW D ce b kdC lnC 272) (box b 272)) 0 0 (box b 272) := by
  refine Met.ofW (cc := cX10_reads) (maxL := 2) (ret := (some .int)) (by decide) rfl ?_
  intro p e s m args below meth c s₁ B hml hv
  obtain ⟨rfl, hP, hKK⟩ := hv
  have hx := B.exec
  have hb := B.bytes
  have hr := B.returns
  have hts0 := atoms_spec (ws := Cond.code yX10_reads cX10_reads 2 (some .int) :: GW) B.pre
  have hts : ∀ w ∈ GW, w.before _ s = true := fun w h => hts0 w (List.mem_cons_of_mem _ h)
  clear hts0
  have hown : s.vm.findClass RX10 = some m.cls := findClass_of_methodNamed B.named
  have hlocks := B.notSynchronized
  have hA : ∀ q, box b 272 q → box b 272 q := fun _ h => h
  have hS : va_S (box b 272) s.heap s.heap [] := va_S.rf
  have hl := lv_entry ([.ref (b + x0)]) (n := 2) (Nat.le_of_ble_eq_true rfl)
  rw [lg_entry_eq]
  generalize (lg_sl ([.ref (b + x0)]) ++ List.replicate (2 - (lg_sl ([.ref (b + x0)])).length) Slot.unset).toArray = ls at hl ⊢
  have hl : lv_has ls 2 [(0, .ref (b + x0))] := hl
  generalize ([.ref (b + x0)] : List Value).toArray = av at hts ⊢
  show W p l e rmX10_reads s m av below meth c s.heap [] 0 0 _ _
  obtain ⟨QQ, hQQ⟩ : ∃ z, z = MQ below (va_Qi (fun r u => r = o1 ∧ u = (o2, L, o3)) (QW D ce b kdC lnC 272) (box b 272)) av s 0 0 (box b 272) := ⟨_, rfl⟩
  rw [← hQQ]
  have hret : ∀ (r : Int32) (I1 : mI) (R1 : mR), some (r, I1, R1) = some (o1, o2, o3) → ∀ (H1 : Heap) (locs1 : List Loc) (ls1 : Array Slot) (pc1 : Nat), decode cX10_reads pc1 = .ok (.ireturn, 1) → va_P D vwCl (wd ce b kdC lnC 272 I1 L R1) H1 → WT kdC R1 → va_S (box b 272) s.heap H1 locs1 → W p l e rmX10_reads s m av below meth c H1 locs1 0 0 QQ (F0 m pc1 ls1 [.int r]) := by
    intro r I1 R1 hq H1 locs1 ls1 pc1 hd hP hT hS
    cases hq
    rw [hQQ]
    exact mm_iret hx hb hr hlocks hP hT hS hd
  unfold f_X10_reads at hf
  obtain ⟨H, hH⟩ : ∃ z, z = s.heap := ⟨_, rfl⟩
  obtain ⟨locs, hlo⟩ : ∃ z : List Loc, z = [] := ⟨_, rfl⟩
  have hP : va_P D vwCl (wd ce b kdC lnC 272 I L R) H := by rw [hH]; exact hP
  have hS : va_S (box b 272) s.heap H locs := by rw [hH, hlo]; exact hS
  rw [show W p l e rmX10_reads s m av below meth c s.heap [] 0 0 QQ = W p l e rmX10_reads s m av below meth c H locs 0 0 QQ by rw [hH, hlo]]
  clear hH hlo
  clear hQQ
  show W p l e rmX10_reads s m av below meth c H locs 0 0 QQ (F0 m 0 ls [])
  refine lv_aload_n hx hb dX10_reads_0 rfl (lv_at hl 0 rfl) ?_
  have t1 : kdC (R x0 2) = 8 := wt hT h0 rfl
  refine mm_getr hx hb hts hown hKK hP fk10_2 (Nat.le_of_ble_eq_true rfl) lkX10_26 (kdC_lt h0 (Nat.succ_ne_zero _)) h0 (nC t1 (Nat.succ_ne_zero _)) dX10_reads_1 ?_
  refine lv_aload_n hx hb dX10_reads_4 rfl (lv_at hl 0 rfl) ?_
  have t2 : kdC (R x0 0) = 13 := wt hT h0 rfl
  refine mm_getr hx hb hts hown hKK hP fk10_0 (Nat.le_of_ble_eq_true rfl) lkX10_10 (kdC_lt h0 (Nat.succ_ne_zero _)) h0 (nC t2 (Nat.succ_ne_zero _)) dX10_reads_5 ?_
  obtain ⟨r3, I3, e3, hf⟩ := bd2_o hf
  refine mm_Vi (rest := []) hx hb hml hown hts hKK hP hS hA (kdC_lt t1 (Nat.succ_ne_zero _)) t1 (show vwCl[2]? = some (yX2_readRules.cls, TX2, 5) from rfl) vkX10_94 (k_X2_readRules l D ce b I L R hT (R x0 2) (R x0 0) t1 t2 r3 I3 e3) rfl hl.1 rfl (Nat.le_of_ble_eq_true rfl) ⟨rfl, rfl⟩ ⟨Nat.le_of_ble_eq_true rfl, Nat.le_of_ble_eq_true rfl⟩ ⟨Nat.zero_le _, Nat.zero_le _⟩ dX10_reads_8 (fun H locs hP hT hS => ?_)
  refine lv_istore_n (lv' := [(1, .int r3), (0, .ref (b + x0))]) hx hb dX10_reads_11 rfl hl (Nat.le_of_ble_eq_true rfl) rfl (fun ls hl => ?_)
  refine lv_iload_n hx hb dX10_reads_12 rfl (lv_at hl 0 rfl) ?_
  refine lv_iconst (v := (-1 : Int32)) hx hb dX10_reads_13 (by decide) ?_
  refine lv_icmp_ne (tgt := 28) hx hb dX10_reads_14 (by decide) (fun c4 => ?_) (fun c4 => ?_)
  · have hf := ifF hf c4
    refine lv_aload_n hx hb dX10_reads_28 rfl (lv_at hl 1 rfl) ?_
    have t5 : kdC (R x0 1) = 7 := wt hT h0 rfl
    refine mm_getr hx hb hts hown hKK hP fk10_1 (Nat.le_of_ble_eq_true rfl) lkX10_19 (kdC_lt h0 (Nat.succ_ne_zero _)) h0 (nC t5 (Nat.succ_ne_zero _)) dX10_reads_29 ?_
    refine lv_aload_n hx hb dX10_reads_32 rfl (lv_at hl 1 rfl) ?_
    refine mm_getr hx hb hts hown hKK hP fk10_0 (Nat.le_of_ble_eq_true rfl) lkX10_10 (kdC_lt h0 (Nat.succ_ne_zero _)) h0 (nC t2 (Nat.succ_ne_zero _)) dX10_reads_33 ?_
    obtain ⟨I6, R6, e6, hf⟩ := bd2_o hf
    refine mm_Vv (rest := []) hx hb hml hown hts hKK hP hS hA (kdC_lt t5 (Nat.succ_ne_zero _)) t5 (show vwCl[1]? = some (yX1_keep.cls, TX1, 2) from rfl) vkX10_101 (k_X1_keep l D ce b I3 L R hT (R x0 1) (R x0 0) t5 t2 I6 R6 e6) rfl hl.1 rfl (Nat.le_of_ble_eq_true rfl) ⟨rfl, rfl⟩ ⟨Nat.le_of_ble_eq_true rfl, Nat.le_of_ble_eq_true rfl⟩ ⟨Nat.zero_le _, Nat.zero_le _⟩ dX10_reads_36 (fun H locs hP hT hS => ?_)
    refine lv_aload_n hx hb dX10_reads_39 rfl (lv_at hl 1 rfl) ?_
    have t7 : kdC (R6 x0 0) = 13 := wt hT h0 rfl
    refine mm_getr hx hb hts hown hKK hP fk10_0 (Nat.le_of_ble_eq_true rfl) lkX10_10 (kdC_lt h0 (Nat.succ_ne_zero _)) h0 (nC t7 (Nat.succ_ne_zero _)) dX10_reads_40 ?_
    refine lv_iload_n hx hb dX10_reads_43 rfl (lv_at hl 0 rfl) ?_
    refine jnE hf (fun I8 eI8 hf => ?_)
    refine mm_puti hx hb hts hown hKK hP hA hS fk7_2 (Or.inl rfl) fw7_2 lkX10_105 (kdC_lt t7 (Nat.succ_ne_zero _)) t7 rfl rfl dX10_reads_44 (fun H locs hP hS => ?_)
    rw [← eI8] at hP
    refine lv_aload_n hx hb dX10_reads_47 rfl (lv_at hl 1 rfl) ?_
    obtain ⟨I9, e9, hf⟩ := bd1_o hf
    refine mm_Vv (rest := []) hx hb hml hown hts hKK hP hS hA (kdC_lt h0 (Nat.succ_ne_zero _)) h0 (show vwCl[10]? = some (yX10_forgetFindings.cls, TX10, 15) from rfl) vkX10_108 (k_X10_forgetFindings l D ce b I8 L R6 hT x0 h0 I9 e9) rfl hl.1 rfl (Nat.le_of_ble_eq_true rfl) ⟨rfl, rfl⟩ ⟨Nat.le_of_ble_eq_true rfl, Nat.le_of_ble_eq_true rfl⟩ ⟨Nat.zero_le _, Nat.zero_le _⟩ dX10_reads_48 (fun H locs hP hT hS => ?_)
    refine lv_iload_n hx hb dX10_reads_51 rfl (lv_at hl 0 rfl) ?_
    exact hret r3 I9 R6 hf H locs ls _ dX10_reads_52 hP hT hS
  · have hf := ifT hf c4
    refine lv_bipush (v := (-10 : Int32)) hx hb dX10_reads_17 (by decide) ?_
    refine lv_aload_n hx hb dX10_reads_19 rfl (lv_at hl 1 rfl) ?_
    refine mm_getr hx hb hts hown hKK hP fk10_2 (Nat.le_of_ble_eq_true rfl) lkX10_26 (kdC_lt h0 (Nat.succ_ne_zero _)) h0 (nC t1 (Nat.succ_ne_zero _)) dX10_reads_20 ?_
    refine mm_geti hx hb hts hown hKK hP fk2_3 (Or.inl rfl) lkX10_98 (kdC_lt t1 (Nat.succ_ne_zero _)) t1 dX10_reads_23 ?_
    refine lv_isub hx hb dX10_reads_26 ?_
    exact hret ((-10 : Int32) - (I3 (R x0 2) 3)) I3 R hf H locs ls _ dX10_reads_27 hP hT hS
def rmX2_readWhole : Room := { frames := 4, cells := 0, slots := 0, locals := 88 }
set_option maxHeartbeats 4000000 in
set_option maxRecDepth 100000 in
theorem k_X2_readWhole (l : Launch) (D : va_G) (ce : Nat → ClassId) (b : Nat) (I : mI) (L : mL) (R : mR) (hT : WT kdC R) (x0 : Nat) (x1 : Nat) (h0 : kdC x0 = 8) (h1 : kdC x1 = 14) (o1 : Int32) (o2 : mI) (hf : f_X2_readWhole x0 x1 I R = some (o1, o2)) : Met l yX2_readWhole (Cond.code yX2_readWhole cX2_readWhole 2 (some .boolean) :: GW) rmX2_readWhole (va_Pc [.ref (b + x0), .ref (b + x1)] (PW D ce b kdC lnC 272 I L R)) (va_Qi (fun r u => r = o1 ∧ u = (o2, L, R)) (QW D ce b kdC lnC 272) (box b 272)) 0 0 (box b 272) := by
  refine Met.ofW (cc := cX2_readWhole) (maxL := 2) (ret := (some .boolean)) (by decide) rfl ?_
  intro p e s m args below meth c s₁ B hml hv
  obtain ⟨rfl, hP, hKK⟩ := hv
  have hx := B.exec
  have hb := B.bytes
  have hr := B.returns
  have hts0 := atoms_spec (ws := Cond.code yX2_readWhole cX2_readWhole 2 (some .boolean) :: GW) B.pre
  have hts : ∀ w ∈ GW, w.before _ s = true := fun w h => hts0 w (List.mem_cons_of_mem _ h)
  clear hts0
  have hown : s.vm.findClass RX2 = some m.cls := findClass_of_methodNamed B.named
  have hlocks := B.notSynchronized
  have hA : ∀ q, box b 272 q → box b 272 q := fun _ h => h
  have hS : va_S (box b 272) s.heap s.heap [] := va_S.rf
  have hl := lv_entry ([.ref (b + x0), .ref (b + x1)]) (n := 2) (Nat.le_of_ble_eq_true rfl)
  rw [lg_entry_eq]
  generalize (lg_sl ([.ref (b + x0), .ref (b + x1)]) ++ List.replicate (2 - (lg_sl ([.ref (b + x0), .ref (b + x1)])).length) Slot.unset).toArray = ls at hl ⊢
  have hl : lv_has ls 2 [(0, .ref (b + x0)), (1, .ref (b + x1))] := hl
  generalize ([.ref (b + x0), .ref (b + x1)] : List Value).toArray = av at hts ⊢
  show W p l e rmX2_readWhole s m av below meth c s.heap [] 0 0 _ _
  obtain ⟨QQ, hQQ⟩ : ∃ z, z = MQ below (va_Qi (fun r u => r = o1 ∧ u = (o2, L, R)) (QW D ce b kdC lnC 272) (box b 272)) av s 0 0 (box b 272) := ⟨_, rfl⟩
  rw [← hQQ]
  have hret : ∀ (r : Int32) (I1 : mI), some (r, I1) = some (o1, o2) → ∀ (H1 : Heap) (locs1 : List Loc) (ls1 : Array Slot) (pc1 : Nat), decode cX2_readWhole pc1 = .ok (.ireturn, 1) → zb r = true → va_P D vwCl (wd ce b kdC lnC 272 I1 L R) H1 → WT kdC R → va_S (box b 272) s.heap H1 locs1 → W p l e rmX2_readWhole s m av below meth c H1 locs1 0 0 QQ (F0 m pc1 ls1 [.int r]) := by
    intro r I1 hq H1 locs1 ls1 pc1 hd hz hP hT hS
    cases hq
    rw [hQQ]
    exact mm_zret hx hb hr hlocks hz hP hT hS hd
  unfold f_X2_readWhole at hf
  obtain ⟨H, hH⟩ : ∃ z, z = s.heap := ⟨_, rfl⟩
  obtain ⟨locs, hlo⟩ : ∃ z : List Loc, z = [] := ⟨_, rfl⟩
  have hP : va_P D vwCl (wd ce b kdC lnC 272 I L R) H := by rw [hH]; exact hP
  have hS : va_S (box b 272) s.heap H locs := by rw [hH, hlo]; exact hS
  rw [show W p l e rmX2_readWhole s m av below meth c s.heap [] 0 0 QQ = W p l e rmX2_readWhole s m av below meth c H locs 0 0 QQ by rw [hH, hlo]]
  clear hH hlo
  clear hQQ
  show W p l e rmX2_readWhole s m av below meth c H locs 0 0 QQ (F0 m 0 ls [])
  refine lv_aload_n hx hb dX2_readWhole_0 rfl (lv_at hl 0 rfl) ?_
  refine lv_iconst (v := (0 : Int32)) hx hb dX2_readWhole_1 (by decide) ?_
  refine jnE hf (fun I1 eI1 hf => ?_)
  refine mm_puti hx hb hts hown hKK hP hA hS fk2_3 (Or.inl rfl) fw2_3 lkX2_22 (kdC_lt h0 (Nat.succ_ne_zero _)) h0 rfl rfl dX2_readWhole_2 (fun H locs hP hS => ?_)
  rw [← eI1] at hP
  refine lv_aload_n hx hb dX2_readWhole_5 rfl (lv_at hl 0 rfl) ?_
  refine lv_aload_n hx hb dX2_readWhole_6 rfl (lv_at hl 1 rfl) ?_
  refine lv_bipush (v := (60 : Int32)) hx hb dX2_readWhole_7 (by decide) ?_
  refine lv_iconst (v := (3 : Int32)) hx hb dX2_readWhole_9 (by decide) ?_
  refine lv_iconst (v := (3 : Int32)) hx hb dX2_readWhole_10 (by decide) ?_
  obtain ⟨r2, I2, e2, hf⟩ := bd2_o hf
  refine mm_Vi (rest := []) hx hb hml hown hts hKK hP hS hA (kdC_lt h0 (Nat.succ_ne_zero _)) h0 (show vwCl[2]? = some (yX2_readTerm.cls, TX2, 5) from rfl) vkX2_41 (k_X2_readTerm l D ce b I1 L R hT x0 x1 (60 : Int32) (3 : Int32) (3 : Int32) h0 h1 r2 I2 e2) rfl hl.1 rfl (Nat.le_of_ble_eq_true rfl) ⟨rfl, rfl⟩ ⟨Nat.le_of_ble_eq_true rfl, Nat.le_of_ble_eq_true rfl⟩ ⟨Nat.zero_le _, Nat.zero_le _⟩ dX2_readWhole_11 (fun H locs hP hT hS => ?_)
  refine lv_if_ne (tgt := 19) hx hb dX2_readWhole_14 (by decide) (fun c3 => ?_) (fun c3 => ?_)
  · have hf := ifF hf c3
    refine lv_aload_n hx hb dX2_readWhole_19 rfl (lv_at hl 0 rfl) ?_
    obtain ⟨I4, e4, hf⟩ := bd1_o hf
    refine mm_Vv (rest := []) hx hb hml hown hts hKK hP hS hA (kdC_lt h0 (Nat.succ_ne_zero _)) h0 (show vwCl[2]? = some (yX2_skipBlanks.cls, TX2, 5) from rfl) vkX2_38 (k_X2_skipBlanks l D ce b I2 L R hT x0 h0 I4 e4) rfl hl.1 rfl (Nat.le_of_ble_eq_true rfl) ⟨rfl, rfl⟩ ⟨Nat.le_of_ble_eq_true rfl, Nat.le_of_ble_eq_true rfl⟩ ⟨Nat.zero_le _, Nat.zero_le _⟩ dX2_readWhole_20 (fun H locs hP hT hS => ?_)
    refine lv_aload_n hx hb dX2_readWhole_23 rfl (lv_at hl 0 rfl) ?_
    refine mm_geti hx hb hts hown hKK hP fk2_3 (Or.inl rfl) lkX2_22 (kdC_lt h0 (Nat.succ_ne_zero _)) h0 dX2_readWhole_24 ?_
    refine lv_aload_n hx hb dX2_readWhole_27 rfl (lv_at hl 0 rfl) ?_
    refine mm_geti hx hb hts hown hKK hP fk2_2 (Or.inl rfl) lkX2_18 (kdC_lt h0 (Nat.succ_ne_zero _)) h0 dX2_readWhole_28 ?_
    refine lv_icmp_ne (tgt := 38) hx hb dX2_readWhole_31 (by decide) (fun c5 => ?_) (fun c5 => ?_)
    · have hf := ifF hf c5
      refine lv_iconst (v := (0 : Int32)) hx hb dX2_readWhole_38 (by decide) ?_
      exact hret (0 : Int32) I4 hf H locs ls _ dX2_readWhole_39 rfl hP hT hS
    · have hf := ifT hf c5
      refine lv_iconst (v := (1 : Int32)) hx hb dX2_readWhole_34 (by decide) ?_
      refine lv_goto (tgt := 39) hx hb dX2_readWhole_35 (by decide) ?_
      exact hret (1 : Int32) I4 hf H locs ls _ dX2_readWhole_39 rfl hP hT hS
  · have hf := ifT hf c3
    refine lv_iconst (v := (0 : Int32)) hx hb dX2_readWhole_17 (by decide) ?_
    exact hret (0 : Int32) I2 hf H locs ls _ dX2_readWhole_18 rfl hP hT hS
def rmX10_term : Room := { frames := 5, cells := 0, slots := 0, locals := 115 }
set_option maxHeartbeats 4000000 in
set_option maxRecDepth 100000 in
theorem k_X10_term (l : Launch) (D : va_G) (ce : Nat → ClassId) (b : Nat) (I : mI) (L : mL) (R : mR) (hT : WT kdC R) (x0 : Nat) (h0 : kdC x0 = 16) (o1 : Int32) (o2 : mI) (o3 : mR) (hf : f_X10_term x0 I R = some (o1, o2, o3)) : Met l yX10_term (Cond.code yX10_term cX10_term 1 (some .int) :: GW) rmX10_term (va_Pc [.ref (b + x0)] (PW D ce b kdC lnC 272 I L R)) (va_Qi (fun r u => r = o1 ∧ u = (o2, L, o3)) (QW D ce b kdC lnC 272) (box b 272)) 0 0 (box b 272) := by
  refine Met.ofW (cc := cX10_term) (maxL := 1) (ret := (some .int)) (by decide) rfl ?_
  intro p e s m args below meth c s₁ B hml hv
  obtain ⟨rfl, hP, hKK⟩ := hv
  have hx := B.exec
  have hb := B.bytes
  have hr := B.returns
  have hts0 := atoms_spec (ws := Cond.code yX10_term cX10_term 1 (some .int) :: GW) B.pre
  have hts : ∀ w ∈ GW, w.before _ s = true := fun w h => hts0 w (List.mem_cons_of_mem _ h)
  clear hts0
  have hown : s.vm.findClass RX10 = some m.cls := findClass_of_methodNamed B.named
  have hlocks := B.notSynchronized
  have hA : ∀ q, box b 272 q → box b 272 q := fun _ h => h
  have hS : va_S (box b 272) s.heap s.heap [] := va_S.rf
  have hl := lv_entry ([.ref (b + x0)]) (n := 1) (Nat.le_of_ble_eq_true rfl)
  rw [lg_entry_eq]
  generalize (lg_sl ([.ref (b + x0)]) ++ List.replicate (1 - (lg_sl ([.ref (b + x0)])).length) Slot.unset).toArray = ls at hl ⊢
  have hl : lv_has ls 1 [(0, .ref (b + x0))] := hl
  generalize ([.ref (b + x0)] : List Value).toArray = av at hts ⊢
  show W p l e rmX10_term s m av below meth c s.heap [] 0 0 _ _
  obtain ⟨QQ, hQQ⟩ : ∃ z, z = MQ below (va_Qi (fun r u => r = o1 ∧ u = (o2, L, o3)) (QW D ce b kdC lnC 272) (box b 272)) av s 0 0 (box b 272) := ⟨_, rfl⟩
  rw [← hQQ]
  have hret : ∀ (r : Int32) (I1 : mI) (R1 : mR), some (r, I1, R1) = some (o1, o2, o3) → ∀ (H1 : Heap) (locs1 : List Loc) (ls1 : Array Slot) (pc1 : Nat), decode cX10_term pc1 = .ok (.ireturn, 1) → va_P D vwCl (wd ce b kdC lnC 272 I1 L R1) H1 → WT kdC R1 → va_S (box b 272) s.heap H1 locs1 → W p l e rmX10_term s m av below meth c H1 locs1 0 0 QQ (F0 m pc1 ls1 [.int r]) := by
    intro r I1 R1 hq H1 locs1 ls1 pc1 hd hP hT hS
    cases hq
    rw [hQQ]
    exact mm_iret hx hb hr hlocks hP hT hS hd
  unfold f_X10_term at hf
  obtain ⟨H, hH⟩ : ∃ z, z = s.heap := ⟨_, rfl⟩
  obtain ⟨locs, hlo⟩ : ∃ z : List Loc, z = [] := ⟨_, rfl⟩
  have hP : va_P D vwCl (wd ce b kdC lnC 272 I L R) H := by rw [hH]; exact hP
  have hS : va_S (box b 272) s.heap H locs := by rw [hH, hlo]; exact hS
  rw [show W p l e rmX10_term s m av below meth c s.heap [] 0 0 QQ = W p l e rmX10_term s m av below meth c H locs 0 0 QQ by rw [hH, hlo]]
  clear hH hlo
  clear hQQ
  show W p l e rmX10_term s m av below meth c H locs 0 0 QQ (F0 m 0 ls [])
  refine lv_aload_n hx hb dX10_term_0 rfl (lv_at hl 0 rfl) ?_
  have t1 : kdC (R x0 2) = 8 := wt hT h0 rfl
  refine mm_getr hx hb hts hown hKK hP fk10_2 (Nat.le_of_ble_eq_true rfl) lkX10_26 (kdC_lt h0 (Nat.succ_ne_zero _)) h0 (nC t1 (Nat.succ_ne_zero _)) dX10_term_1 ?_
  refine lv_aload_n hx hb dX10_term_4 rfl (lv_at hl 0 rfl) ?_
  have t2 : kdC (R x0 7) = 14 := wt hT h0 rfl
  refine mm_getr hx hb hts hown hKK hP fk10_7 (Nat.le_of_ble_eq_true rfl) lkX10_63 (kdC_lt h0 (Nat.succ_ne_zero _)) h0 (nC t2 (Nat.succ_ne_zero _)) dX10_term_5 ?_
  obtain ⟨r3, I3, e3, hf⟩ := bd2_o hf
  refine mm_Vi (rest := []) hx hb hml hown hts hKK hP hS hA (kdC_lt t1 (Nat.succ_ne_zero _)) t1 (show vwCl[2]? = some (yX2_readWhole.cls, TX2, 5) from rfl) vkX10_111 (k_X2_readWhole l D ce b I L R hT (R x0 2) (R x0 7) t1 t2 r3 I3 e3) rfl hl.1 rfl (Nat.le_of_ble_eq_true rfl) ⟨rfl, rfl⟩ ⟨Nat.le_of_ble_eq_true rfl, Nat.le_of_ble_eq_true rfl⟩ ⟨Nat.zero_le _, Nat.zero_le _⟩ dX10_term_8 (fun H locs hP hT hS => ?_)
  refine lv_if_ne (tgt := 25) hx hb dX10_term_11 (by decide) (fun c4 => ?_) (fun c4 => ?_)
  · have hf := ifF hf c4
    refine lv_aload_n hx hb dX10_term_25 rfl (lv_at hl 0 rfl) ?_
    have t5 : kdC (R x0 1) = 7 := wt hT h0 rfl
    refine mm_getr hx hb hts hown hKK hP fk10_1 (Nat.le_of_ble_eq_true rfl) lkX10_19 (kdC_lt h0 (Nat.succ_ne_zero _)) h0 (nC t5 (Nat.succ_ne_zero _)) dX10_term_26 ?_
    refine lv_aload_n hx hb dX10_term_29 rfl (lv_at hl 0 rfl) ?_
    have t6 : kdC (R x0 0) = 13 := wt hT h0 rfl
    refine mm_getr hx hb hts hown hKK hP fk10_0 (Nat.le_of_ble_eq_true rfl) lkX10_10 (kdC_lt h0 (Nat.succ_ne_zero _)) h0 (nC t6 (Nat.succ_ne_zero _)) dX10_term_30 ?_
    obtain ⟨I7, R7, e7, hf⟩ := bd2_o hf
    refine mm_Vv (rest := []) hx hb hml hown hts hKK hP hS hA (kdC_lt t5 (Nat.succ_ne_zero _)) t5 (show vwCl[1]? = some (yX1_keep.cls, TX1, 2) from rfl) vkX10_101 (k_X1_keep l D ce b I3 L R hT (R x0 1) (R x0 0) t5 t6 I7 R7 e7) rfl hl.1 rfl (Nat.le_of_ble_eq_true rfl) ⟨rfl, rfl⟩ ⟨Nat.le_of_ble_eq_true rfl, Nat.le_of_ble_eq_true rfl⟩ ⟨Nat.zero_le _, Nat.zero_le _⟩ dX10_term_33 (fun H locs hP hT hS => ?_)
    refine lv_aload_n hx hb dX10_term_36 rfl (lv_at hl 0 rfl) ?_
    have t8 : kdC (R7 x0 0) = 13 := wt hT h0 rfl
    refine mm_getr hx hb hts hown hKK hP fk10_0 (Nat.le_of_ble_eq_true rfl) lkX10_10 (kdC_lt h0 (Nat.succ_ne_zero _)) h0 (nC t8 (Nat.succ_ne_zero _)) dX10_term_37 ?_
    have t9 : kdC (R7 (R7 x0 0) 1) = 14 := wt hT t8 rfl
    refine mm_getr hx hb hts hown hKK hP fk7_1 (Nat.le_of_ble_eq_true rfl) lkX10_75 (kdC_lt t8 (Nat.succ_ne_zero _)) t8 (nC t9 (Nat.succ_ne_zero _)) dX10_term_40 ?_
    refine lv_aload_n hx hb dX10_term_43 rfl (lv_at hl 0 rfl) ?_
    have t10 : kdC (R7 x0 7) = 14 := wt hT h0 rfl
    refine mm_getr hx hb hts hown hKK hP fk10_7 (Nat.le_of_ble_eq_true rfl) lkX10_63 (kdC_lt h0 (Nat.succ_ne_zero _)) h0 (nC t10 (Nat.succ_ne_zero _)) dX10_term_44 ?_
    obtain ⟨I11, e11, hf⟩ := bd1_o hf
    refine mm_Vv (rest := []) hx hb hml hown hts hKK hP hS hA (kdC_lt t9 (Nat.succ_ne_zero _)) t9 (show vwCl[8]? = some (yX8_copyFrom.cls, TX8, 3) from rfl) vkX10_115 (k_X8_copyFrom l D ce b I7 L R7 hT (R7 (R7 x0 0) 1) (R7 x0 7) t9 t10 I11 e11) rfl hl.1 rfl (Nat.le_of_ble_eq_true rfl) ⟨rfl, rfl⟩ ⟨Nat.le_of_ble_eq_true rfl, Nat.le_of_ble_eq_true rfl⟩ ⟨Nat.zero_le _, Nat.zero_le _⟩ dX10_term_47 (fun H locs hP hT hS => ?_)
    refine lv_aload_n hx hb dX10_term_50 rfl (lv_at hl 0 rfl) ?_
    refine mm_getr hx hb hts hown hKK hP fk10_0 (Nat.le_of_ble_eq_true rfl) lkX10_10 (kdC_lt h0 (Nat.succ_ne_zero _)) h0 (nC t8 (Nat.succ_ne_zero _)) dX10_term_51 ?_
    refine mm_getr hx hb hts hown hKK hP fk7_1 (Nat.le_of_ble_eq_true rfl) lkX10_75 (kdC_lt t8 (Nat.succ_ne_zero _)) t8 (nC t9 (Nat.succ_ne_zero _)) dX10_term_54 ?_
    refine mm_geti hx hb hts hown hKK hP fk8_2 (Or.inl rfl) lkX10_119 (kdC_lt t9 (Nat.succ_ne_zero _)) t9 dX10_term_57 ?_
    exact hret (I11 (R7 (R7 x0 0) 1) 2) I11 R7 hf H locs ls _ dX10_term_60 hP hT hS
  · have hf := ifT hf c4
    refine lv_bipush (v := (-10 : Int32)) hx hb dX10_term_14 (by decide) ?_
    refine lv_aload_n hx hb dX10_term_16 rfl (lv_at hl 0 rfl) ?_
    refine mm_getr hx hb hts hown hKK hP fk10_2 (Nat.le_of_ble_eq_true rfl) lkX10_26 (kdC_lt h0 (Nat.succ_ne_zero _)) h0 (nC t1 (Nat.succ_ne_zero _)) dX10_term_17 ?_
    refine mm_geti hx hb hts hown hKK hP fk2_3 (Or.inl rfl) lkX10_98 (kdC_lt t1 (Nat.succ_ne_zero _)) t1 dX10_term_20 ?_
    refine lv_isub hx hb dX10_term_23 ?_
    exact hret ((-10 : Int32) - (I3 (R x0 2) 3)) I3 R hf H locs ls _ dX10_term_24 hP hT hS
def rmX10_isRule : Room := { frames := 0, cells := 0, slots := 0, locals := 0 }
set_option maxHeartbeats 4000000 in
set_option maxRecDepth 100000 in
theorem k_X10_isRule (l : Launch) (D : va_G) (ce : Nat → ClassId) (b : Nat) (I : mI) (L : mL) (R : mR) (hT : WT kdC R) (x0 : Nat) (x1 : Int32) (h0 : kdC x0 = 16) (o1 : Int32) (hf : f_X10_isRule x0 x1 I R = some o1) : Met l yX10_isRule (Cond.code yX10_isRule cX10_isRule 2 (some .boolean) :: GW) rmX10_isRule (va_Pc [.ref (b + x0), .int x1] (PW D ce b kdC lnC 272 I L R)) (va_Qi (fun r u => r = o1 ∧ u = (I, L, R)) (QW D ce b kdC lnC 272) (box b 272)) 0 0 (box b 272) := by
  refine Met.ofW (cc := cX10_isRule) (maxL := 2) (ret := (some .boolean)) (by decide) rfl ?_
  intro p e s m args below meth c s₁ B hml hv
  obtain ⟨rfl, hP, hKK⟩ := hv
  have hx := B.exec
  have hb := B.bytes
  have hr := B.returns
  have hts0 := atoms_spec (ws := Cond.code yX10_isRule cX10_isRule 2 (some .boolean) :: GW) B.pre
  have hts : ∀ w ∈ GW, w.before _ s = true := fun w h => hts0 w (List.mem_cons_of_mem _ h)
  clear hts0
  have hown : s.vm.findClass RX10 = some m.cls := findClass_of_methodNamed B.named
  have hlocks := B.notSynchronized
  have hA : ∀ q, box b 272 q → box b 272 q := fun _ h => h
  have hS : va_S (box b 272) s.heap s.heap [] := va_S.rf
  have hl := lv_entry ([.ref (b + x0), .int x1]) (n := 2) (Nat.le_of_ble_eq_true rfl)
  rw [lg_entry_eq]
  generalize (lg_sl ([.ref (b + x0), .int x1]) ++ List.replicate (2 - (lg_sl ([.ref (b + x0), .int x1])).length) Slot.unset).toArray = ls at hl ⊢
  have hl : lv_has ls 2 [(0, .ref (b + x0)), (1, .int x1)] := hl
  generalize ([.ref (b + x0), .int x1] : List Value).toArray = av at hts ⊢
  show W p l e rmX10_isRule s m av below meth c s.heap [] 0 0 _ _
  obtain ⟨QQ, hQQ⟩ : ∃ z, z = MQ below (va_Qi (fun r u => r = o1 ∧ u = (I, L, R)) (QW D ce b kdC lnC 272) (box b 272)) av s 0 0 (box b 272) := ⟨_, rfl⟩
  rw [← hQQ]
  have hret : ∀ (r : Int32), some r = some o1 → ∀ (H1 : Heap) (locs1 : List Loc) (ls1 : Array Slot) (pc1 : Nat), decode cX10_isRule pc1 = .ok (.ireturn, 1) → zb r = true → va_P D vwCl (wd ce b kdC lnC 272 I L R) H1 → WT kdC R → va_S (box b 272) s.heap H1 locs1 → W p l e rmX10_isRule s m av below meth c H1 locs1 0 0 QQ (F0 m pc1 ls1 [.int r]) := by
    intro r hq H1 locs1 ls1 pc1 hd hz hP hT hS
    cases hq
    rw [hQQ]
    exact mm_zret hx hb hr hlocks hz hP hT hS hd
  unfold f_X10_isRule at hf
  obtain ⟨H, hH⟩ : ∃ z, z = s.heap := ⟨_, rfl⟩
  obtain ⟨locs, hlo⟩ : ∃ z : List Loc, z = [] := ⟨_, rfl⟩
  have hP : va_P D vwCl (wd ce b kdC lnC 272 I L R) H := by rw [hH]; exact hP
  have hS : va_S (box b 272) s.heap H locs := by rw [hH, hlo]; exact hS
  rw [show W p l e rmX10_isRule s m av below meth c s.heap [] 0 0 QQ = W p l e rmX10_isRule s m av below meth c H locs 0 0 QQ by rw [hH, hlo]]
  clear hH hlo
  clear hQQ
  show W p l e rmX10_isRule s m av below meth c H locs 0 0 QQ (F0 m 0 ls [])
  refine lv_iload_n hx hb dX10_isRule_0 rfl (lv_at hl 1 rfl) ?_
  refine jnE hf (fun j19_1 ej_1 hf => ?_)
  have hJ19_1 : ∀ (H : Heap) (locs : List Loc) (ls : Array Slot), va_P D vwCl (wd ce b kdC lnC 272 I L R) H → va_S (box b 272) s.heap H locs → lv_has ls 2 [] → j19_1  = some o1 → W p l e rmX10_isRule s m av below meth c H locs 0 0 QQ (F0 m 19 ls []) := by
    intro  H locs ls hP hS  hl hf
    rw [ej_1] at hf
    try dsimp only at hf
    refine lv_iconst (v := (0 : Int32)) hx hb dX10_isRule_19 (by decide) ?_
    exact hret (0 : Int32) hf H locs ls _ dX10_isRule_20 rfl hP hT hS
  clear ej_1
  refine lv_if_lt (tgt := 19) hx hb dX10_isRule_1 (by decide) (fun c2 => ?_) (fun c2 => ?_)
  · have hf := ifT hf c2
    exact hJ19_1  H locs ls hP hS  (lv_sub hl [] rfl) hf
  · have hf := ifF hf c2
    refine lv_iload_n hx hb dX10_isRule_4 rfl (lv_at hl 1 rfl) ?_
    refine lv_aload_n hx hb dX10_isRule_5 rfl (lv_at hl 0 rfl) ?_
    have t3 : kdC (R x0 0) = 13 := wt hT h0 rfl
    refine mm_getr hx hb hts hown hKK hP fk10_0 (Nat.le_of_ble_eq_true rfl) lkX10_10 (kdC_lt h0 (Nat.succ_ne_zero _)) h0 (nC t3 (Nat.succ_ne_zero _)) dX10_isRule_6 ?_
    refine mm_geti hx hb hts hown hKK hP fk7_2 (Or.inl rfl) lkX10_105 (kdC_lt t3 (Nat.succ_ne_zero _)) t3 dX10_isRule_9 ?_
    refine lv_icmp_ge (tgt := 19) hx hb dX10_isRule_12 (by decide) (fun c4 => ?_) (fun c4 => ?_)
    · have hf := ifT hf c4
      exact hJ19_1  H locs ls hP hS  (lv_sub hl [] rfl) hf
    · have hf := ifF hf c4
      refine lv_iconst (v := (1 : Int32)) hx hb dX10_isRule_15 (by decide) ?_
      refine lv_goto (tgt := 20) hx hb dX10_isRule_16 (by decide) ?_
      exact hret (1 : Int32) hf H locs ls _ dX10_isRule_20 rfl hP hT hS
def rmX7_removeRule : Room := { frames := 0, cells := 0, slots := 0, locals := 0 }
set_option maxHeartbeats 4000000 in
set_option maxRecDepth 100000 in
theorem k_X7_removeRule (l : Launch) (D : va_G) (ce : Nat → ClassId) (b : Nat) (I : mI) (L : mL) (R : mR) (hT : WT kdC R) (x0 : Nat) (x1 : Int32) (h0 : kdC x0 = 13) (o1 : mI) (o2 : mR) (hf : f_X7_removeRule x0 x1 I R = some (o1, o2)) : Met l yX7_removeRule (Cond.code yX7_removeRule cX7_removeRule 4 none :: GW) rmX7_removeRule (va_Pc [.ref (b + x0), .int x1] (PW D ce b kdC lnC 272 I L R)) (va_Qv (fun u => u = (o1, L, o2)) (QW D ce b kdC lnC 272) (box b 272)) 0 0 (box b 272) := by
  refine Met.ofW (cc := cX7_removeRule) (maxL := 4) (ret := none) (by decide) rfl ?_
  intro p e s m args below meth c s₁ B hml hv
  obtain ⟨rfl, hP, hKK⟩ := hv
  have hx := B.exec
  have hb := B.bytes
  have hr := B.returns
  have hts0 := atoms_spec (ws := Cond.code yX7_removeRule cX7_removeRule 4 none :: GW) B.pre
  have hts : ∀ w ∈ GW, w.before _ s = true := fun w h => hts0 w (List.mem_cons_of_mem _ h)
  clear hts0
  have hown : s.vm.findClass RX7 = some m.cls := findClass_of_methodNamed B.named
  have hlocks := B.notSynchronized
  have hA : ∀ q, box b 272 q → box b 272 q := fun _ h => h
  have hS : va_S (box b 272) s.heap s.heap [] := va_S.rf
  have hl := lv_entry ([.ref (b + x0), .int x1]) (n := 4) (Nat.le_of_ble_eq_true rfl)
  rw [lg_entry_eq]
  generalize (lg_sl ([.ref (b + x0), .int x1]) ++ List.replicate (4 - (lg_sl ([.ref (b + x0), .int x1])).length) Slot.unset).toArray = ls at hl ⊢
  have hl : lv_has ls 4 [(0, .ref (b + x0)), (1, .int x1)] := hl
  generalize ([.ref (b + x0), .int x1] : List Value).toArray = av at hts ⊢
  show W p l e rmX7_removeRule s m av below meth c s.heap [] 0 0 _ _
  obtain ⟨QQ, hQQ⟩ : ∃ z, z = MQ below (va_Qv (fun u => u = (o1, L, o2)) (QW D ce b kdC lnC 272) (box b 272)) av s 0 0 (box b 272) := ⟨_, rfl⟩
  rw [← hQQ]
  have hret : ∀ (I1 : mI) (R1 : mR), some (I1, R1) = some (o1, o2) → ∀ (H1 : Heap) (locs1 : List Loc) (ls1 : Array Slot) (pc1 : Nat), decode cX7_removeRule pc1 = .ok (.return_, 1) → va_P D vwCl (wd ce b kdC lnC 272 I1 L R1) H1 → WT kdC R1 → va_S (box b 272) s.heap H1 locs1 → W p l e rmX7_removeRule s m av below meth c H1 locs1 0 0 QQ (F0 m pc1 ls1 []) := by
    intro I1 R1 hq H1 locs1 ls1 pc1 hd hP hT hS
    cases hq
    rw [hQQ]
    exact mm_vret hx hb hr hlocks hP hT hS hd
  unfold f_X7_removeRule at hf
  obtain ⟨H, hH⟩ : ∃ z, z = s.heap := ⟨_, rfl⟩
  obtain ⟨locs, hlo⟩ : ∃ z : List Loc, z = [] := ⟨_, rfl⟩
  have hP : va_P D vwCl (wd ce b kdC lnC 272 I L R) H := by rw [hH]; exact hP
  have hS : va_S (box b 272) s.heap H locs := by rw [hH, hlo]; exact hS
  rw [show W p l e rmX7_removeRule s m av below meth c s.heap [] 0 0 QQ = W p l e rmX7_removeRule s m av below meth c H locs 0 0 QQ by rw [hH, hlo]]
  clear hH hlo
  clear hQQ
  show W p l e rmX7_removeRule s m av below meth c H locs 0 0 QQ (F0 m 0 ls [])
  refine lv_aload_n hx hb dX7_removeRule_0 rfl (lv_at hl 0 rfl) ?_
  have t1 : kdC (R x0 0) = 4 := wt hT h0 rfl
  refine mm_getr hx hb hts hown hKK hP fk7_0 (Nat.le_of_ble_eq_true rfl) lkX7_11 (kdC_lt h0 (Nat.succ_ne_zero _)) h0 (nC t1 (Nat.succ_ne_zero _)) dX7_removeRule_1 ?_
  refine lv_iload_n hx hb dX7_removeRule_4 rfl (lv_at hl 1 rfl) ?_
  obtain ⟨g2, hf⟩ := grd hf
  have t3 : kdC (R (R x0 0) x1.toNatClampNeg) = 9 := wt hT t1 rfl
  refine mm_aald4 hx hb hKK hP (kdC_lt t1 (Nat.succ_ne_zero _)) t1 g2 (nC t3 (Nat.succ_ne_zero _)) dX7_removeRule_5 ?_
  refine lv_astore_n (lv' := [(2, .ref (b + (R (R x0 0) x1.toNatClampNeg))), (0, .ref (b + x0)), (1, .int x1)]) hx hb dX7_removeRule_6 rfl hl (Nat.le_of_ble_eq_true rfl) rfl (fun ls hl => ?_)
  refine lv_iload_n hx hb dX7_removeRule_7 rfl (lv_at hl 2 rfl) ?_
  refine lv_istore_n (lv' := [(3, .int x1), (2, .ref (b + (R (R x0 0) x1.toNatClampNeg))), (0, .ref (b + x0)), (1, .int x1)]) hx hb dX7_removeRule_8 rfl hl (Nat.le_of_ble_eq_true rfl) rfl (fun ls hl => ?_)
  have lp9 : ∀ (n : Nat) (x0 : Nat) (x2 : Nat) (x3 : Int32) (I : mI) (L : mL) (R : mR) (a1 : mR) (H : Heap) (locs : List Loc) (ls : Array Slot), va_P D vwCl (wd ce b kdC lnC 272 I L R) H → va_S (box b 272) s.heap H locs → WT kdC R → kdC x0 = 13 → kdC x2 = 9 → lv_has ls 4 [(0, .ref (b + x0)), (2, .ref (b + x2)), (3, .int x3)] → f_X7_removeRule_L9 n x0 x2 x3 I R = some a1 → (∀ (H1 : Heap) (locs1 : List Loc) (ls1 : Array Slot), va_P D vwCl (wd ce b kdC lnC 272 I L a1) H1 → va_S (box b 272) s.heap H1 locs1 → WT kdC a1 → lv_has ls1 4 [(0, .ref (b + x0)), (2, .ref (b + x2))] → W p l e rmX7_removeRule s m av below meth c H1 locs1 0 0 QQ (F0 m 39 ls1 [])) → W p l e rmX7_removeRule s m av below meth c H locs 0 0 QQ (F0 m 9 ls []) := by
    intro n
    induction n with
    | zero =>
      intro x0 x2 x3 I L R a1 H locs ls hP hS hT h0 h2 hl hf kx
      exact absurd (show (none : Option (mR)) = some _ from hf) (by simp)
    | succ n ih =>
      intro x0 x2 x3 I L R a1 H locs ls hP hS hT h0 h2 hl hf kx
      rw [f_X7_removeRule_L9] at hf
      refine lv_iload_n hx hb dX7_removeRule_9 rfl (lv_at hl 2 rfl) ?_
      refine lv_iconst (v := (1 : Int32)) hx hb dX7_removeRule_10 (by decide) ?_
      refine lv_iadd hx hb dX7_removeRule_11 ?_
      refine lv_aload_n hx hb dX7_removeRule_12 rfl (lv_at hl 0 rfl) ?_
      refine mm_geti hx hb hts hown hKK hP fk7_2 (Or.inl rfl) lkX7_27 (kdC_lt h0 (Nat.succ_ne_zero _)) h0 dX7_removeRule_13 ?_
      refine lv_icmp_ge (tgt := 39) hx hb dX7_removeRule_16 (by decide) (fun c4 => ?_) (fun c4 => ?_)
      · have hf := ifT hf c4
        cases hf
        exact kx H locs ls hP hS hT (lv_sub hl [0, 1] rfl)
      · have hf := ifF hf c4
        refine lv_aload_n hx hb dX7_removeRule_19 rfl (lv_at hl 0 rfl) ?_
        have t5 : kdC (R x0 0) = 4 := wt hT h0 rfl
        refine mm_getr hx hb hts hown hKK hP fk7_0 (Nat.le_of_ble_eq_true rfl) lkX7_11 (kdC_lt h0 (Nat.succ_ne_zero _)) h0 (nC t5 (Nat.succ_ne_zero _)) dX7_removeRule_20 ?_
        refine lv_iload_n hx hb dX7_removeRule_23 rfl (lv_at hl 2 rfl) ?_
        refine lv_aload_n hx hb dX7_removeRule_24 rfl (lv_at hl 0 rfl) ?_
        refine mm_getr hx hb hts hown hKK hP fk7_0 (Nat.le_of_ble_eq_true rfl) lkX7_11 (kdC_lt h0 (Nat.succ_ne_zero _)) h0 (nC t5 (Nat.succ_ne_zero _)) dX7_removeRule_25 ?_
        refine lv_iload_n hx hb dX7_removeRule_28 rfl (lv_at hl 2 rfl) ?_
        refine lv_iconst (v := (1 : Int32)) hx hb dX7_removeRule_29 (by decide) ?_
        refine lv_iadd hx hb dX7_removeRule_30 ?_
        obtain ⟨g6, hf⟩ := grd hf
        have t7 : kdC (R (R x0 0) ((x3 + (1 : Int32))).toNatClampNeg) = 9 := wt hT t5 rfl
        refine mm_aald4 hx hb hKK hP (kdC_lt t5 (Nat.succ_ne_zero _)) t5 g6 (nC t7 (Nat.succ_ne_zero _)) dX7_removeRule_31 ?_
        obtain ⟨g8, hf⟩ := grd hf
        refine jnE hf (fun R9 eR9 hf => ?_)
        refine mm_aast4 hx hb hKK hP hA hS (kdC_lt t5 (Nat.succ_ne_zero _)) t5 (kdC_lt t7 (Nat.succ_ne_zero _)) t7 (nC t7 (Nat.succ_ne_zero _)) g8 dX7_removeRule_32 (fun H locs hP hS => ?_)
        have hT := WT.up (k := x3.toNatClampNeg) hT (a := (R x0 0)) (t := 9) (fun j => by rw [t5]; rfl) t7
        rw [← eR9] at hP hT
        refine lv_iinc (v := (x3 + (1 : Int32))) (lv' := [(3, .int (x3 + (1 : Int32))), (0, .ref (b + x0)), (2, .ref (b + x2))]) hx hb dX7_removeRule_33 hl (k := 2) rfl rfl (Nat.le_of_ble_eq_true rfl) rfl (fun ls hl => ?_)
        refine lv_goto (tgt := 9) hx hb dX7_removeRule_36 (by decide) ?_
        exact ih x0 x2 (x3 + (1 : Int32)) I L R9 a1 H locs ls hP hS hT h0 h2 (lv_sub hl [1, 2, 0] rfl) hf kx
  obtain ⟨R_10, e_10, hf⟩ := bd1_o hf
  refine lp9 FU x0 (R (R x0 0) x1.toNatClampNeg) x1 I L R R_10 H locs ls hP hS hT h0 t3 (lv_sub hl [2, 1, 0] rfl) e_10 (fun H locs ls hP hS hT hl => ?_)
  refine lv_aload_n hx hb dX7_removeRule_39 rfl (lv_at hl 0 rfl) ?_
  have t11 : kdC (R_10 x0 0) = 4 := wt hT h0 rfl
  refine mm_getr hx hb hts hown hKK hP fk7_0 (Nat.le_of_ble_eq_true rfl) lkX7_11 (kdC_lt h0 (Nat.succ_ne_zero _)) h0 (nC t11 (Nat.succ_ne_zero _)) dX7_removeRule_40 ?_
  refine lv_aload_n hx hb dX7_removeRule_43 rfl (lv_at hl 0 rfl) ?_
  refine mm_geti hx hb hts hown hKK hP fk7_2 (Or.inl rfl) lkX7_27 (kdC_lt h0 (Nat.succ_ne_zero _)) h0 dX7_removeRule_44 ?_
  refine lv_iconst (v := (1 : Int32)) hx hb dX7_removeRule_47 (by decide) ?_
  refine lv_isub hx hb dX7_removeRule_48 ?_
  refine lv_aload_n hx hb dX7_removeRule_49 rfl (lv_at hl 1 rfl) ?_
  obtain ⟨g12, hf⟩ := grd hf
  refine jnE hf (fun R13 eR13 hf => ?_)
  refine mm_aast4 hx hb hKK hP hA hS (kdC_lt t11 (Nat.succ_ne_zero _)) t11 (kdC_lt t3 (Nat.succ_ne_zero _)) t3 (nC t3 (Nat.succ_ne_zero _)) g12 dX7_removeRule_50 (fun H locs hP hS => ?_)
  have hT := WT.up (k := (((I x0 2) - (1 : Int32))).toNatClampNeg) hT (a := (R_10 x0 0)) (t := 9) (fun j => by rw [t11]; rfl) t3
  rw [← eR13] at hP hT
  refine lv_aload_n hx hb dX7_removeRule_51 rfl (lv_at hl 0 rfl) ?_
  refine lv_dup hx hb dX7_removeRule_52 rfl ?_
  refine mm_geti hx hb hts hown hKK hP fk7_2 (Or.inl rfl) lkX7_27 (kdC_lt h0 (Nat.succ_ne_zero _)) h0 dX7_removeRule_53 ?_
  refine lv_iconst (v := (1 : Int32)) hx hb dX7_removeRule_56 (by decide) ?_
  refine lv_isub hx hb dX7_removeRule_57 ?_
  refine jnE hf (fun I14 eI14 hf => ?_)
  refine mm_puti hx hb hts hown hKK hP hA hS fk7_2 (Or.inl rfl) fw7_2 lkX7_27 (kdC_lt h0 (Nat.succ_ne_zero _)) h0 rfl rfl dX7_removeRule_58 (fun H locs hP hS => ?_)
  rw [← eI14] at hP
  exact hret I14 R13 hf H locs ls _ dX7_removeRule_61 hP hT hS
def rmX10_drops : Room := { frames := 5, cells := 0, slots := 0, locals := 115 }
set_option maxHeartbeats 4000000 in
set_option maxRecDepth 100000 in
theorem k_X10_drops (l : Launch) (D : va_G) (ce : Nat → ClassId) (b : Nat) (I : mI) (L : mL) (R : mR) (hT : WT kdC R) (x0 : Nat) (x1 : Int32) (h0 : kdC x0 = 16) (o1 : Int32) (o2 : mI) (o3 : mR) (hf : f_X10_drops x0 x1 I R = some (o1, o2, o3)) : Met l yX10_drops (Cond.code yX10_drops cX10_drops 2 (some .int) :: GW) rmX10_drops (va_Pc [.ref (b + x0), .int x1] (PW D ce b kdC lnC 272 I L R)) (va_Qi (fun r u => r = o1 ∧ u = (o2, L, o3)) (QW D ce b kdC lnC 272) (box b 272)) 0 0 (box b 272) := by
  refine Met.ofW (cc := cX10_drops) (maxL := 2) (ret := (some .int)) (by decide) rfl ?_
  intro p e s m args below meth c s₁ B hml hv
  obtain ⟨rfl, hP, hKK⟩ := hv
  have hx := B.exec
  have hb := B.bytes
  have hr := B.returns
  have hts0 := atoms_spec (ws := Cond.code yX10_drops cX10_drops 2 (some .int) :: GW) B.pre
  have hts : ∀ w ∈ GW, w.before _ s = true := fun w h => hts0 w (List.mem_cons_of_mem _ h)
  clear hts0
  have hown : s.vm.findClass RX10 = some m.cls := findClass_of_methodNamed B.named
  have hlocks := B.notSynchronized
  have hA : ∀ q, box b 272 q → box b 272 q := fun _ h => h
  have hS : va_S (box b 272) s.heap s.heap [] := va_S.rf
  have hl := lv_entry ([.ref (b + x0), .int x1]) (n := 2) (Nat.le_of_ble_eq_true rfl)
  rw [lg_entry_eq]
  generalize (lg_sl ([.ref (b + x0), .int x1]) ++ List.replicate (2 - (lg_sl ([.ref (b + x0), .int x1])).length) Slot.unset).toArray = ls at hl ⊢
  have hl : lv_has ls 2 [(0, .ref (b + x0)), (1, .int x1)] := hl
  generalize ([.ref (b + x0), .int x1] : List Value).toArray = av at hts ⊢
  show W p l e rmX10_drops s m av below meth c s.heap [] 0 0 _ _
  obtain ⟨QQ, hQQ⟩ : ∃ z, z = MQ below (va_Qi (fun r u => r = o1 ∧ u = (o2, L, o3)) (QW D ce b kdC lnC 272) (box b 272)) av s 0 0 (box b 272) := ⟨_, rfl⟩
  rw [← hQQ]
  have hret : ∀ (r : Int32) (I1 : mI) (R1 : mR), some (r, I1, R1) = some (o1, o2, o3) → ∀ (H1 : Heap) (locs1 : List Loc) (ls1 : Array Slot) (pc1 : Nat), decode cX10_drops pc1 = .ok (.ireturn, 1) → va_P D vwCl (wd ce b kdC lnC 272 I1 L R1) H1 → WT kdC R1 → va_S (box b 272) s.heap H1 locs1 → W p l e rmX10_drops s m av below meth c H1 locs1 0 0 QQ (F0 m pc1 ls1 [.int r]) := by
    intro r I1 R1 hq H1 locs1 ls1 pc1 hd hP hT hS
    cases hq
    rw [hQQ]
    exact mm_iret hx hb hr hlocks hP hT hS hd
  unfold f_X10_drops at hf
  obtain ⟨H, hH⟩ : ∃ z, z = s.heap := ⟨_, rfl⟩
  obtain ⟨locs, hlo⟩ : ∃ z : List Loc, z = [] := ⟨_, rfl⟩
  have hP : va_P D vwCl (wd ce b kdC lnC 272 I L R) H := by rw [hH]; exact hP
  have hS : va_S (box b 272) s.heap H locs := by rw [hH, hlo]; exact hS
  rw [show W p l e rmX10_drops s m av below meth c s.heap [] 0 0 QQ = W p l e rmX10_drops s m av below meth c H locs 0 0 QQ by rw [hH, hlo]]
  clear hH hlo
  clear hQQ
  show W p l e rmX10_drops s m av below meth c H locs 0 0 QQ (F0 m 0 ls [])
  refine lv_aload_n hx hb dX10_drops_0 rfl (lv_at hl 0 rfl) ?_
  refine lv_iload_n hx hb dX10_drops_1 rfl (lv_at hl 1 rfl) ?_
  obtain ⟨r1, e1, hf⟩ := bd1_o hf
  refine mm_Vi (rest := []) hx hb hml hown hts hKK hP hS hA (kdC_lt h0 (Nat.succ_ne_zero _)) h0 (show vwCl[10]? = some (yX10_isRule.cls, TX10, 15) from rfl) vkX10_122 (k_X10_isRule l D ce b I L R hT x0 x1 h0 r1 e1) rfl hl.1 rfl (Nat.le_of_ble_eq_true rfl) ⟨rfl, rfl⟩ ⟨Nat.le_of_ble_eq_true rfl, Nat.le_of_ble_eq_true rfl⟩ ⟨Nat.zero_le _, Nat.zero_le _⟩ dX10_drops_2 (fun H locs hP hT hS => ?_)
  refine lv_if_ne (tgt := 13) hx hb dX10_drops_5 (by decide) (fun c2 => ?_) (fun c2 => ?_)
  · have hf := ifF hf c2
    refine lv_aload_n hx hb dX10_drops_13 rfl (lv_at hl 0 rfl) ?_
    have t3 : kdC (R x0 1) = 7 := wt hT h0 rfl
    refine mm_getr hx hb hts hown hKK hP fk10_1 (Nat.le_of_ble_eq_true rfl) lkX10_19 (kdC_lt h0 (Nat.succ_ne_zero _)) h0 (nC t3 (Nat.succ_ne_zero _)) dX10_drops_14 ?_
    refine lv_aload_n hx hb dX10_drops_17 rfl (lv_at hl 0 rfl) ?_
    have t4 : kdC (R x0 0) = 13 := wt hT h0 rfl
    refine mm_getr hx hb hts hown hKK hP fk10_0 (Nat.le_of_ble_eq_true rfl) lkX10_10 (kdC_lt h0 (Nat.succ_ne_zero _)) h0 (nC t4 (Nat.succ_ne_zero _)) dX10_drops_18 ?_
    obtain ⟨I5, R5, e5, hf⟩ := bd2_o hf
    refine mm_Vv (rest := []) hx hb hml hown hts hKK hP hS hA (kdC_lt t3 (Nat.succ_ne_zero _)) t3 (show vwCl[1]? = some (yX1_keep.cls, TX1, 2) from rfl) vkX10_101 (k_X1_keep l D ce b I L R hT (R x0 1) (R x0 0) t3 t4 I5 R5 e5) rfl hl.1 rfl (Nat.le_of_ble_eq_true rfl) ⟨rfl, rfl⟩ ⟨Nat.le_of_ble_eq_true rfl, Nat.le_of_ble_eq_true rfl⟩ ⟨Nat.zero_le _, Nat.zero_le _⟩ dX10_drops_21 (fun H locs hP hT hS => ?_)
    refine lv_aload_n hx hb dX10_drops_24 rfl (lv_at hl 0 rfl) ?_
    have t6 : kdC (R5 x0 0) = 13 := wt hT h0 rfl
    refine mm_getr hx hb hts hown hKK hP fk10_0 (Nat.le_of_ble_eq_true rfl) lkX10_10 (kdC_lt h0 (Nat.succ_ne_zero _)) h0 (nC t6 (Nat.succ_ne_zero _)) dX10_drops_25 ?_
    refine lv_iload_n hx hb dX10_drops_28 rfl (lv_at hl 1 rfl) ?_
    obtain ⟨I7, R7, e7, hf⟩ := bd2_o hf
    refine mm_Vv (rest := []) hx hb hml hown hts hKK hP hS hA (kdC_lt t6 (Nat.succ_ne_zero _)) t6 (show vwCl[7]? = some (yX7_removeRule.cls, TX7, 3) from rfl) vkX10_126 (k_X7_removeRule l D ce b I5 L R5 hT (R5 x0 0) x1 t6 I7 R7 e7) rfl hl.1 rfl (Nat.le_of_ble_eq_true rfl) ⟨rfl, rfl⟩ ⟨Nat.le_of_ble_eq_true rfl, Nat.le_of_ble_eq_true rfl⟩ ⟨Nat.zero_le _, Nat.zero_le _⟩ dX10_drops_29 (fun H locs hP hT hS => ?_)
    refine lv_aload_n hx hb dX10_drops_32 rfl (lv_at hl 0 rfl) ?_
    obtain ⟨I8, e8, hf⟩ := bd1_o hf
    refine mm_Vv (rest := []) hx hb hml hown hts hKK hP hS hA (kdC_lt h0 (Nat.succ_ne_zero _)) h0 (show vwCl[10]? = some (yX10_forgetFindings.cls, TX10, 15) from rfl) vkX10_108 (k_X10_forgetFindings l D ce b I7 L R7 hT x0 h0 I8 e8) rfl hl.1 rfl (Nat.le_of_ble_eq_true rfl) ⟨rfl, rfl⟩ ⟨Nat.le_of_ble_eq_true rfl, Nat.le_of_ble_eq_true rfl⟩ ⟨Nat.zero_le _, Nat.zero_le _⟩ dX10_drops_33 (fun H locs hP hT hS => ?_)
    refine lv_aload_n hx hb dX10_drops_36 rfl (lv_at hl 0 rfl) ?_
    have t9 : kdC (R7 x0 0) = 13 := wt hT h0 rfl
    refine mm_getr hx hb hts hown hKK hP fk10_0 (Nat.le_of_ble_eq_true rfl) lkX10_10 (kdC_lt h0 (Nat.succ_ne_zero _)) h0 (nC t9 (Nat.succ_ne_zero _)) dX10_drops_37 ?_
    refine mm_geti hx hb hts hown hKK hP fk7_2 (Or.inl rfl) lkX10_105 (kdC_lt t9 (Nat.succ_ne_zero _)) t9 dX10_drops_40 ?_
    exact hret (I8 (R7 x0 0) 2) I8 R7 hf H locs ls _ dX10_drops_43 hP hT hS
  · have hf := ifT hf c2
    refine lv_aload_n hx hb dX10_drops_8 rfl (lv_at hl 0 rfl) ?_
    obtain ⟨r10, I10, e10, hf⟩ := bd2_o hf
    refine mm_Vi (rest := []) hx hb hml hown hts hKK hP hS hA (kdC_lt h0 (Nat.succ_ne_zero _)) h0 (show vwCl[10]? = some (yX10_refuseBad.cls, TX10, 15) from rfl) vkX10_81 (k_X10_refuseBad l D ce b I L R hT x0 h0 r10 I10 e10) rfl hl.1 rfl (Nat.le_of_ble_eq_true rfl) ⟨rfl, rfl⟩ ⟨Nat.le_of_ble_eq_true rfl, Nat.le_of_ble_eq_true rfl⟩ ⟨Nat.zero_le _, Nat.zero_le _⟩ dX10_drops_9 (fun H locs hP hT hS => ?_)
    exact hret r10 I10 R hf H locs ls _ dX10_drops_12 hP hT hS
def rmX7_moveToFront : Room := { frames := 0, cells := 0, slots := 0, locals := 0 }
set_option maxHeartbeats 4000000 in
set_option maxRecDepth 100000 in
theorem k_X7_moveToFront (l : Launch) (D : va_G) (ce : Nat → ClassId) (b : Nat) (I : mI) (L : mL) (R : mR) (hT : WT kdC R) (x0 : Nat) (x1 : Int32) (h0 : kdC x0 = 13) (o1 : mR) (hf : f_X7_moveToFront x0 x1 R = some o1) : Met l yX7_moveToFront (Cond.code yX7_moveToFront cX7_moveToFront 4 none :: GW) rmX7_moveToFront (va_Pc [.ref (b + x0), .int x1] (PW D ce b kdC lnC 272 I L R)) (va_Qv (fun u => u = (I, L, o1)) (QW D ce b kdC lnC 272) (box b 272)) 0 0 (box b 272) := by
  refine Met.ofW (cc := cX7_moveToFront) (maxL := 4) (ret := none) (by decide) rfl ?_
  intro p e s m args below meth c s₁ B hml hv
  obtain ⟨rfl, hP, hKK⟩ := hv
  have hx := B.exec
  have hb := B.bytes
  have hr := B.returns
  have hts0 := atoms_spec (ws := Cond.code yX7_moveToFront cX7_moveToFront 4 none :: GW) B.pre
  have hts : ∀ w ∈ GW, w.before _ s = true := fun w h => hts0 w (List.mem_cons_of_mem _ h)
  clear hts0
  have hown : s.vm.findClass RX7 = some m.cls := findClass_of_methodNamed B.named
  have hlocks := B.notSynchronized
  have hA : ∀ q, box b 272 q → box b 272 q := fun _ h => h
  have hS : va_S (box b 272) s.heap s.heap [] := va_S.rf
  have hl := lv_entry ([.ref (b + x0), .int x1]) (n := 4) (Nat.le_of_ble_eq_true rfl)
  rw [lg_entry_eq]
  generalize (lg_sl ([.ref (b + x0), .int x1]) ++ List.replicate (4 - (lg_sl ([.ref (b + x0), .int x1])).length) Slot.unset).toArray = ls at hl ⊢
  have hl : lv_has ls 4 [(0, .ref (b + x0)), (1, .int x1)] := hl
  generalize ([.ref (b + x0), .int x1] : List Value).toArray = av at hts ⊢
  show W p l e rmX7_moveToFront s m av below meth c s.heap [] 0 0 _ _
  obtain ⟨QQ, hQQ⟩ : ∃ z, z = MQ below (va_Qv (fun u => u = (I, L, o1)) (QW D ce b kdC lnC 272) (box b 272)) av s 0 0 (box b 272) := ⟨_, rfl⟩
  rw [← hQQ]
  have hret : ∀ (R1 : mR), some R1 = some o1 → ∀ (H1 : Heap) (locs1 : List Loc) (ls1 : Array Slot) (pc1 : Nat), decode cX7_moveToFront pc1 = .ok (.return_, 1) → va_P D vwCl (wd ce b kdC lnC 272 I L R1) H1 → WT kdC R1 → va_S (box b 272) s.heap H1 locs1 → W p l e rmX7_moveToFront s m av below meth c H1 locs1 0 0 QQ (F0 m pc1 ls1 []) := by
    intro R1 hq H1 locs1 ls1 pc1 hd hP hT hS
    cases hq
    rw [hQQ]
    exact mm_vret hx hb hr hlocks hP hT hS hd
  unfold f_X7_moveToFront at hf
  obtain ⟨H, hH⟩ : ∃ z, z = s.heap := ⟨_, rfl⟩
  obtain ⟨locs, hlo⟩ : ∃ z : List Loc, z = [] := ⟨_, rfl⟩
  have hP : va_P D vwCl (wd ce b kdC lnC 272 I L R) H := by rw [hH]; exact hP
  have hS : va_S (box b 272) s.heap H locs := by rw [hH, hlo]; exact hS
  rw [show W p l e rmX7_moveToFront s m av below meth c s.heap [] 0 0 QQ = W p l e rmX7_moveToFront s m av below meth c H locs 0 0 QQ by rw [hH, hlo]]
  clear hH hlo
  clear hQQ
  show W p l e rmX7_moveToFront s m av below meth c H locs 0 0 QQ (F0 m 0 ls [])
  refine lv_aload_n hx hb dX7_moveToFront_0 rfl (lv_at hl 0 rfl) ?_
  have t1 : kdC (R x0 0) = 4 := wt hT h0 rfl
  refine mm_getr hx hb hts hown hKK hP fk7_0 (Nat.le_of_ble_eq_true rfl) lkX7_11 (kdC_lt h0 (Nat.succ_ne_zero _)) h0 (nC t1 (Nat.succ_ne_zero _)) dX7_moveToFront_1 ?_
  refine lv_iload_n hx hb dX7_moveToFront_4 rfl (lv_at hl 1 rfl) ?_
  obtain ⟨g2, hf⟩ := grd hf
  have t3 : kdC (R (R x0 0) x1.toNatClampNeg) = 9 := wt hT t1 rfl
  refine mm_aald4 hx hb hKK hP (kdC_lt t1 (Nat.succ_ne_zero _)) t1 g2 (nC t3 (Nat.succ_ne_zero _)) dX7_moveToFront_5 ?_
  refine lv_astore_n (lv' := [(2, .ref (b + (R (R x0 0) x1.toNatClampNeg))), (0, .ref (b + x0)), (1, .int x1)]) hx hb dX7_moveToFront_6 rfl hl (Nat.le_of_ble_eq_true rfl) rfl (fun ls hl => ?_)
  refine lv_iload_n hx hb dX7_moveToFront_7 rfl (lv_at hl 2 rfl) ?_
  refine lv_istore_n (lv' := [(3, .int x1), (2, .ref (b + (R (R x0 0) x1.toNatClampNeg))), (0, .ref (b + x0)), (1, .int x1)]) hx hb dX7_moveToFront_8 rfl hl (Nat.le_of_ble_eq_true rfl) rfl (fun ls hl => ?_)
  have lp9 : ∀ (n : Nat) (x0 : Nat) (x2 : Nat) (x3 : Int32) (I : mI) (L : mL) (R : mR) (a1 : mR) (H : Heap) (locs : List Loc) (ls : Array Slot), va_P D vwCl (wd ce b kdC lnC 272 I L R) H → va_S (box b 272) s.heap H locs → WT kdC R → kdC x0 = 13 → kdC x2 = 9 → lv_has ls 4 [(0, .ref (b + x0)), (2, .ref (b + x2)), (3, .int x3)] → f_X7_moveToFront_L9 n x0 x2 x3 R = some a1 → (∀ (H1 : Heap) (locs1 : List Loc) (ls1 : Array Slot), va_P D vwCl (wd ce b kdC lnC 272 I L a1) H1 → va_S (box b 272) s.heap H1 locs1 → WT kdC a1 → lv_has ls1 4 [(0, .ref (b + x0)), (2, .ref (b + x2))] → W p l e rmX7_moveToFront s m av below meth c H1 locs1 0 0 QQ (F0 m 33 ls1 [])) → W p l e rmX7_moveToFront s m av below meth c H locs 0 0 QQ (F0 m 9 ls []) := by
    intro n
    induction n with
    | zero =>
      intro x0 x2 x3 I L R a1 H locs ls hP hS hT h0 h2 hl hf kx
      exact absurd (show (none : Option (mR)) = some _ from hf) (by simp)
    | succ n ih =>
      intro x0 x2 x3 I L R a1 H locs ls hP hS hT h0 h2 hl hf kx
      rw [f_X7_moveToFront_L9] at hf
      refine lv_iload_n hx hb dX7_moveToFront_9 rfl (lv_at hl 2 rfl) ?_
      refine lv_if_le (tgt := 33) hx hb dX7_moveToFront_10 (by decide) (fun c4 => ?_) (fun c4 => ?_)
      · have hf := ifT hf c4
        cases hf
        exact kx H locs ls hP hS hT (lv_sub hl [0, 1] rfl)
      · have hf := ifF hf c4
        refine lv_aload_n hx hb dX7_moveToFront_13 rfl (lv_at hl 0 rfl) ?_
        have t5 : kdC (R x0 0) = 4 := wt hT h0 rfl
        refine mm_getr hx hb hts hown hKK hP fk7_0 (Nat.le_of_ble_eq_true rfl) lkX7_11 (kdC_lt h0 (Nat.succ_ne_zero _)) h0 (nC t5 (Nat.succ_ne_zero _)) dX7_moveToFront_14 ?_
        refine lv_iload_n hx hb dX7_moveToFront_17 rfl (lv_at hl 2 rfl) ?_
        refine lv_aload_n hx hb dX7_moveToFront_18 rfl (lv_at hl 0 rfl) ?_
        refine mm_getr hx hb hts hown hKK hP fk7_0 (Nat.le_of_ble_eq_true rfl) lkX7_11 (kdC_lt h0 (Nat.succ_ne_zero _)) h0 (nC t5 (Nat.succ_ne_zero _)) dX7_moveToFront_19 ?_
        refine lv_iload_n hx hb dX7_moveToFront_22 rfl (lv_at hl 2 rfl) ?_
        refine lv_iconst (v := (1 : Int32)) hx hb dX7_moveToFront_23 (by decide) ?_
        refine lv_isub hx hb dX7_moveToFront_24 ?_
        obtain ⟨g6, hf⟩ := grd hf
        have t7 : kdC (R (R x0 0) ((x3 - (1 : Int32))).toNatClampNeg) = 9 := wt hT t5 rfl
        refine mm_aald4 hx hb hKK hP (kdC_lt t5 (Nat.succ_ne_zero _)) t5 g6 (nC t7 (Nat.succ_ne_zero _)) dX7_moveToFront_25 ?_
        obtain ⟨g8, hf⟩ := grd hf
        refine jnE hf (fun R9 eR9 hf => ?_)
        refine mm_aast4 hx hb hKK hP hA hS (kdC_lt t5 (Nat.succ_ne_zero _)) t5 (kdC_lt t7 (Nat.succ_ne_zero _)) t7 (nC t7 (Nat.succ_ne_zero _)) g8 dX7_moveToFront_26 (fun H locs hP hS => ?_)
        have hT := WT.up (k := x3.toNatClampNeg) hT (a := (R x0 0)) (t := 9) (fun j => by rw [t5]; rfl) t7
        rw [← eR9] at hP hT
        refine lv_iinc (v := (x3 + (-1 : Int32))) (lv' := [(3, .int (x3 + (-1 : Int32))), (0, .ref (b + x0)), (2, .ref (b + x2))]) hx hb dX7_moveToFront_27 hl (k := 2) rfl rfl (Nat.le_of_ble_eq_true rfl) rfl (fun ls hl => ?_)
        refine lv_goto (tgt := 9) hx hb dX7_moveToFront_30 (by decide) ?_
        exact ih x0 x2 (x3 + (-1 : Int32)) I L R9 a1 H locs ls hP hS hT h0 h2 (lv_sub hl [1, 2, 0] rfl) hf kx
  obtain ⟨R_10, e_10, hf⟩ := bd1_o hf
  refine lp9 FU x0 (R (R x0 0) x1.toNatClampNeg) x1 I L R R_10 H locs ls hP hS hT h0 t3 (lv_sub hl [2, 1, 0] rfl) e_10 (fun H locs ls hP hS hT hl => ?_)
  refine lv_aload_n hx hb dX7_moveToFront_33 rfl (lv_at hl 0 rfl) ?_
  have t11 : kdC (R_10 x0 0) = 4 := wt hT h0 rfl
  refine mm_getr hx hb hts hown hKK hP fk7_0 (Nat.le_of_ble_eq_true rfl) lkX7_11 (kdC_lt h0 (Nat.succ_ne_zero _)) h0 (nC t11 (Nat.succ_ne_zero _)) dX7_moveToFront_34 ?_
  refine lv_iconst (v := (0 : Int32)) hx hb dX7_moveToFront_37 (by decide) ?_
  refine lv_aload_n hx hb dX7_moveToFront_38 rfl (lv_at hl 1 rfl) ?_
  obtain ⟨g12, hf⟩ := grd hf
  refine jnE hf (fun R13 eR13 hf => ?_)
  refine mm_aast4 hx hb hKK hP hA hS (kdC_lt t11 (Nat.succ_ne_zero _)) t11 (kdC_lt t3 (Nat.succ_ne_zero _)) t3 (nC t3 (Nat.succ_ne_zero _)) g12 dX7_moveToFront_39 (fun H locs hP hS => ?_)
  have hT := WT.up (k := ((0 : Int32)).toNatClampNeg) hT (a := (R_10 x0 0)) (t := 9) (fun j => by rw [t11]; rfl) t3
  rw [← eR13] at hP hT
  exact hret R13 hf H locs ls _ dX7_moveToFront_40 hP hT hS
def rmX10_first : Room := { frames := 5, cells := 0, slots := 0, locals := 115 }
set_option maxHeartbeats 4000000 in
set_option maxRecDepth 100000 in
theorem k_X10_first (l : Launch) (D : va_G) (ce : Nat → ClassId) (b : Nat) (I : mI) (L : mL) (R : mR) (hT : WT kdC R) (x0 : Nat) (x1 : Int32) (h0 : kdC x0 = 16) (o1 : Int32) (o2 : mI) (o3 : mR) (hf : f_X10_first x0 x1 I R = some (o1, o2, o3)) : Met l yX10_first (Cond.code yX10_first cX10_first 2 (some .int) :: GW) rmX10_first (va_Pc [.ref (b + x0), .int x1] (PW D ce b kdC lnC 272 I L R)) (va_Qi (fun r u => r = o1 ∧ u = (o2, L, o3)) (QW D ce b kdC lnC 272) (box b 272)) 0 0 (box b 272) := by
  refine Met.ofW (cc := cX10_first) (maxL := 2) (ret := (some .int)) (by decide) rfl ?_
  intro p e s m args below meth c s₁ B hml hv
  obtain ⟨rfl, hP, hKK⟩ := hv
  have hx := B.exec
  have hb := B.bytes
  have hr := B.returns
  have hts0 := atoms_spec (ws := Cond.code yX10_first cX10_first 2 (some .int) :: GW) B.pre
  have hts : ∀ w ∈ GW, w.before _ s = true := fun w h => hts0 w (List.mem_cons_of_mem _ h)
  clear hts0
  have hown : s.vm.findClass RX10 = some m.cls := findClass_of_methodNamed B.named
  have hlocks := B.notSynchronized
  have hA : ∀ q, box b 272 q → box b 272 q := fun _ h => h
  have hS : va_S (box b 272) s.heap s.heap [] := va_S.rf
  have hl := lv_entry ([.ref (b + x0), .int x1]) (n := 2) (Nat.le_of_ble_eq_true rfl)
  rw [lg_entry_eq]
  generalize (lg_sl ([.ref (b + x0), .int x1]) ++ List.replicate (2 - (lg_sl ([.ref (b + x0), .int x1])).length) Slot.unset).toArray = ls at hl ⊢
  have hl : lv_has ls 2 [(0, .ref (b + x0)), (1, .int x1)] := hl
  generalize ([.ref (b + x0), .int x1] : List Value).toArray = av at hts ⊢
  show W p l e rmX10_first s m av below meth c s.heap [] 0 0 _ _
  obtain ⟨QQ, hQQ⟩ : ∃ z, z = MQ below (va_Qi (fun r u => r = o1 ∧ u = (o2, L, o3)) (QW D ce b kdC lnC 272) (box b 272)) av s 0 0 (box b 272) := ⟨_, rfl⟩
  rw [← hQQ]
  have hret : ∀ (r : Int32) (I1 : mI) (R1 : mR), some (r, I1, R1) = some (o1, o2, o3) → ∀ (H1 : Heap) (locs1 : List Loc) (ls1 : Array Slot) (pc1 : Nat), decode cX10_first pc1 = .ok (.ireturn, 1) → va_P D vwCl (wd ce b kdC lnC 272 I1 L R1) H1 → WT kdC R1 → va_S (box b 272) s.heap H1 locs1 → W p l e rmX10_first s m av below meth c H1 locs1 0 0 QQ (F0 m pc1 ls1 [.int r]) := by
    intro r I1 R1 hq H1 locs1 ls1 pc1 hd hP hT hS
    cases hq
    rw [hQQ]
    exact mm_iret hx hb hr hlocks hP hT hS hd
  unfold f_X10_first at hf
  obtain ⟨H, hH⟩ : ∃ z, z = s.heap := ⟨_, rfl⟩
  obtain ⟨locs, hlo⟩ : ∃ z : List Loc, z = [] := ⟨_, rfl⟩
  have hP : va_P D vwCl (wd ce b kdC lnC 272 I L R) H := by rw [hH]; exact hP
  have hS : va_S (box b 272) s.heap H locs := by rw [hH, hlo]; exact hS
  rw [show W p l e rmX10_first s m av below meth c s.heap [] 0 0 QQ = W p l e rmX10_first s m av below meth c H locs 0 0 QQ by rw [hH, hlo]]
  clear hH hlo
  clear hQQ
  show W p l e rmX10_first s m av below meth c H locs 0 0 QQ (F0 m 0 ls [])
  refine lv_aload_n hx hb dX10_first_0 rfl (lv_at hl 0 rfl) ?_
  refine lv_iload_n hx hb dX10_first_1 rfl (lv_at hl 1 rfl) ?_
  obtain ⟨r1, e1, hf⟩ := bd1_o hf
  refine mm_Vi (rest := []) hx hb hml hown hts hKK hP hS hA (kdC_lt h0 (Nat.succ_ne_zero _)) h0 (show vwCl[10]? = some (yX10_isRule.cls, TX10, 15) from rfl) vkX10_122 (k_X10_isRule l D ce b I L R hT x0 x1 h0 r1 e1) rfl hl.1 rfl (Nat.le_of_ble_eq_true rfl) ⟨rfl, rfl⟩ ⟨Nat.le_of_ble_eq_true rfl, Nat.le_of_ble_eq_true rfl⟩ ⟨Nat.zero_le _, Nat.zero_le _⟩ dX10_first_2 (fun H locs hP hT hS => ?_)
  refine lv_if_ne (tgt := 13) hx hb dX10_first_5 (by decide) (fun c2 => ?_) (fun c2 => ?_)
  · have hf := ifF hf c2
    refine lv_aload_n hx hb dX10_first_13 rfl (lv_at hl 0 rfl) ?_
    have t3 : kdC (R x0 1) = 7 := wt hT h0 rfl
    refine mm_getr hx hb hts hown hKK hP fk10_1 (Nat.le_of_ble_eq_true rfl) lkX10_19 (kdC_lt h0 (Nat.succ_ne_zero _)) h0 (nC t3 (Nat.succ_ne_zero _)) dX10_first_14 ?_
    refine lv_aload_n hx hb dX10_first_17 rfl (lv_at hl 0 rfl) ?_
    have t4 : kdC (R x0 0) = 13 := wt hT h0 rfl
    refine mm_getr hx hb hts hown hKK hP fk10_0 (Nat.le_of_ble_eq_true rfl) lkX10_10 (kdC_lt h0 (Nat.succ_ne_zero _)) h0 (nC t4 (Nat.succ_ne_zero _)) dX10_first_18 ?_
    obtain ⟨I5, R5, e5, hf⟩ := bd2_o hf
    refine mm_Vv (rest := []) hx hb hml hown hts hKK hP hS hA (kdC_lt t3 (Nat.succ_ne_zero _)) t3 (show vwCl[1]? = some (yX1_keep.cls, TX1, 2) from rfl) vkX10_101 (k_X1_keep l D ce b I L R hT (R x0 1) (R x0 0) t3 t4 I5 R5 e5) rfl hl.1 rfl (Nat.le_of_ble_eq_true rfl) ⟨rfl, rfl⟩ ⟨Nat.le_of_ble_eq_true rfl, Nat.le_of_ble_eq_true rfl⟩ ⟨Nat.zero_le _, Nat.zero_le _⟩ dX10_first_21 (fun H locs hP hT hS => ?_)
    refine lv_aload_n hx hb dX10_first_24 rfl (lv_at hl 0 rfl) ?_
    have t6 : kdC (R5 x0 0) = 13 := wt hT h0 rfl
    refine mm_getr hx hb hts hown hKK hP fk10_0 (Nat.le_of_ble_eq_true rfl) lkX10_10 (kdC_lt h0 (Nat.succ_ne_zero _)) h0 (nC t6 (Nat.succ_ne_zero _)) dX10_first_25 ?_
    refine lv_iload_n hx hb dX10_first_28 rfl (lv_at hl 1 rfl) ?_
    obtain ⟨R7, e7, hf⟩ := bd1_o hf
    refine mm_Vv (rest := []) hx hb hml hown hts hKK hP hS hA (kdC_lt t6 (Nat.succ_ne_zero _)) t6 (show vwCl[7]? = some (yX7_moveToFront.cls, TX7, 3) from rfl) vkX10_129 (k_X7_moveToFront l D ce b I5 L R5 hT (R5 x0 0) x1 t6 R7 e7) rfl hl.1 rfl (Nat.le_of_ble_eq_true rfl) ⟨rfl, rfl⟩ ⟨Nat.le_of_ble_eq_true rfl, Nat.le_of_ble_eq_true rfl⟩ ⟨Nat.zero_le _, Nat.zero_le _⟩ dX10_first_29 (fun H locs hP hT hS => ?_)
    refine lv_aload_n hx hb dX10_first_32 rfl (lv_at hl 0 rfl) ?_
    obtain ⟨I8, e8, hf⟩ := bd1_o hf
    refine mm_Vv (rest := []) hx hb hml hown hts hKK hP hS hA (kdC_lt h0 (Nat.succ_ne_zero _)) h0 (show vwCl[10]? = some (yX10_forgetFindings.cls, TX10, 15) from rfl) vkX10_108 (k_X10_forgetFindings l D ce b I5 L R7 hT x0 h0 I8 e8) rfl hl.1 rfl (Nat.le_of_ble_eq_true rfl) ⟨rfl, rfl⟩ ⟨Nat.le_of_ble_eq_true rfl, Nat.le_of_ble_eq_true rfl⟩ ⟨Nat.zero_le _, Nat.zero_le _⟩ dX10_first_33 (fun H locs hP hT hS => ?_)
    refine lv_iload_n hx hb dX10_first_36 rfl (lv_at hl 1 rfl) ?_
    exact hret x1 I8 R7 hf H locs ls _ dX10_first_37 hP hT hS
  · have hf := ifT hf c2
    refine lv_aload_n hx hb dX10_first_8 rfl (lv_at hl 0 rfl) ?_
    obtain ⟨r9, I9, e9, hf⟩ := bd2_o hf
    refine mm_Vi (rest := []) hx hb hml hown hts hKK hP hS hA (kdC_lt h0 (Nat.succ_ne_zero _)) h0 (show vwCl[10]? = some (yX10_refuseBad.cls, TX10, 15) from rfl) vkX10_81 (k_X10_refuseBad l D ce b I L R hT x0 h0 r9 I9 e9) rfl hl.1 rfl (Nat.le_of_ble_eq_true rfl) ⟨rfl, rfl⟩ ⟨Nat.le_of_ble_eq_true rfl, Nat.le_of_ble_eq_true rfl⟩ ⟨Nat.zero_le _, Nat.zero_le _⟩ dX10_first_9 (fun H locs hP hT hS => ?_)
    exact hret r9 I9 R hf H locs ls _ dX10_first_12 hP hT hS
def rmX0_findHeads : Room := { frames := 0, cells := 0, slots := 0, locals := 0 }
set_option maxHeartbeats 4000000 in
set_option maxRecDepth 100000 in
theorem k_X0_findHeads (l : Launch) (D : va_G) (ce : Nat → ClassId) (b : Nat) (I : mI) (L : mL) (R : mR) (hT : WT kdC R) (x0 : Nat) (x1 : Nat) (h0 : kdC x0 = 6) (h1 : kdC x1 = 13) (o1 : mI) (hf : f_X0_findHeads x0 x1 I R = some o1) : Met l yX0_findHeads (Cond.code yX0_findHeads cX0_findHeads 3 none :: GW) rmX0_findHeads (va_Pc [.ref (b + x0), .ref (b + x1)] (PW D ce b kdC lnC 272 I L R)) (va_Qv (fun u => u = (o1, L, R)) (QW D ce b kdC lnC 272) (box b 272)) 0 0 (box b 272) := by
  refine Met.ofW (cc := cX0_findHeads) (maxL := 3) (ret := none) (by decide) rfl ?_
  intro p e s m args below meth c s₁ B hml hv
  obtain ⟨rfl, hP, hKK⟩ := hv
  have hx := B.exec
  have hb := B.bytes
  have hr := B.returns
  have hts0 := atoms_spec (ws := Cond.code yX0_findHeads cX0_findHeads 3 none :: GW) B.pre
  have hts : ∀ w ∈ GW, w.before _ s = true := fun w h => hts0 w (List.mem_cons_of_mem _ h)
  clear hts0
  have hown : s.vm.findClass RX0 = some m.cls := findClass_of_methodNamed B.named
  have hlocks := B.notSynchronized
  have hA : ∀ q, box b 272 q → box b 272 q := fun _ h => h
  have hS : va_S (box b 272) s.heap s.heap [] := va_S.rf
  have hl := lv_entry ([.ref (b + x0), .ref (b + x1)]) (n := 3) (Nat.le_of_ble_eq_true rfl)
  rw [lg_entry_eq]
  generalize (lg_sl ([.ref (b + x0), .ref (b + x1)]) ++ List.replicate (3 - (lg_sl ([.ref (b + x0), .ref (b + x1)])).length) Slot.unset).toArray = ls at hl ⊢
  have hl : lv_has ls 3 [(0, .ref (b + x0)), (1, .ref (b + x1))] := hl
  generalize ([.ref (b + x0), .ref (b + x1)] : List Value).toArray = av at hts ⊢
  show W p l e rmX0_findHeads s m av below meth c s.heap [] 0 0 _ _
  obtain ⟨QQ, hQQ⟩ : ∃ z, z = MQ below (va_Qv (fun u => u = (o1, L, R)) (QW D ce b kdC lnC 272) (box b 272)) av s 0 0 (box b 272) := ⟨_, rfl⟩
  rw [← hQQ]
  have hret : ∀ (I1 : mI), some I1 = some o1 → ∀ (H1 : Heap) (locs1 : List Loc) (ls1 : Array Slot) (pc1 : Nat), decode cX0_findHeads pc1 = .ok (.return_, 1) → va_P D vwCl (wd ce b kdC lnC 272 I1 L R) H1 → WT kdC R → va_S (box b 272) s.heap H1 locs1 → W p l e rmX0_findHeads s m av below meth c H1 locs1 0 0 QQ (F0 m pc1 ls1 []) := by
    intro I1 hq H1 locs1 ls1 pc1 hd hP hT hS
    cases hq
    rw [hQQ]
    exact mm_vret hx hb hr hlocks hP hT hS hd
  unfold f_X0_findHeads at hf
  obtain ⟨H, hH⟩ : ∃ z, z = s.heap := ⟨_, rfl⟩
  obtain ⟨locs, hlo⟩ : ∃ z : List Loc, z = [] := ⟨_, rfl⟩
  have hP : va_P D vwCl (wd ce b kdC lnC 272 I L R) H := by rw [hH]; exact hP
  have hS : va_S (box b 272) s.heap H locs := by rw [hH, hlo]; exact hS
  rw [show W p l e rmX0_findHeads s m av below meth c s.heap [] 0 0 QQ = W p l e rmX0_findHeads s m av below meth c H locs 0 0 QQ by rw [hH, hlo]]
  clear hH hlo
  clear hQQ
  show W p l e rmX0_findHeads s m av below meth c H locs 0 0 QQ (F0 m 0 ls [])
  refine lv_aload_n hx hb dX0_findHeads_0 rfl (lv_at hl 0 rfl) ?_
  refine lv_iconst (v := (0 : Int32)) hx hb dX0_findHeads_1 (by decide) ?_
  refine jnE hf (fun I1 eI1 hf => ?_)
  refine mm_puti hx hb hts hown hKK hP hA hS fk0_7 (Or.inl rfl) fw0_7 lkX0_73 (kdC_lt h0 (Nat.succ_ne_zero _)) h0 rfl rfl dX0_findHeads_2 (fun H locs hP hS => ?_)
  rw [← eI1] at hP
  refine lv_iconst (v := (0 : Int32)) hx hb dX0_findHeads_5 (by decide) ?_
  refine lv_istore_n (lv' := [(2, .int (0 : Int32)), (0, .ref (b + x0)), (1, .ref (b + x1))]) hx hb dX0_findHeads_6 rfl hl (Nat.le_of_ble_eq_true rfl) rfl (fun ls hl => ?_)
  have lp7 : ∀ (n : Nat) (x0 : Nat) (x1 : Nat) (x2 : Int32) (I : mI) (L : mL) (R : mR) (a1 : mI) (H : Heap) (locs : List Loc) (ls : Array Slot), va_P D vwCl (wd ce b kdC lnC 272 I L R) H → va_S (box b 272) s.heap H locs → WT kdC R → kdC x0 = 6 → kdC x1 = 13 → lv_has ls 3 [(0, .ref (b + x0)), (1, .ref (b + x1)), (2, .int x2)] → f_X0_findHeads_L7 n x0 x1 x2 I R = some a1 → (∀ (H1 : Heap) (locs1 : List Loc) (ls1 : Array Slot), va_P D vwCl (wd ce b kdC lnC 272 a1 L R) H1 → va_S (box b 272) s.heap H1 locs1 → lv_has ls1 3 [] → W p l e rmX0_findHeads s m av below meth c H1 locs1 0 0 QQ (F0 m 49 ls1 [])) → W p l e rmX0_findHeads s m av below meth c H locs 0 0 QQ (F0 m 7 ls []) := by
    intro n
    induction n with
    | zero =>
      intro x0 x1 x2 I L R a1 H locs ls hP hS hT h0 h1 hl hf kx
      exact absurd (show (none : Option (mI)) = some _ from hf) (by simp)
    | succ n ih =>
      intro x0 x1 x2 I L R a1 H locs ls hP hS hT h0 h1 hl hf kx
      rw [f_X0_findHeads_L7] at hf
      refine lv_iload_n hx hb dX0_findHeads_7 rfl (lv_at hl 2 rfl) ?_
      refine lv_aload_n hx hb dX0_findHeads_8 rfl (lv_at hl 1 rfl) ?_
      refine mm_geti hx hb hts hown hKK hP fk7_2 (Or.inl rfl) lkX0_76 (kdC_lt h1 (Nat.succ_ne_zero _)) h1 dX0_findHeads_9 ?_
      refine lv_icmp_ge (tgt := 49) hx hb dX0_findHeads_12 (by decide) (fun c2 => ?_) (fun c2 => ?_)
      · have hf := ifT hf c2
        cases hf
        exact kx H locs ls hP hS (lv_sub hl [] rfl)
      · have hf := ifF hf c2
        refine lv_aload_n hx hb dX0_findHeads_15 rfl (lv_at hl 0 rfl) ?_
        refine lv_dup hx hb dX0_findHeads_16 rfl ?_
        refine mm_geti hx hb hts hown hKK hP fk0_7 (Or.inl rfl) lkX0_73 (kdC_lt h0 (Nat.succ_ne_zero _)) h0 dX0_findHeads_17 ?_
        refine lv_iconst (v := (1 : Int32)) hx hb dX0_findHeads_20 (by decide) ?_
        refine lv_aload_n hx hb dX0_findHeads_21 rfl (lv_at hl 1 rfl) ?_
        have t3 : kdC (R x1 0) = 4 := wt hT h1 rfl
        refine mm_getr hx hb hts hown hKK hP fk7_0 (Nat.le_of_ble_eq_true rfl) lkX0_38 (kdC_lt h1 (Nat.succ_ne_zero _)) h1 (nC t3 (Nat.succ_ne_zero _)) dX0_findHeads_22 ?_
        refine lv_iload_n hx hb dX0_findHeads_25 rfl (lv_at hl 2 rfl) ?_
        obtain ⟨g4, hf⟩ := grd hf
        have t5 : kdC (R (R x1 0) x2.toNatClampNeg) = 9 := wt hT t3 rfl
        refine mm_aald4 hx hb hKK hP (kdC_lt t3 (Nat.succ_ne_zero _)) t3 g4 (nC t5 (Nat.succ_ne_zero _)) dX0_findHeads_26 ?_
        have t6 : kdC (R (R (R x1 0) x2.toNatClampNeg) 0) = 14 := wt hT t5 rfl
        refine mm_getr hx hb hts hown hKK hP fk3_0 (Nat.le_of_ble_eq_true rfl) lkX0_77 (kdC_lt t5 (Nat.succ_ne_zero _)) t5 (nC t6 (Nat.succ_ne_zero _)) dX0_findHeads_27 ?_
        have t7 : kdC (R (R (R (R x1 0) x2.toNatClampNeg) 0) 0) = 1 := wt hT t6 rfl
        refine mm_getr hx hb hts hown hKK hP fk8_0 (Nat.le_of_ble_eq_true rfl) lkX0_80 (kdC_lt t6 (Nat.succ_ne_zero _)) t6 (nC t7 (Nat.succ_ne_zero _)) dX0_findHeads_30 ?_
        refine lv_iconst (v := (0 : Int32)) hx hb dX0_findHeads_33 (by decide) ?_
        obtain ⟨g8, hf⟩ := grd hf
        refine mm_iald hx hb hKK hP (kdC_lt t7 (Nat.succ_ne_zero _)) t7 g8 dX0_findHeads_34 ?_
        refine lv_bipush (v := (97 : Int32)) hx hb dX0_findHeads_35 (by decide) ?_
        refine lv_isub hx hb dX0_findHeads_37 ?_
        refine lv_ishl hx hb dX0_findHeads_38 ?_
        refine lv_ior hx hb dX0_findHeads_39 ?_
        refine jnE hf (fun I9 eI9 hf => ?_)
        refine mm_puti hx hb hts hown hKK hP hA hS fk0_7 (Or.inl rfl) fw0_7 lkX0_73 (kdC_lt h0 (Nat.succ_ne_zero _)) h0 rfl rfl dX0_findHeads_40 (fun H locs hP hS => ?_)
        rw [← eI9] at hP
        refine lv_iinc (v := (x2 + (1 : Int32))) (lv' := [(2, .int (x2 + (1 : Int32))), (0, .ref (b + x0)), (1, .ref (b + x1))]) hx hb dX0_findHeads_43 hl (k := 2) rfl rfl (Nat.le_of_ble_eq_true rfl) rfl (fun ls hl => ?_)
        refine lv_goto (tgt := 7) hx hb dX0_findHeads_46 (by decide) ?_
        exact ih x0 x1 (x2 + (1 : Int32)) I9 L R a1 H locs ls hP hS hT h0 h1 (lv_sub hl [1, 2, 0] rfl) hf kx
  obtain ⟨I_10, e_10, hf⟩ := bd1_o hf
  refine lp7 FU x0 x1 (0 : Int32) I1 L R I_10 H locs ls hP hS hT h0 h1 (lv_sub hl [1, 2, 0] rfl) e_10 (fun H locs ls hP hS hl => ?_)
  exact hret I_10 hf H locs ls _ dX0_findHeads_49 hP hT hS
def rmX0_isHead : Room := { frames := 0, cells := 0, slots := 0, locals := 0 }
set_option maxHeartbeats 4000000 in
set_option maxRecDepth 100000 in
theorem k_X0_isHead (l : Launch) (D : va_G) (ce : Nat → ClassId) (b : Nat) (I : mI) (L : mL) (R : mR) (hT : WT kdC R) (x0 : Nat) (x1 : Int32) (h0 : kdC x0 = 6) (o1 : Int32) (hf : f_X0_isHead x0 x1 I = some o1) : Met l yX0_isHead (Cond.code yX0_isHead cX0_isHead 2 (some .boolean) :: GW) rmX0_isHead (va_Pc [.ref (b + x0), .int x1] (PW D ce b kdC lnC 272 I L R)) (va_Qi (fun r u => r = o1 ∧ u = (I, L, R)) (QW D ce b kdC lnC 272) (box b 272)) 0 0 (box b 272) := by
  refine Met.ofW (cc := cX0_isHead) (maxL := 2) (ret := (some .boolean)) (by decide) rfl ?_
  intro p e s m args below meth c s₁ B hml hv
  obtain ⟨rfl, hP, hKK⟩ := hv
  have hx := B.exec
  have hb := B.bytes
  have hr := B.returns
  have hts0 := atoms_spec (ws := Cond.code yX0_isHead cX0_isHead 2 (some .boolean) :: GW) B.pre
  have hts : ∀ w ∈ GW, w.before _ s = true := fun w h => hts0 w (List.mem_cons_of_mem _ h)
  clear hts0
  have hown : s.vm.findClass RX0 = some m.cls := findClass_of_methodNamed B.named
  have hlocks := B.notSynchronized
  have hA : ∀ q, box b 272 q → box b 272 q := fun _ h => h
  have hS : va_S (box b 272) s.heap s.heap [] := va_S.rf
  have hl := lv_entry ([.ref (b + x0), .int x1]) (n := 2) (Nat.le_of_ble_eq_true rfl)
  rw [lg_entry_eq]
  generalize (lg_sl ([.ref (b + x0), .int x1]) ++ List.replicate (2 - (lg_sl ([.ref (b + x0), .int x1])).length) Slot.unset).toArray = ls at hl ⊢
  have hl : lv_has ls 2 [(0, .ref (b + x0)), (1, .int x1)] := hl
  generalize ([.ref (b + x0), .int x1] : List Value).toArray = av at hts ⊢
  show W p l e rmX0_isHead s m av below meth c s.heap [] 0 0 _ _
  obtain ⟨QQ, hQQ⟩ : ∃ z, z = MQ below (va_Qi (fun r u => r = o1 ∧ u = (I, L, R)) (QW D ce b kdC lnC 272) (box b 272)) av s 0 0 (box b 272) := ⟨_, rfl⟩
  rw [← hQQ]
  have hret : ∀ (r : Int32), some r = some o1 → ∀ (H1 : Heap) (locs1 : List Loc) (ls1 : Array Slot) (pc1 : Nat), decode cX0_isHead pc1 = .ok (.ireturn, 1) → zb r = true → va_P D vwCl (wd ce b kdC lnC 272 I L R) H1 → WT kdC R → va_S (box b 272) s.heap H1 locs1 → W p l e rmX0_isHead s m av below meth c H1 locs1 0 0 QQ (F0 m pc1 ls1 [.int r]) := by
    intro r hq H1 locs1 ls1 pc1 hd hz hP hT hS
    cases hq
    rw [hQQ]
    exact mm_zret hx hb hr hlocks hz hP hT hS hd
  unfold f_X0_isHead at hf
  obtain ⟨H, hH⟩ : ∃ z, z = s.heap := ⟨_, rfl⟩
  obtain ⟨locs, hlo⟩ : ∃ z : List Loc, z = [] := ⟨_, rfl⟩
  have hP : va_P D vwCl (wd ce b kdC lnC 272 I L R) H := by rw [hH]; exact hP
  have hS : va_S (box b 272) s.heap H locs := by rw [hH, hlo]; exact hS
  rw [show W p l e rmX0_isHead s m av below meth c s.heap [] 0 0 QQ = W p l e rmX0_isHead s m av below meth c H locs 0 0 QQ by rw [hH, hlo]]
  clear hH hlo
  clear hQQ
  show W p l e rmX0_isHead s m av below meth c H locs 0 0 QQ (F0 m 0 ls [])
  refine lv_aload_n hx hb dX0_isHead_0 rfl (lv_at hl 0 rfl) ?_
  refine mm_geti hx hb hts hown hKK hP fk0_7 (Or.inl rfl) lkX0_73 (kdC_lt h0 (Nat.succ_ne_zero _)) h0 dX0_isHead_1 ?_
  refine lv_iload_n hx hb dX0_isHead_4 rfl (lv_at hl 1 rfl) ?_
  refine lv_bipush (v := (97 : Int32)) hx hb dX0_isHead_5 (by decide) ?_
  refine lv_isub hx hb dX0_isHead_7 ?_
  refine lv_iushr (v := (((I x0 7)).toUInt32 >>> (((x1 - (97 : Int32))).toUInt32 &&& Int32.toUInt32 31)).toInt32) hx hb dX0_isHead_8 rfl ?_
  refine lv_iconst (v := (1 : Int32)) hx hb dX0_isHead_9 (by decide) ?_
  refine lv_iand hx hb dX0_isHead_10 ?_
  refine lv_if_eq (tgt := 18) hx hb dX0_isHead_11 (by decide) (fun c1 => ?_) (fun c1 => ?_)
  · have hf := ifT hf c1
    refine lv_iconst (v := (0 : Int32)) hx hb dX0_isHead_18 (by decide) ?_
    exact hret (0 : Int32) hf H locs ls _ dX0_isHead_19 rfl hP hT hS
  · have hf := ifF hf c1
    refine lv_iconst (v := (1 : Int32)) hx hb dX0_isHead_14 (by decide) ?_
    refine lv_goto (tgt := 19) hx hb dX0_isHead_15 (by decide) ?_
    exact hret (1 : Int32) hf H locs ls _ dX0_isHead_19 rfl hP hT hS
def rmX0_collect : Room := { frames := 1, cells := 0, slots := 0, locals := 21 }
set_option maxHeartbeats 4000000 in
set_option maxRecDepth 100000 in
theorem k_X0_collect (l : Launch) (D : va_G) (ce : Nat → ClassId) (b : Nat) (I : mI) (L : mL) (R : mR) (hT : WT kdC R) (x0 : Nat) (x1 : Nat) (h0 : kdC x0 = 6) (h1 : kdC x1 = 13) (o1 : mI) (o2 : mL) (hf : f_X0_collect x0 x1 I L R = some (o1, o2)) : Met l yX0_collect (Cond.code yX0_collect cX0_collect 5 none :: GW) rmX0_collect (va_Pc [.ref (b + x0), .ref (b + x1)] (PW D ce b kdC lnC 272 I L R)) (va_Qv (fun u => u = (o1, o2, R)) (QW D ce b kdC lnC 272) (box b 272)) 0 0 (box b 272) := by
  refine Met.ofW (cc := cX0_collect) (maxL := 5) (ret := none) (by decide) rfl ?_
  intro p e s m args below meth c s₁ B hml hv
  obtain ⟨rfl, hP, hKK⟩ := hv
  have hx := B.exec
  have hb := B.bytes
  have hr := B.returns
  have hts0 := atoms_spec (ws := Cond.code yX0_collect cX0_collect 5 none :: GW) B.pre
  have hts : ∀ w ∈ GW, w.before _ s = true := fun w h => hts0 w (List.mem_cons_of_mem _ h)
  clear hts0
  have hown : s.vm.findClass RX0 = some m.cls := findClass_of_methodNamed B.named
  have hlocks := B.notSynchronized
  have hA : ∀ q, box b 272 q → box b 272 q := fun _ h => h
  have hS : va_S (box b 272) s.heap s.heap [] := va_S.rf
  have hl := lv_entry ([.ref (b + x0), .ref (b + x1)]) (n := 5) (Nat.le_of_ble_eq_true rfl)
  rw [lg_entry_eq]
  generalize (lg_sl ([.ref (b + x0), .ref (b + x1)]) ++ List.replicate (5 - (lg_sl ([.ref (b + x0), .ref (b + x1)])).length) Slot.unset).toArray = ls at hl ⊢
  have hl : lv_has ls 5 [(0, .ref (b + x0)), (1, .ref (b + x1))] := hl
  generalize ([.ref (b + x0), .ref (b + x1)] : List Value).toArray = av at hts ⊢
  show W p l e rmX0_collect s m av below meth c s.heap [] 0 0 _ _
  obtain ⟨QQ, hQQ⟩ : ∃ z, z = MQ below (va_Qv (fun u => u = (o1, o2, R)) (QW D ce b kdC lnC 272) (box b 272)) av s 0 0 (box b 272) := ⟨_, rfl⟩
  rw [← hQQ]
  have hret : ∀ (I1 : mI) (L1 : mL), some (I1, L1) = some (o1, o2) → ∀ (H1 : Heap) (locs1 : List Loc) (ls1 : Array Slot) (pc1 : Nat), decode cX0_collect pc1 = .ok (.return_, 1) → va_P D vwCl (wd ce b kdC lnC 272 I1 L1 R) H1 → WT kdC R → va_S (box b 272) s.heap H1 locs1 → W p l e rmX0_collect s m av below meth c H1 locs1 0 0 QQ (F0 m pc1 ls1 []) := by
    intro I1 L1 hq H1 locs1 ls1 pc1 hd hP hT hS
    cases hq
    rw [hQQ]
    exact mm_vret hx hb hr hlocks hP hT hS hd
  unfold f_X0_collect at hf
  obtain ⟨H, hH⟩ : ∃ z, z = s.heap := ⟨_, rfl⟩
  obtain ⟨locs, hlo⟩ : ∃ z : List Loc, z = [] := ⟨_, rfl⟩
  have hP : va_P D vwCl (wd ce b kdC lnC 272 I L R) H := by rw [hH]; exact hP
  have hS : va_S (box b 272) s.heap H locs := by rw [hH, hlo]; exact hS
  rw [show W p l e rmX0_collect s m av below meth c s.heap [] 0 0 QQ = W p l e rmX0_collect s m av below meth c H locs 0 0 QQ by rw [hH, hlo]]
  clear hH hlo
  clear hQQ
  show W p l e rmX0_collect s m av below meth c H locs 0 0 QQ (F0 m 0 ls [])
  refine lv_aload_n hx hb dX0_collect_0 rfl (lv_at hl 0 rfl) ?_
  refine lv_iconst (v := (0 : Int32)) hx hb dX0_collect_1 (by decide) ?_
  refine jnE hf (fun I1 eI1 hf => ?_)
  refine mm_puti hx hb hts hown hKK hP hA hS fk0_8 (Or.inl rfl) fw0_8 lkX0_34 (kdC_lt h0 (Nat.succ_ne_zero _)) h0 rfl rfl dX0_collect_2 (fun H locs hP hS => ?_)
  rw [← eI1] at hP
  refine lv_iconst (v := (0 : Int32)) hx hb dX0_collect_5 (by decide) ?_
  refine lv_istore_n (lv' := [(2, .int (0 : Int32)), (0, .ref (b + x0)), (1, .ref (b + x1))]) hx hb dX0_collect_6 rfl hl (Nat.le_of_ble_eq_true rfl) rfl (fun ls hl => ?_)
  have lp7 : ∀ (n : Nat) (x0 : Nat) (x1 : Nat) (x2 : Int32) (I : mI) (L : mL) (R : mR) (a1 : mI) (a2 : mL) (H : Heap) (locs : List Loc) (ls : Array Slot), va_P D vwCl (wd ce b kdC lnC 272 I L R) H → va_S (box b 272) s.heap H locs → WT kdC R → kdC x0 = 6 → kdC x1 = 13 → lv_has ls 5 [(0, .ref (b + x0)), (1, .ref (b + x1)), (2, .int x2)] → f_X0_collect_L7 n x0 x1 x2 I L R = some (a1, a2) → (∀ (H1 : Heap) (locs1 : List Loc) (ls1 : Array Slot), va_P D vwCl (wd ce b kdC lnC 272 a1 a2 R) H1 → va_S (box b 272) s.heap H1 locs1 → lv_has ls1 5 [] → W p l e rmX0_collect s m av below meth c H1 locs1 0 0 QQ (F0 m 125 ls1 [])) → W p l e rmX0_collect s m av below meth c H locs 0 0 QQ (F0 m 7 ls []) := by
    intro n
    induction n with
    | zero =>
      intro x0 x1 x2 I L R a1 a2 H locs ls hP hS hT h0 h1 hl hf kx
      exact absurd (show (none : Option (mI × mL)) = some _ from hf) (by simp)
    | succ n ih =>
      intro x0 x1 x2 I L R a1 a2 H locs ls hP hS hT h0 h1 hl hf kx
      rw [f_X0_collect_L7] at hf
      refine lv_iload_n hx hb dX0_collect_7 rfl (lv_at hl 2 rfl) ?_
      refine lv_aload_n hx hb dX0_collect_8 rfl (lv_at hl 1 rfl) ?_
      refine mm_geti hx hb hts hown hKK hP fk7_2 (Or.inl rfl) lkX0_76 (kdC_lt h1 (Nat.succ_ne_zero _)) h1 dX0_collect_9 ?_
      refine lv_icmp_ge (tgt := 125) hx hb dX0_collect_12 (by decide) (fun c2 => ?_) (fun c2 => ?_)
      · have hf := ifT hf c2
        cases hf
        exact kx H locs ls hP hS (lv_sub hl [] rfl)
      · have hf := ifF hf c2
        refine lv_aload_n hx hb dX0_collect_15 rfl (lv_at hl 0 rfl) ?_
        have t3 : kdC (R x0 5) = 2 := wt hT h0 rfl
        refine mm_getr hx hb hts hown hKK hP fk0_5 (Nat.le_of_ble_eq_true rfl) lkX0_28 (kdC_lt h0 (Nat.succ_ne_zero _)) h0 (nC t3 (Nat.succ_ne_zero _)) dX0_collect_16 ?_
        refine lv_iload_n hx hb dX0_collect_19 rfl (lv_at hl 2 rfl) ?_
        refine lv_lconst (v := (0 : Int64)) hx hb dX0_collect_20 (by decide) ?_
        obtain ⟨g4, hf⟩ := grd hf
        refine jnE hf (fun L5 eL5 hf => ?_)
        refine mm_last hx hb hKK hP hA hS (kdC_lt t3 (Nat.succ_ne_zero _)) t3 g4 dX0_collect_21 (fun H locs hP hS => ?_)
        rw [← eL5] at hP
        refine lv_aload_n hx hb dX0_collect_22 rfl (lv_at hl 1 rfl) ?_
        have t6 : kdC (R x1 0) = 4 := wt hT h1 rfl
        refine mm_getr hx hb hts hown hKK hP fk7_0 (Nat.le_of_ble_eq_true rfl) lkX0_38 (kdC_lt h1 (Nat.succ_ne_zero _)) h1 (nC t6 (Nat.succ_ne_zero _)) dX0_collect_23 ?_
        refine lv_iload_n hx hb dX0_collect_26 rfl (lv_at hl 2 rfl) ?_
        obtain ⟨g7, hf⟩ := grd hf
        have t8 : kdC (R (R x1 0) x2.toNatClampNeg) = 9 := wt hT t6 rfl
        refine mm_aald4 hx hb hKK hP (kdC_lt t6 (Nat.succ_ne_zero _)) t6 g7 (nC t8 (Nat.succ_ne_zero _)) dX0_collect_27 ?_
        have t9 : kdC (R (R (R x1 0) x2.toNatClampNeg) 1) = 14 := wt hT t8 rfl
        refine mm_getr hx hb hts hown hKK hP fk3_1 (Nat.le_of_ble_eq_true rfl) lkX0_44 (kdC_lt t8 (Nat.succ_ne_zero _)) t8 (nC t9 (Nat.succ_ne_zero _)) dX0_collect_28 ?_
        refine lv_astore_n (lv' := [(3, .ref (b + (R (R (R x1 0) x2.toNatClampNeg) 1))), (0, .ref (b + x0)), (1, .ref (b + x1)), (2, .int x2)]) hx hb dX0_collect_31 rfl hl (Nat.le_of_ble_eq_true rfl) rfl (fun ls hl => ?_)
        refine lv_iconst (v := (0 : Int32)) hx hb dX0_collect_32 (by decide) ?_
        refine lv_istore (lv' := [(4, .int (0 : Int32)), (3, .ref (b + (R (R (R x1 0) x2.toNatClampNeg) 1))), (0, .ref (b + x0)), (1, .ref (b + x1)), (2, .int x2)]) hx hb dX0_collect_33 hl (Nat.le_of_ble_eq_true rfl) rfl (fun ls hl => ?_)
        have lp35 : ∀ (n : Nat) (x0 : Nat) (x1 : Nat) (x2 : Int32) (x3 : Nat) (x4 : Int32) (I : mI) (L : mL) (R : mR) (a1 : mI) (a2 : mL) (H : Heap) (locs : List Loc) (ls : Array Slot), va_P D vwCl (wd ce b kdC lnC 272 I L R) H → va_S (box b 272) s.heap H locs → WT kdC R → kdC x0 = 6 → kdC x1 = 13 → kdC x3 = 14 → lv_has ls 5 [(0, .ref (b + x0)), (1, .ref (b + x1)), (2, .int x2), (3, .ref (b + x3)), (4, .int x4)] → f_X0_collect_L35 n x0 x1 x2 x3 x4 I L R = some (a1, a2) → (∀ (H1 : Heap) (locs1 : List Loc) (ls1 : Array Slot), va_P D vwCl (wd ce b kdC lnC 272 a1 a2 R) H1 → va_S (box b 272) s.heap H1 locs1 → lv_has ls1 5 [(0, .ref (b + x0)), (1, .ref (b + x1)), (2, .int x2)] → W p l e rmX0_collect s m av below meth c H1 locs1 0 0 QQ (F0 m 119 ls1 [])) → W p l e rmX0_collect s m av below meth c H locs 0 0 QQ (F0 m 35 ls []) := by
          intro n
          induction n with
          | zero =>
            intro x0 x1 x2 x3 x4 I L R a1 a2 H locs ls hP hS hT h0 h1 h3 hl hf kx
            exact absurd (show (none : Option (mI × mL)) = some _ from hf) (by simp)
          | succ n ih =>
            intro x0 x1 x2 x3 x4 I L R a1 a2 H locs ls hP hS hT h0 h1 h3 hl hf kx
            rw [f_X0_collect_L35] at hf
            refine lv_iload hx hb dX0_collect_35 (lv_at hl 4 rfl) ?_
            refine lv_aload_n hx hb dX0_collect_37 rfl (lv_at hl 3 rfl) ?_
            refine mm_geti hx hb hts hown hKK hP fk8_2 (Or.inl rfl) lkX0_83 (kdC_lt h3 (Nat.succ_ne_zero _)) h3 dX0_collect_38 ?_
            refine lv_icmp_ge (tgt := 119) hx hb dX0_collect_41 (by decide) (fun c10 => ?_) (fun c10 => ?_)
            · have hf := ifT hf c10
              cases hf
              exact kx H locs ls hP hS (lv_sub hl [0, 1, 2] rfl)
            · have hf := ifF hf c10
              refine lv_aload_n hx hb dX0_collect_44 rfl (lv_at hl 0 rfl) ?_
              refine lv_aload_n hx hb dX0_collect_45 rfl (lv_at hl 3 rfl) ?_
              have t11 : kdC (R x3 0) = 1 := wt hT h3 rfl
              refine mm_getr hx hb hts hown hKK hP fk8_0 (Nat.le_of_ble_eq_true rfl) lkX0_80 (kdC_lt h3 (Nat.succ_ne_zero _)) h3 (nC t11 (Nat.succ_ne_zero _)) dX0_collect_46 ?_
              refine lv_iload hx hb dX0_collect_49 (lv_at hl 4 rfl) ?_
              obtain ⟨g12, hf⟩ := grd hf
              refine mm_iald hx hb hKK hP (kdC_lt t11 (Nat.succ_ne_zero _)) t11 g12 dX0_collect_51 ?_
              obtain ⟨r13, e13, hf⟩ := bd1_o hf
              refine mm_Vi (rest := []) hx hb hml hown hts hKK hP hS hA (kdC_lt h0 (Nat.succ_ne_zero _)) h0 (show vwCl[0]? = some (yX0_isHead.cls, TX0, 11) from rfl) vkX0_86 (k_X0_isHead l D ce b I L R hT x0 (I (R x3 0) x4.toNatClampNeg) h0 r13 e13) rfl hl.1 rfl (Nat.le_of_ble_eq_true rfl) ⟨rfl, rfl⟩ ⟨Nat.le_of_ble_eq_true rfl, Nat.le_of_ble_eq_true rfl⟩ ⟨Nat.zero_le _, Nat.zero_le _⟩ dX0_collect_52 (fun H locs hP hT hS => ?_)
              refine jnE hf (fun j113_14 ej_14 hf => ?_)
              have hJ113_14 : ∀ (I_14 : mI) (L_14 : mL) (H : Heap) (locs : List Loc) (ls : Array Slot), va_P D vwCl (wd ce b kdC lnC 272 I_14 L_14 R) H → va_S (box b 272) s.heap H locs → lv_has ls 5 [(0, .ref (b + x0)), (1, .ref (b + x1)), (2, .int x2), (3, .ref (b + x3)), (4, .int x4)] → j113_14 I_14 L_14 = some (a1, a2) → W p l e rmX0_collect s m av below meth c H locs 0 0 QQ (F0 m 113 ls []) := by
                intro I_14 L_14 H locs ls hP hS  hl hf
                rw [ej_14] at hf
                try dsimp only at hf
                refine lv_iinc (v := (x4 + (1 : Int32))) (lv' := [(4, .int (x4 + (1 : Int32))), (0, .ref (b + x0)), (1, .ref (b + x1)), (2, .int x2), (3, .ref (b + x3))]) hx hb dX0_collect_113 hl (k := 4) rfl rfl (Nat.le_of_ble_eq_true rfl) rfl (fun ls hl => ?_)
                refine lv_goto (tgt := 35) hx hb dX0_collect_116 (by decide) ?_
                exact ih x0 x1 x2 x3 (x4 + (1 : Int32)) I_14 L_14 R a1 a2 H locs ls hP hS hT h0 h1 h3 (lv_sub hl [1, 2, 3, 4, 0] rfl) hf kx
              clear ej_14
              refine lv_if_eq (tgt := 113) hx hb dX0_collect_55 (by decide) (fun c15 => ?_) (fun c15 => ?_)
              · have hf := ifT hf c15
                exact hJ113_14 I L H locs ls hP hS  (lv_sub hl [0, 1, 2, 3, 4] rfl) hf
              · have hf := ifF hf c15
                refine lv_aload_n hx hb dX0_collect_58 rfl (lv_at hl 0 rfl) ?_
                refine mm_geti hx hb hts hown hKK hP fk0_8 (Or.inl rfl) lkX0_34 (kdC_lt h0 (Nat.succ_ne_zero _)) h0 dX0_collect_59 ?_
                refine lv_bipush (v := (60 : Int32)) hx hb dX0_collect_62 (by decide) ?_
                refine lv_icmp_ge (tgt := 113) hx hb dX0_collect_64 (by decide) (fun c16 => ?_) (fun c16 => ?_)
                · have hf := ifT hf c16
                  exact hJ113_14 I L H locs ls hP hS  (lv_sub hl [0, 1, 2, 3, 4] rfl) hf
                · have hf := ifF hf c16
                  refine lv_aload_n hx hb dX0_collect_67 rfl (lv_at hl 0 rfl) ?_
                  have t17 : kdC (R x0 0) = 1 := wt hT h0 rfl
                  refine mm_getr hx hb hts hown hKK hP fk0_0 (Nat.le_of_ble_eq_true rfl) lkX0_9 (kdC_lt h0 (Nat.succ_ne_zero _)) h0 (nC t17 (Nat.succ_ne_zero _)) dX0_collect_68 ?_
                  refine lv_aload_n hx hb dX0_collect_71 rfl (lv_at hl 0 rfl) ?_
                  refine mm_geti hx hb hts hown hKK hP fk0_8 (Or.inl rfl) lkX0_34 (kdC_lt h0 (Nat.succ_ne_zero _)) h0 dX0_collect_72 ?_
                  refine lv_iload_n hx hb dX0_collect_75 rfl (lv_at hl 2 rfl) ?_
                  obtain ⟨g18, hf⟩ := grd hf
                  refine jnE hf (fun I19 eI19 hf => ?_)
                  refine mm_iast hx hb hKK hP hA hS (kdC_lt t17 (Nat.succ_ne_zero _)) t17 g18 dX0_collect_76 (fun H locs hP hS => ?_)
                  rw [← eI19] at hP
                  refine lv_aload_n hx hb dX0_collect_77 rfl (lv_at hl 0 rfl) ?_
                  have t20 : kdC (R x0 1) = 1 := wt hT h0 rfl
                  refine mm_getr hx hb hts hown hKK hP fk0_1 (Nat.le_of_ble_eq_true rfl) lkX0_15 (kdC_lt h0 (Nat.succ_ne_zero _)) h0 (nC t20 (Nat.succ_ne_zero _)) dX0_collect_78 ?_
                  refine lv_aload_n hx hb dX0_collect_81 rfl (lv_at hl 0 rfl) ?_
                  refine mm_geti hx hb hts hown hKK hP fk0_8 (Or.inl rfl) lkX0_34 (kdC_lt h0 (Nat.succ_ne_zero _)) h0 dX0_collect_82 ?_
                  refine lv_iload hx hb dX0_collect_85 (lv_at hl 4 rfl) ?_
                  obtain ⟨g21, hf⟩ := grd hf
                  refine jnE hf (fun I22 eI22 hf => ?_)
                  refine mm_iast hx hb hKK hP hA hS (kdC_lt t20 (Nat.succ_ne_zero _)) t20 g21 dX0_collect_87 (fun H locs hP hS => ?_)
                  rw [← eI22] at hP
                  refine lv_aload_n hx hb dX0_collect_88 rfl (lv_at hl 0 rfl) ?_
                  have t23 : kdC (R x0 5) = 2 := wt hT h0 rfl
                  refine mm_getr hx hb hts hown hKK hP fk0_5 (Nat.le_of_ble_eq_true rfl) lkX0_28 (kdC_lt h0 (Nat.succ_ne_zero _)) h0 (nC t23 (Nat.succ_ne_zero _)) dX0_collect_89 ?_
                  refine lv_iload_n hx hb dX0_collect_92 rfl (lv_at hl 2 rfl) ?_
                  refine lv_dup2_11 hx hb dX0_collect_93 rfl rfl ?_
                  obtain ⟨g24, hf⟩ := grd hf
                  refine mm_lald hx hb hKK hP (kdC_lt t23 (Nat.succ_ne_zero _)) t23 g24 dX0_collect_94 ?_
                  refine lv_lconst (v := (1 : Int64)) hx hb dX0_collect_95 (by decide) ?_
                  refine lv_aload_n hx hb dX0_collect_96 rfl (lv_at hl 0 rfl) ?_
                  refine mm_geti hx hb hts hown hKK hP fk0_8 (Or.inl rfl) lkX0_34 (kdC_lt h0 (Nat.succ_ne_zero _)) h0 dX0_collect_97 ?_
                  refine lv_lshl (v := ((1 : Int64) <<< (((I22 x0 8)).toInt64 &&& 63))) hx hb dX0_collect_100 rfl ?_
                  refine lv_lor hx hb dX0_collect_101 ?_
                  refine jnE hf (fun L25 eL25 hf => ?_)
                  refine mm_last hx hb hKK hP hA hS (kdC_lt t23 (Nat.succ_ne_zero _)) t23 g24 dX0_collect_102 (fun H locs hP hS => ?_)
                  rw [← eL25] at hP
                  refine lv_aload_n hx hb dX0_collect_103 rfl (lv_at hl 0 rfl) ?_
                  refine lv_dup hx hb dX0_collect_104 rfl ?_
                  refine mm_geti hx hb hts hown hKK hP fk0_8 (Or.inl rfl) lkX0_34 (kdC_lt h0 (Nat.succ_ne_zero _)) h0 dX0_collect_105 ?_
                  refine lv_iconst (v := (1 : Int32)) hx hb dX0_collect_108 (by decide) ?_
                  refine lv_iadd hx hb dX0_collect_109 ?_
                  refine jnE hf (fun I26 eI26 hf => ?_)
                  refine mm_puti hx hb hts hown hKK hP hA hS fk0_8 (Or.inl rfl) fw0_8 lkX0_34 (kdC_lt h0 (Nat.succ_ne_zero _)) h0 rfl rfl dX0_collect_110 (fun H locs hP hS => ?_)
                  rw [← eI26] at hP
                  exact hJ113_14 I26 L25 H locs ls hP hS  (lv_sub hl [0, 1, 2, 3, 4] rfl) hf
        obtain ⟨I_27, L_27, e_27, hf⟩ := bd2_o hf
        refine lp35 FU x0 x1 x2 (R (R (R x1 0) x2.toNatClampNeg) 1) (0 : Int32) I L5 R I_27 L_27 H locs ls hP hS hT h0 h1 t9 (lv_sub hl [2, 3, 4, 1, 0] rfl) e_27 (fun H locs ls hP hS hl => ?_)
        refine lv_iinc (v := (x2 + (1 : Int32))) (lv' := [(2, .int (x2 + (1 : Int32))), (0, .ref (b + x0)), (1, .ref (b + x1))]) hx hb dX0_collect_119 hl (k := 2) rfl rfl (Nat.le_of_ble_eq_true rfl) rfl (fun ls hl => ?_)
        refine lv_goto (tgt := 7) hx hb dX0_collect_122 (by decide) ?_
        exact ih x0 x1 (x2 + (1 : Int32)) I_27 L_27 R a1 a2 H locs ls hP hS hT h0 h1 (lv_sub hl [1, 2, 0] rfl) hf kx
  obtain ⟨I_28, L_28, e_28, hf⟩ := bd2_o hf
  refine lp7 FU x0 x1 (0 : Int32) I1 L R I_28 L_28 H locs ls hP hS hT h0 h1 (lv_sub hl [1, 2, 0] rfl) e_28 (fun H locs ls hP hS hl => ?_)
  exact hret I_28 L_28 hf H locs ls _ dX0_collect_125 hP hT hS
def rmX10_isUnknown : Room := { frames := 0, cells := 0, slots := 0, locals := 0 }
set_option maxHeartbeats 4000000 in
set_option maxRecDepth 100000 in
theorem k_X10_isUnknown (l : Launch) (D : va_G) (ce : Nat → ClassId) (b : Nat) (I : mI) (L : mL) (R : mR) (hT : WT kdC R) (x0 : Int32)  (o1 : Int32) (hf : f_X10_isUnknown x0  = some o1) : Met l yX10_isUnknown (Cond.code yX10_isUnknown cX10_isUnknown 1 (some .boolean) :: GW) rmX10_isUnknown (va_Pc [.int x0] (PW D ce b kdC lnC 272 I L R)) (va_Qi (fun r u => r = o1 ∧ u = (I, L, R)) (QW D ce b kdC lnC 272) (box b 272)) 0 0 (box b 272) := by
  refine Met.ofW (cc := cX10_isUnknown) (maxL := 1) (ret := (some .boolean)) (by decide) rfl ?_
  intro p e s m args below meth c s₁ B hml hv
  obtain ⟨rfl, hP, hKK⟩ := hv
  have hx := B.exec
  have hb := B.bytes
  have hr := B.returns
  have hts0 := atoms_spec (ws := Cond.code yX10_isUnknown cX10_isUnknown 1 (some .boolean) :: GW) B.pre
  have hts : ∀ w ∈ GW, w.before _ s = true := fun w h => hts0 w (List.mem_cons_of_mem _ h)
  clear hts0
  have hown : s.vm.findClass RX10 = some m.cls := findClass_of_methodNamed B.named
  have hlocks := B.notSynchronized
  have hA : ∀ q, box b 272 q → box b 272 q := fun _ h => h
  have hS : va_S (box b 272) s.heap s.heap [] := va_S.rf
  have hl := lv_entry ([.int x0]) (n := 1) (Nat.le_of_ble_eq_true rfl)
  rw [lg_entry_eq]
  generalize (lg_sl ([.int x0]) ++ List.replicate (1 - (lg_sl ([.int x0])).length) Slot.unset).toArray = ls at hl ⊢
  have hl : lv_has ls 1 [(0, .int x0)] := hl
  generalize ([.int x0] : List Value).toArray = av at hts ⊢
  show W p l e rmX10_isUnknown s m av below meth c s.heap [] 0 0 _ _
  obtain ⟨QQ, hQQ⟩ : ∃ z, z = MQ below (va_Qi (fun r u => r = o1 ∧ u = (I, L, R)) (QW D ce b kdC lnC 272) (box b 272)) av s 0 0 (box b 272) := ⟨_, rfl⟩
  rw [← hQQ]
  have hret : ∀ (r : Int32), some r = some o1 → ∀ (H1 : Heap) (locs1 : List Loc) (ls1 : Array Slot) (pc1 : Nat), decode cX10_isUnknown pc1 = .ok (.ireturn, 1) → zb r = true → va_P D vwCl (wd ce b kdC lnC 272 I L R) H1 → WT kdC R → va_S (box b 272) s.heap H1 locs1 → W p l e rmX10_isUnknown s m av below meth c H1 locs1 0 0 QQ (F0 m pc1 ls1 [.int r]) := by
    intro r hq H1 locs1 ls1 pc1 hd hz hP hT hS
    cases hq
    rw [hQQ]
    exact mm_zret hx hb hr hlocks hz hP hT hS hd
  unfold f_X10_isUnknown at hf
  obtain ⟨H, hH⟩ : ∃ z, z = s.heap := ⟨_, rfl⟩
  obtain ⟨locs, hlo⟩ : ∃ z : List Loc, z = [] := ⟨_, rfl⟩
  have hP : va_P D vwCl (wd ce b kdC lnC 272 I L R) H := by rw [hH]; exact hP
  have hS : va_S (box b 272) s.heap H locs := by rw [hH, hlo]; exact hS
  rw [show W p l e rmX10_isUnknown s m av below meth c s.heap [] 0 0 QQ = W p l e rmX10_isUnknown s m av below meth c H locs 0 0 QQ by rw [hH, hlo]]
  clear hH hlo
  clear hQQ
  show W p l e rmX10_isUnknown s m av below meth c H locs 0 0 QQ (F0 m 0 ls [])
  refine lv_iload_n hx hb dX10_isUnknown_0 rfl (lv_at hl 0 rfl) ?_
  refine lv_bipush (v := (120 : Int32)) hx hb dX10_isUnknown_1 (by decide) ?_
  refine jnE hf (fun j12_1 ej_1 hf => ?_)
  have hJ12_1 : ∀ (H : Heap) (locs : List Loc) (ls : Array Slot), va_P D vwCl (wd ce b kdC lnC 272 I L R) H → va_S (box b 272) s.heap H locs → lv_has ls 1 [] → j12_1  = some o1 → W p l e rmX10_isUnknown s m av below meth c H locs 0 0 QQ (F0 m 12 ls []) := by
    intro  H locs ls hP hS  hl hf
    rw [ej_1] at hf
    try dsimp only at hf
    refine lv_iconst (v := (1 : Int32)) hx hb dX10_isUnknown_12 (by decide) ?_
    refine lv_goto (tgt := 17) hx hb dX10_isUnknown_13 (by decide) ?_
    exact hret (1 : Int32) hf H locs ls _ dX10_isUnknown_17 rfl hP hT hS
  clear ej_1
  refine lv_icmp_eq (tgt := 12) hx hb dX10_isUnknown_3 (by decide) (fun c2 => ?_) (fun c2 => ?_)
  · have hf := ifT hf c2
    exact hJ12_1  H locs ls hP hS  (lv_sub hl [] rfl) hf
  · have hf := ifF hf c2
    refine lv_iload_n hx hb dX10_isUnknown_6 rfl (lv_at hl 0 rfl) ?_
    refine lv_bipush (v := (121 : Int32)) hx hb dX10_isUnknown_7 (by decide) ?_
    refine lv_icmp_ne (tgt := 16) hx hb dX10_isUnknown_9 (by decide) (fun c3 => ?_) (fun c3 => ?_)
    · have hf := ifF hf c3
      refine lv_iconst (v := (0 : Int32)) hx hb dX10_isUnknown_16 (by decide) ?_
      exact hret (0 : Int32) hf H locs ls _ dX10_isUnknown_17 rfl hP hT hS
    · have hf := ifT hf c3
      exact hJ12_1  H locs ls hP hS  (lv_sub hl [] rfl) hf
