def rmX5_writeSide : Room := { frames := 2, cells := 0, slots := 0, locals := 44 }
set_option maxHeartbeats 4000000 in
set_option maxRecDepth 100000 in
theorem k_X5_writeSide (l : Launch) (D : va_G) (ce : Nat → ClassId) (b : Nat) (I : mI) (L : mL) (R : mR) (hT : WT kdC R) (x0 : Nat) (x1 : Nat) (h0 : kdC x0 = 11) (h1 : kdC x1 = 14) (o1 : mI) (hf : f_X5_writeSide x0 x1 I R = some o1) : Met l yX5_writeSide (Cond.code yX5_writeSide cX5_writeSide 3 none :: GW) rmX5_writeSide (va_Pc [.ref (b + x0), .ref (b + x1)] (PW D ce b kdC lnC 272 I L R)) (va_Qv (fun u => u = (o1, L, R)) (QW D ce b kdC lnC 272) (box b 272)) 0 0 (box b 272) := by
  refine Met.ofW (cc := cX5_writeSide) (maxL := 3) (ret := none) (by decide) rfl ?_
  intro p e s m args below meth c s₁ B hml hv
  obtain ⟨rfl, hP, hKK⟩ := hv
  have hx := B.exec
  have hb := B.bytes
  have hr := B.returns
  have hts0 := atoms_spec (ws := Cond.code yX5_writeSide cX5_writeSide 3 none :: GW) B.pre
  have hts : ∀ w ∈ GW, w.before _ s = true := fun w h => hts0 w (List.mem_cons_of_mem _ h)
  clear hts0
  have hown : s.vm.findClass RX5 = some m.cls := findClass_of_methodNamed B.named
  have hlocks := B.notSynchronized
  have hA : ∀ q, box b 272 q → box b 272 q := fun _ h => h
  have hS : va_S (box b 272) s.heap s.heap [] := va_S.rf
  have hl := lv_entry ([.ref (b + x0), .ref (b + x1)]) (n := 3) (Nat.le_of_ble_eq_true rfl)
  rw [lg_entry_eq]
  generalize (lg_sl ([.ref (b + x0), .ref (b + x1)]) ++ List.replicate (3 - (lg_sl ([.ref (b + x0), .ref (b + x1)])).length) Slot.unset).toArray = ls at hl ⊢
  have hl : lv_has ls 3 [(0, .ref (b + x0)), (1, .ref (b + x1))] := hl
  generalize ([.ref (b + x0), .ref (b + x1)] : List Value).toArray = av at hts ⊢
  show W p l e rmX5_writeSide s m av below meth c s.heap [] 0 0 _ _
  obtain ⟨QQ, hQQ⟩ : ∃ z, z = MQ below (va_Qv (fun u => u = (o1, L, R)) (QW D ce b kdC lnC 272) (box b 272)) av s 0 0 (box b 272) := ⟨_, rfl⟩
  rw [← hQQ]
  have hret : ∀ (I1 : mI), some I1 = some o1 → ∀ (H1 : Heap) (locs1 : List Loc) (ls1 : Array Slot) (pc1 : Nat), decode cX5_writeSide pc1 = .ok (.return_, 1) → va_P D vwCl (wd ce b kdC lnC 272 I1 L R) H1 → WT kdC R → va_S (box b 272) s.heap H1 locs1 → W p l e rmX5_writeSide s m av below meth c H1 locs1 0 0 QQ (F0 m pc1 ls1 []) := by
    intro I1 hq H1 locs1 ls1 pc1 hd hP hT hS
    cases hq
    rw [hQQ]
    exact mm_vret hx hb hr hlocks hP hT hS hd
  unfold f_X5_writeSide at hf
  obtain ⟨H, hH⟩ : ∃ z, z = s.heap := ⟨_, rfl⟩
  obtain ⟨locs, hlo⟩ : ∃ z : List Loc, z = [] := ⟨_, rfl⟩
  have hP : va_P D vwCl (wd ce b kdC lnC 272 I L R) H := by rw [hH]; exact hP
  have hS : va_S (box b 272) s.heap H locs := by rw [hH, hlo]; exact hS
  rw [show W p l e rmX5_writeSide s m av below meth c s.heap [] 0 0 QQ = W p l e rmX5_writeSide s m av below meth c H locs 0 0 QQ by rw [hH, hlo]]
  clear hH hlo
  clear hQQ
  show W p l e rmX5_writeSide s m av below meth c H locs 0 0 QQ (F0 m 0 ls [])
  refine lv_iconst (v := (0 : Int32)) hx hb dX5_writeSide_0 (by decide) ?_
  refine lv_istore_n (lv' := [(2, .int (0 : Int32)), (0, .ref (b + x0)), (1, .ref (b + x1))]) hx hb dX5_writeSide_1 rfl hl (Nat.le_of_ble_eq_true rfl) rfl (fun ls hl => ?_)
  have lp2 : ∀ (n : Nat) (x0 : Nat) (x1 : Nat) (x2 : Int32) (I : mI) (L : mL) (R : mR) (a1 : mI) (H : Heap) (locs : List Loc) (ls : Array Slot), va_P D vwCl (wd ce b kdC lnC 272 I L R) H → va_S (box b 272) s.heap H locs → WT kdC R → kdC x0 = 11 → kdC x1 = 14 → lv_has ls 3 [(0, .ref (b + x0)), (1, .ref (b + x1)), (2, .int x2)] → f_X5_writeSide_L2 n x0 x1 x2 I R = some a1 → (∀ (H1 : Heap) (locs1 : List Loc) (ls1 : Array Slot), va_P D vwCl (wd ce b kdC lnC 272 a1 L R) H1 → va_S (box b 272) s.heap H1 locs1 → lv_has ls1 3 [] → W p l e rmX5_writeSide s m av below meth c H1 locs1 0 0 QQ (F0 m 55 ls1 [])) → W p l e rmX5_writeSide s m av below meth c H locs 0 0 QQ (F0 m 2 ls []) := by
    intro n
    induction n with
    | zero =>
      intro x0 x1 x2 I L R a1 H locs ls hP hS hT h0 h1 hl hf kx
      exact absurd (show (none : Option (mI)) = some _ from hf) (by simp)
    | succ n ih =>
      intro x0 x1 x2 I L R a1 H locs ls hP hS hT h0 h1 hl hf kx
      rw [f_X5_writeSide_L2] at hf
      refine lv_iload_n hx hb dX5_writeSide_2 rfl (lv_at hl 2 rfl) ?_
      refine lv_aload_n hx hb dX5_writeSide_3 rfl (lv_at hl 1 rfl) ?_
      refine mm_geti hx hb hts hown hKK hP fk8_2 (Or.inl rfl) lkX5_36 (kdC_lt h1 (Nat.succ_ne_zero _)) h1 dX5_writeSide_4 ?_
      refine lv_icmp_ge (tgt := 55) hx hb dX5_writeSide_7 (by decide) (fun c1 => ?_) (fun c1 => ?_)
      · have hf := ifT hf c1
        cases hf
        exact kx H locs ls hP hS (lv_sub hl [] rfl)
      · have hf := ifF hf c1
        refine lv_aload_n hx hb dX5_writeSide_10 rfl (lv_at hl 0 rfl) ?_
        refine lv_aload_n hx hb dX5_writeSide_11 rfl (lv_at hl 1 rfl) ?_
        have t2 : kdC (R x1 0) = 1 := wt hT h1 rfl
        refine mm_getr hx hb hts hown hKK hP fk8_0 (Nat.le_of_ble_eq_true rfl) lkX5_39 (kdC_lt h1 (Nat.succ_ne_zero _)) h1 (nC t2 (Nat.succ_ne_zero _)) dX5_writeSide_12 ?_
        refine lv_iload_n hx hb dX5_writeSide_15 rfl (lv_at hl 2 rfl) ?_
        obtain ⟨g3, hf⟩ := grd hf
        refine mm_iald hx hb hKK hP (kdC_lt t2 (Nat.succ_ne_zero _)) t2 g3 dX5_writeSide_16 ?_
        obtain ⟨I4, e4, hf⟩ := bd1_o hf
        refine mm_Vv (rest := []) hx hb hml hown hts hKK hP hS hA (kdC_lt h0 (Nat.succ_ne_zero _)) h0 (show vwCl[5]? = some (yX5_put.cls, TX5, 2) from rfl) vkX5_29 (k_X5_put l D ce b I L R hT x0 (I (R x1 0) x2.toNatClampNeg) h0 I4 e4) rfl hl.1 rfl (Nat.le_of_ble_eq_true rfl) ⟨rfl, rfl⟩ ⟨Nat.le_of_ble_eq_true rfl, Nat.le_of_ble_eq_true rfl⟩ ⟨Nat.zero_le _, Nat.zero_le _⟩ dX5_writeSide_17 (fun H locs hP hT hS => ?_)
        refine lv_aload_n hx hb dX5_writeSide_20 rfl (lv_at hl 1 rfl) ?_
        refine mm_getr hx hb hts hown hKK hP fk8_0 (Nat.le_of_ble_eq_true rfl) lkX5_39 (kdC_lt h1 (Nat.succ_ne_zero _)) h1 (nC t2 (Nat.succ_ne_zero _)) dX5_writeSide_21 ?_
        refine lv_iload_n hx hb dX5_writeSide_24 rfl (lv_at hl 2 rfl) ?_
        refine mm_iald hx hb hKK hP (kdC_lt t2 (Nat.succ_ne_zero _)) t2 g3 dX5_writeSide_25 ?_
        obtain ⟨r5, e5, hf⟩ := bd1_o hf
        refine mm_Ni (rest := []) hx hb hml hown hts hKK hP hS hA nkX5_42 (k_X10_partsBehind l D ce b I4 L R hT (I4 (R x1 0) x2.toNatClampNeg)  r5 e5) rfl hl.1 rfl (Nat.le_of_ble_eq_true rfl) ⟨rfl, rfl⟩ ⟨Nat.le_of_ble_eq_true rfl, Nat.le_of_ble_eq_true rfl⟩ ⟨Nat.zero_le _, Nat.zero_le _⟩ dX5_writeSide_26 (fun H locs hP hT hS => ?_)
        refine jnE hf (fun j49_6 ej_6 hf => ?_)
        have hJ49_6 : ∀ (I_6 : mI) (H : Heap) (locs : List Loc) (ls : Array Slot), va_P D vwCl (wd ce b kdC lnC 272 I_6 L R) H → va_S (box b 272) s.heap H locs → lv_has ls 3 [(0, .ref (b + x0)), (1, .ref (b + x1)), (2, .int x2)] → j49_6 I_6 = some a1 → W p l e rmX5_writeSide s m av below meth c H locs 0 0 QQ (F0 m 49 ls []) := by
          intro I_6 H locs ls hP hS  hl hf
          rw [ej_6] at hf
          try dsimp only at hf
          refine lv_iinc (v := (x2 + (1 : Int32))) (lv' := [(2, .int (x2 + (1 : Int32))), (0, .ref (b + x0)), (1, .ref (b + x1))]) hx hb dX5_writeSide_49 hl (k := 2) rfl rfl (Nat.le_of_ble_eq_true rfl) rfl (fun ls hl => ?_)
          refine lv_goto (tgt := 2) hx hb dX5_writeSide_52 (by decide) ?_
          exact ih x0 x1 (x2 + (1 : Int32)) I_6 L R a1 H locs ls hP hS hT h0 h1 (lv_sub hl [1, 2, 0] rfl) hf kx
        clear ej_6
        refine lv_if_le (tgt := 41) hx hb dX5_writeSide_29 (by decide) (fun c7 => ?_) (fun c7 => ?_)
        · have hf := ifT hf c7
          refine lv_aload_n hx hb dX5_writeSide_41 rfl (lv_at hl 0 rfl) ?_
          refine lv_aload_n hx hb dX5_writeSide_42 rfl (lv_at hl 1 rfl) ?_
          refine lv_iload_n hx hb dX5_writeSide_43 rfl (lv_at hl 2 rfl) ?_
          refine lv_iconst (v := (1 : Int32)) hx hb dX5_writeSide_44 (by decide) ?_
          refine lv_iadd hx hb dX5_writeSide_45 ?_
          obtain ⟨I8, e8, hf⟩ := bd1_o hf
          refine mm_Vv (rest := []) hx hb hml hown hts hKK hP hS hA (kdC_lt h0 (Nat.succ_ne_zero _)) h0 (show vwCl[5]? = some (yX5_writeBehind.cls, TX5, 2) from rfl) vkX5_46 (k_X5_writeBehind l D ce b I4 L R hT x0 x1 (x2 + (1 : Int32)) h0 h1 I8 e8) rfl hl.1 rfl (Nat.le_of_ble_eq_true rfl) ⟨rfl, rfl⟩ ⟨Nat.le_of_ble_eq_true rfl, Nat.le_of_ble_eq_true rfl⟩ ⟨Nat.zero_le _, Nat.zero_le _⟩ dX5_writeSide_46 (fun H locs hP hT hS => ?_)
          exact hJ49_6 I8 H locs ls hP hS  (lv_sub hl [0, 1, 2] rfl) hf
        · have hf := ifF hf c7
          refine lv_aload_n hx hb dX5_writeSide_32 rfl (lv_at hl 0 rfl) ?_
          refine lv_bipush (v := (40 : Int32)) hx hb dX5_writeSide_33 (by decide) ?_
          obtain ⟨I9, e9, hf⟩ := bd1_o hf
          refine mm_Vv (rest := []) hx hb hml hown hts hKK hP hS hA (kdC_lt h0 (Nat.succ_ne_zero _)) h0 (show vwCl[5]? = some (yX5_put.cls, TX5, 2) from rfl) vkX5_29 (k_X5_put l D ce b I4 L R hT x0 (40 : Int32) h0 I9 e9) rfl hl.1 rfl (Nat.le_of_ble_eq_true rfl) ⟨rfl, rfl⟩ ⟨Nat.le_of_ble_eq_true rfl, Nat.le_of_ble_eq_true rfl⟩ ⟨Nat.zero_le _, Nat.zero_le _⟩ dX5_writeSide_35 (fun H locs hP hT hS => ?_)
          refine lv_goto (tgt := 49) hx hb dX5_writeSide_38 (by decide) ?_
          exact hJ49_6 I9 H locs ls hP hS  (lv_sub hl [0, 1, 2] rfl) hf
  obtain ⟨I_10, e_10, hf⟩ := bd1_o hf
  refine lp2 FU x0 x1 (0 : Int32) I L R I_10 H locs ls hP hS hT h0 h1 (lv_sub hl [1, 2, 0] rfl) e_10 (fun H locs ls hP hS hl => ?_)
  exact hret I_10 hf H locs ls _ dX5_writeSide_55 hP hT hS
def rmX5_writeRule : Room := { frames := 3, cells := 0, slots := 0, locals := 66 }
set_option maxHeartbeats 4000000 in
set_option maxRecDepth 100000 in
theorem k_X5_writeRule (l : Launch) (D : va_G) (ce : Nat → ClassId) (b : Nat) (I : mI) (L : mL) (R : mR) (hT : WT kdC R) (x0 : Nat) (x1 : Nat) (h0 : kdC x0 = 11) (h1 : kdC x1 = 9) (o1 : mI) (hf : f_X5_writeRule x0 x1 I R = some o1) : Met l yX5_writeRule (Cond.code yX5_writeRule cX5_writeRule 2 none :: GW) rmX5_writeRule (va_Pc [.ref (b + x0), .ref (b + x1)] (PW D ce b kdC lnC 272 I L R)) (va_Qv (fun u => u = (o1, L, R)) (QW D ce b kdC lnC 272) (box b 272)) 0 0 (box b 272) := by
  refine Met.ofW (cc := cX5_writeRule) (maxL := 2) (ret := none) (by decide) rfl ?_
  intro p e s m args below meth c s₁ B hml hv
  obtain ⟨rfl, hP, hKK⟩ := hv
  have hx := B.exec
  have hb := B.bytes
  have hr := B.returns
  have hts0 := atoms_spec (ws := Cond.code yX5_writeRule cX5_writeRule 2 none :: GW) B.pre
  have hts : ∀ w ∈ GW, w.before _ s = true := fun w h => hts0 w (List.mem_cons_of_mem _ h)
  clear hts0
  have hown : s.vm.findClass RX5 = some m.cls := findClass_of_methodNamed B.named
  have hlocks := B.notSynchronized
  have hA : ∀ q, box b 272 q → box b 272 q := fun _ h => h
  have hS : va_S (box b 272) s.heap s.heap [] := va_S.rf
  have hl := lv_entry ([.ref (b + x0), .ref (b + x1)]) (n := 2) (Nat.le_of_ble_eq_true rfl)
  rw [lg_entry_eq]
  generalize (lg_sl ([.ref (b + x0), .ref (b + x1)]) ++ List.replicate (2 - (lg_sl ([.ref (b + x0), .ref (b + x1)])).length) Slot.unset).toArray = ls at hl ⊢
  have hl : lv_has ls 2 [(0, .ref (b + x0)), (1, .ref (b + x1))] := hl
  generalize ([.ref (b + x0), .ref (b + x1)] : List Value).toArray = av at hts ⊢
  show W p l e rmX5_writeRule s m av below meth c s.heap [] 0 0 _ _
  obtain ⟨QQ, hQQ⟩ : ∃ z, z = MQ below (va_Qv (fun u => u = (o1, L, R)) (QW D ce b kdC lnC 272) (box b 272)) av s 0 0 (box b 272) := ⟨_, rfl⟩
  rw [← hQQ]
  have hret : ∀ (I1 : mI), some I1 = some o1 → ∀ (H1 : Heap) (locs1 : List Loc) (ls1 : Array Slot) (pc1 : Nat), decode cX5_writeRule pc1 = .ok (.return_, 1) → va_P D vwCl (wd ce b kdC lnC 272 I1 L R) H1 → WT kdC R → va_S (box b 272) s.heap H1 locs1 → W p l e rmX5_writeRule s m av below meth c H1 locs1 0 0 QQ (F0 m pc1 ls1 []) := by
    intro I1 hq H1 locs1 ls1 pc1 hd hP hT hS
    cases hq
    rw [hQQ]
    exact mm_vret hx hb hr hlocks hP hT hS hd
  unfold f_X5_writeRule at hf
  obtain ⟨H, hH⟩ : ∃ z, z = s.heap := ⟨_, rfl⟩
  obtain ⟨locs, hlo⟩ : ∃ z : List Loc, z = [] := ⟨_, rfl⟩
  have hP : va_P D vwCl (wd ce b kdC lnC 272 I L R) H := by rw [hH]; exact hP
  have hS : va_S (box b 272) s.heap H locs := by rw [hH, hlo]; exact hS
  rw [show W p l e rmX5_writeRule s m av below meth c s.heap [] 0 0 QQ = W p l e rmX5_writeRule s m av below meth c H locs 0 0 QQ by rw [hH, hlo]]
  clear hH hlo
  clear hQQ
  show W p l e rmX5_writeRule s m av below meth c H locs 0 0 QQ (F0 m 0 ls [])
  refine lv_aload_n hx hb dX5_writeRule_0 rfl (lv_at hl 0 rfl) ?_
  refine lv_iconst (v := (0 : Int32)) hx hb dX5_writeRule_1 (by decide) ?_
  refine jnE hf (fun I1 eI1 hf => ?_)
  refine mm_puti hx hb hts hown hKK hP hA hS fk5_1 (Or.inl rfl) fw5_1 lkX5_15 (kdC_lt h0 (Nat.succ_ne_zero _)) h0 rfl rfl dX5_writeRule_2 (fun H locs hP hS => ?_)
  rw [← eI1] at hP
  refine lv_aload_n hx hb dX5_writeRule_5 rfl (lv_at hl 0 rfl) ?_
  refine lv_aload_n hx hb dX5_writeRule_6 rfl (lv_at hl 1 rfl) ?_
  have t2 : kdC (R x1 0) = 14 := wt hT h1 rfl
  refine mm_getr hx hb hts hown hKK hP fk3_0 (Nat.le_of_ble_eq_true rfl) lkX5_19 (kdC_lt h1 (Nat.succ_ne_zero _)) h1 (nC t2 (Nat.succ_ne_zero _)) dX5_writeRule_7 ?_
  obtain ⟨I3, e3, hf⟩ := bd1_o hf
  refine mm_Vv (rest := []) hx hb hml hown hts hKK hP hS hA (kdC_lt h0 (Nat.succ_ne_zero _)) h0 (show vwCl[5]? = some (yX5_writeSide.cls, TX5, 2) from rfl) vkX5_25 (k_X5_writeSide l D ce b I1 L R hT x0 (R x1 0) h0 t2 I3 e3) rfl hl.1 rfl (Nat.le_of_ble_eq_true rfl) ⟨rfl, rfl⟩ ⟨Nat.le_of_ble_eq_true rfl, Nat.le_of_ble_eq_true rfl⟩ ⟨Nat.zero_le _, Nat.zero_le _⟩ dX5_writeRule_10 (fun H locs hP hT hS => ?_)
  refine lv_aload_n hx hb dX5_writeRule_13 rfl (lv_at hl 0 rfl) ?_
  refine lv_bipush (v := (62 : Int32)) hx hb dX5_writeRule_14 (by decide) ?_
  obtain ⟨I4, e4, hf⟩ := bd1_o hf
  refine mm_Vv (rest := []) hx hb hml hown hts hKK hP hS hA (kdC_lt h0 (Nat.succ_ne_zero _)) h0 (show vwCl[5]? = some (yX5_put.cls, TX5, 2) from rfl) vkX5_29 (k_X5_put l D ce b I3 L R hT x0 (62 : Int32) h0 I4 e4) rfl hl.1 rfl (Nat.le_of_ble_eq_true rfl) ⟨rfl, rfl⟩ ⟨Nat.le_of_ble_eq_true rfl, Nat.le_of_ble_eq_true rfl⟩ ⟨Nat.zero_le _, Nat.zero_le _⟩ dX5_writeRule_16 (fun H locs hP hT hS => ?_)
  refine lv_aload_n hx hb dX5_writeRule_19 rfl (lv_at hl 0 rfl) ?_
  refine lv_aload_n hx hb dX5_writeRule_20 rfl (lv_at hl 1 rfl) ?_
  have t5 : kdC (R x1 1) = 14 := wt hT h1 rfl
  refine mm_getr hx hb hts hown hKK hP fk3_1 (Nat.le_of_ble_eq_true rfl) lkX5_33 (kdC_lt h1 (Nat.succ_ne_zero _)) h1 (nC t5 (Nat.succ_ne_zero _)) dX5_writeRule_21 ?_
  obtain ⟨I6, e6, hf⟩ := bd1_o hf
  refine mm_Vv (rest := []) hx hb hml hown hts hKK hP hS hA (kdC_lt h0 (Nat.succ_ne_zero _)) h0 (show vwCl[5]? = some (yX5_writeSide.cls, TX5, 2) from rfl) vkX5_25 (k_X5_writeSide l D ce b I4 L R hT x0 (R x1 1) h0 t5 I6 e6) rfl hl.1 rfl (Nat.le_of_ble_eq_true rfl) ⟨rfl, rfl⟩ ⟨Nat.le_of_ble_eq_true rfl, Nat.le_of_ble_eq_true rfl⟩ ⟨Nat.zero_le _, Nat.zero_le _⟩ dX5_writeRule_24 (fun H locs hP hT hS => ?_)
  exact hret I6 hf H locs ls _ dX5_writeRule_27 hP hT hS
def rmX10_shown : Room := { frames := 4, cells := 0, slots := 0, locals := 87 }
set_option maxHeartbeats 4000000 in
set_option maxRecDepth 100000 in
theorem k_X10_shown (l : Launch) (D : va_G) (ce : Nat → ClassId) (b : Nat) (I : mI) (L : mL) (R : mR) (hT : WT kdC R) (x0 : Nat) (x1 : Int32) (x2 : Int32) (h0 : kdC x0 = 16) (o1 : Int32) (o2 : mI) (hf : f_X10_shown x0 x1 x2 I R = some (o1, o2)) : Met l yX10_shown (Cond.code yX10_shown cX10_shown 3 (some .int) :: GW) rmX10_shown (va_Pc [.ref (b + x0), .int x1, .int x2] (PW D ce b kdC lnC 272 I L R)) (va_Qi (fun r u => r = o1 ∧ u = (o2, L, R)) (QW D ce b kdC lnC 272) (box b 272)) 0 0 (box b 272) := by
  refine Met.ofW (cc := cX10_shown) (maxL := 3) (ret := (some .int)) (by decide) rfl ?_
  intro p e s m args below meth c s₁ B hml hv
  obtain ⟨rfl, hP, hKK⟩ := hv
  have hx := B.exec
  have hb := B.bytes
  have hr := B.returns
  have hts0 := atoms_spec (ws := Cond.code yX10_shown cX10_shown 3 (some .int) :: GW) B.pre
  have hts : ∀ w ∈ GW, w.before _ s = true := fun w h => hts0 w (List.mem_cons_of_mem _ h)
  clear hts0
  have hown : s.vm.findClass RX10 = some m.cls := findClass_of_methodNamed B.named
  have hlocks := B.notSynchronized
  have hA : ∀ q, box b 272 q → box b 272 q := fun _ h => h
  have hS : va_S (box b 272) s.heap s.heap [] := va_S.rf
  have hl := lv_entry ([.ref (b + x0), .int x1, .int x2]) (n := 3) (Nat.le_of_ble_eq_true rfl)
  rw [lg_entry_eq]
  generalize (lg_sl ([.ref (b + x0), .int x1, .int x2]) ++ List.replicate (3 - (lg_sl ([.ref (b + x0), .int x1, .int x2])).length) Slot.unset).toArray = ls at hl ⊢
  have hl : lv_has ls 3 [(0, .ref (b + x0)), (1, .int x1), (2, .int x2)] := hl
  generalize ([.ref (b + x0), .int x1, .int x2] : List Value).toArray = av at hts ⊢
  show W p l e rmX10_shown s m av below meth c s.heap [] 0 0 _ _
  obtain ⟨QQ, hQQ⟩ : ∃ z, z = MQ below (va_Qi (fun r u => r = o1 ∧ u = (o2, L, R)) (QW D ce b kdC lnC 272) (box b 272)) av s 0 0 (box b 272) := ⟨_, rfl⟩
  rw [← hQQ]
  have hret : ∀ (r : Int32) (I1 : mI), some (r, I1) = some (o1, o2) → ∀ (H1 : Heap) (locs1 : List Loc) (ls1 : Array Slot) (pc1 : Nat), decode cX10_shown pc1 = .ok (.ireturn, 1) → va_P D vwCl (wd ce b kdC lnC 272 I1 L R) H1 → WT kdC R → va_S (box b 272) s.heap H1 locs1 → W p l e rmX10_shown s m av below meth c H1 locs1 0 0 QQ (F0 m pc1 ls1 [.int r]) := by
    intro r I1 hq H1 locs1 ls1 pc1 hd hP hT hS
    cases hq
    rw [hQQ]
    exact mm_iret hx hb hr hlocks hP hT hS hd
  unfold f_X10_shown at hf
  obtain ⟨H, hH⟩ : ∃ z, z = s.heap := ⟨_, rfl⟩
  obtain ⟨locs, hlo⟩ : ∃ z : List Loc, z = [] := ⟨_, rfl⟩
  have hP : va_P D vwCl (wd ce b kdC lnC 272 I L R) H := by rw [hH]; exact hP
  have hS : va_S (box b 272) s.heap H locs := by rw [hH, hlo]; exact hS
  rw [show W p l e rmX10_shown s m av below meth c s.heap [] 0 0 QQ = W p l e rmX10_shown s m av below meth c H locs 0 0 QQ by rw [hH, hlo]]
  clear hH hlo
  clear hQQ
  show W p l e rmX10_shown s m av below meth c H locs 0 0 QQ (F0 m 0 ls [])
  refine lv_aload_n hx hb dX10_shown_0 rfl (lv_at hl 0 rfl) ?_
  refine lv_iload_n hx hb dX10_shown_1 rfl (lv_at hl 1 rfl) ?_
  obtain ⟨r1, e1, hf⟩ := bd1_o hf
  refine mm_Vi (rest := []) hx hb hml hown hts hKK hP hS hA (kdC_lt h0 (Nat.succ_ne_zero _)) h0 (show vwCl[10]? = some (yX10_isRule.cls, TX10, 15) from rfl) vkX10_122 (k_X10_isRule l D ce b I L R hT x0 x1 h0 r1 e1) rfl hl.1 rfl (Nat.le_of_ble_eq_true rfl) ⟨rfl, rfl⟩ ⟨Nat.le_of_ble_eq_true rfl, Nat.le_of_ble_eq_true rfl⟩ ⟨Nat.zero_le _, Nat.zero_le _⟩ dX10_shown_2 (fun H locs hP hT hS => ?_)
  refine jnE hf (fun j13_2 ej_2 hf => ?_)
  have hJ13_2 : ∀ (H : Heap) (locs : List Loc) (ls : Array Slot), va_P D vwCl (wd ce b kdC lnC 272 I L R) H → va_S (box b 272) s.heap H locs → lv_has ls 3 [(0, .ref (b + x0))] → j13_2  = some (o1, o2) → W p l e rmX10_shown s m av below meth c H locs 0 0 QQ (F0 m 13 ls []) := by
    intro  H locs ls hP hS  hl hf
    rw [ej_2] at hf
    try dsimp only at hf
    refine lv_aload_n hx hb dX10_shown_13 rfl (lv_at hl 0 rfl) ?_
    obtain ⟨r3, I3, e3, hf⟩ := bd2_o hf
    refine mm_Vi (rest := []) hx hb hml hown hts hKK hP hS hA (kdC_lt h0 (Nat.succ_ne_zero _)) h0 (show vwCl[10]? = some (yX10_refuseBad.cls, TX10, 15) from rfl) vkX10_81 (k_X10_refuseBad l D ce b I L R hT x0 h0 r3 I3 e3) rfl hl.1 rfl (Nat.le_of_ble_eq_true rfl) ⟨rfl, rfl⟩ ⟨Nat.le_of_ble_eq_true rfl, Nat.le_of_ble_eq_true rfl⟩ ⟨Nat.zero_le _, Nat.zero_le _⟩ dX10_shown_14 (fun H locs hP hT hS => ?_)
    exact hret r3 I3 hf H locs ls _ dX10_shown_17 hP hT hS
  clear ej_2
  refine lv_if_eq (tgt := 13) hx hb dX10_shown_5 (by decide) (fun c4 => ?_) (fun c4 => ?_)
  · have hf := ifT hf c4
    exact hJ13_2  H locs ls hP hS  (lv_sub hl [0] rfl) hf
  · have hf := ifF hf c4
    refine lv_iload_n hx hb dX10_shown_8 rfl (lv_at hl 2 rfl) ?_
    refine lv_iconst (v := (-1 : Int32)) hx hb dX10_shown_9 (by decide) ?_
    refine lv_icmp_ge (tgt := 18) hx hb dX10_shown_10 (by decide) (fun c5 => ?_) (fun c5 => ?_)
    · have hf := ifT hf c5
      refine lv_aload_n hx hb dX10_shown_18 rfl (lv_at hl 0 rfl) ?_
      have t6 : kdC (R x0 3) = 11 := wt hT h0 rfl
      refine mm_getr hx hb hts hown hKK hP fk10_3 (Nat.le_of_ble_eq_true rfl) lkX10_33 (kdC_lt h0 (Nat.succ_ne_zero _)) h0 (nC t6 (Nat.succ_ne_zero _)) dX10_shown_19 ?_
      refine lv_aload_n hx hb dX10_shown_22 rfl (lv_at hl 0 rfl) ?_
      have t7 : kdC (R x0 0) = 13 := wt hT h0 rfl
      refine mm_getr hx hb hts hown hKK hP fk10_0 (Nat.le_of_ble_eq_true rfl) lkX10_10 (kdC_lt h0 (Nat.succ_ne_zero _)) h0 (nC t7 (Nat.succ_ne_zero _)) dX10_shown_23 ?_
      have t8 : kdC (R (R x0 0) 0) = 4 := wt hT t7 rfl
      refine mm_getr hx hb hts hown hKK hP fk7_0 (Nat.le_of_ble_eq_true rfl) lkX10_132 (kdC_lt t7 (Nat.succ_ne_zero _)) t7 (nC t8 (Nat.succ_ne_zero _)) dX10_shown_26 ?_
      refine lv_iload_n hx hb dX10_shown_29 rfl (lv_at hl 1 rfl) ?_
      obtain ⟨g9, hf⟩ := grd hf
      have t10 : kdC (R (R (R x0 0) 0) x1.toNatClampNeg) = 9 := wt hT t8 rfl
      refine mm_aald4 hx hb hKK hP (kdC_lt t8 (Nat.succ_ne_zero _)) t8 g9 (nC t10 (Nat.succ_ne_zero _)) dX10_shown_30 ?_
      obtain ⟨I11, e11, hf⟩ := bd1_o hf
      refine mm_Vv (rest := []) hx hb hml hown hts hKK hP hS hA (kdC_lt t6 (Nat.succ_ne_zero _)) t6 (show vwCl[5]? = some (yX5_writeRule.cls, TX5, 2) from rfl) vkX10_163 (k_X5_writeRule l D ce b I L R hT (R x0 3) (R (R (R x0 0) 0) x1.toNatClampNeg) t6 t10 I11 e11) rfl hl.1 rfl (Nat.le_of_ble_eq_true rfl) ⟨rfl, rfl⟩ ⟨Nat.le_of_ble_eq_true rfl, Nat.le_of_ble_eq_true rfl⟩ ⟨Nat.zero_le _, Nat.zero_le _⟩ dX10_shown_31 (fun H locs hP hT hS => ?_)
      refine lv_iload_n hx hb dX10_shown_34 rfl (lv_at hl 2 rfl) ?_
      refine lv_iconst (v := (-1 : Int32)) hx hb dX10_shown_35 (by decide) ?_
      refine lv_icmp_ne (tgt := 47) hx hb dX10_shown_36 (by decide) (fun c12 => ?_) (fun c12 => ?_)
      · have hf := ifF hf c12
        refine lv_iload_n hx hb dX10_shown_47 rfl (lv_at hl 2 rfl) ?_
        refine lv_aload_n hx hb dX10_shown_48 rfl (lv_at hl 0 rfl) ?_
        refine mm_getr hx hb hts hown hKK hP fk10_3 (Nat.le_of_ble_eq_true rfl) lkX10_33 (kdC_lt h0 (Nat.succ_ne_zero _)) h0 (nC t6 (Nat.succ_ne_zero _)) dX10_shown_49 ?_
        refine mm_geti hx hb hts hown hKK hP fk5_1 (Or.inl rfl) lkX10_167 (kdC_lt t6 (Nat.succ_ne_zero _)) t6 dX10_shown_52 ?_
        refine lv_icmp_ge (tgt := 70) hx hb dX10_shown_55 (by decide) (fun c13 => ?_) (fun c13 => ?_)
        · have hf := ifT hf c13
          refine lv_bipush (v := (-5 : Int32)) hx hb dX10_shown_70 (by decide) ?_
          exact hret (-5 : Int32) I11 hf H locs ls _ dX10_shown_72 hP hT hS
        · have hf := ifF hf c13
          refine lv_aload_n hx hb dX10_shown_58 rfl (lv_at hl 0 rfl) ?_
          refine mm_getr hx hb hts hown hKK hP fk10_3 (Nat.le_of_ble_eq_true rfl) lkX10_33 (kdC_lt h0 (Nat.succ_ne_zero _)) h0 (nC t6 (Nat.succ_ne_zero _)) dX10_shown_59 ?_
          have t14 : kdC (R (R x0 3) 0) = 1 := wt hT t6 rfl
          refine mm_getr hx hb hts hown hKK hP fk5_0 (Nat.le_of_ble_eq_true rfl) lkX10_168 (kdC_lt t6 (Nat.succ_ne_zero _)) t6 (nC t14 (Nat.succ_ne_zero _)) dX10_shown_62 ?_
          refine lv_iload_n hx hb dX10_shown_65 rfl (lv_at hl 2 rfl) ?_
          obtain ⟨g15, hf⟩ := grd hf
          refine mm_iald hx hb hKK hP (kdC_lt t14 (Nat.succ_ne_zero _)) t14 g15 dX10_shown_66 ?_
          refine lv_goto (tgt := 72) hx hb dX10_shown_67 (by decide) ?_
          exact hret (I11 (R (R x0 3) 0) x2.toNatClampNeg) I11 hf H locs ls _ dX10_shown_72 hP hT hS
      · have hf := ifT hf c12
        refine lv_aload_n hx hb dX10_shown_39 rfl (lv_at hl 0 rfl) ?_
        refine mm_getr hx hb hts hown hKK hP fk10_3 (Nat.le_of_ble_eq_true rfl) lkX10_33 (kdC_lt h0 (Nat.succ_ne_zero _)) h0 (nC t6 (Nat.succ_ne_zero _)) dX10_shown_40 ?_
        refine mm_geti hx hb hts hown hKK hP fk5_1 (Or.inl rfl) lkX10_167 (kdC_lt t6 (Nat.succ_ne_zero _)) t6 dX10_shown_43 ?_
        exact hret (I11 (R x0 3) 1) I11 hf H locs ls _ dX10_shown_46 hP hT hS
    · have hf := ifF hf c5
      exact hJ13_2  H locs ls hP hS  (lv_sub hl [0] rfl) hf
def rmX6_addPart : Room := { frames := 0, cells := 0, slots := 0, locals := 0 }
set_option maxHeartbeats 4000000 in
set_option maxRecDepth 100000 in
theorem k_X6_addPart (l : Launch) (D : va_G) (ce : Nat → ClassId) (b : Nat) (I : mI) (L : mL) (R : mR) (hT : WT kdC R) (x0 : Nat) (x1 : Int32) (x2 : Int32) (x3 : Int32) (h0 : kdC x0 = 12) (o1 : mI) (hf : f_X6_addPart x0 x1 x2 x3 I R = some o1) : Met l yX6_addPart (Cond.code yX6_addPart cX6_addPart 5 none :: GW) rmX6_addPart (va_Pc [.ref (b + x0), .int x1, .int x2, .int x3] (PW D ce b kdC lnC 272 I L R)) (va_Qv (fun u => u = (o1, L, R)) (QW D ce b kdC lnC 272) (box b 272)) 0 0 (box b 272) := by
  refine Met.ofW (cc := cX6_addPart) (maxL := 5) (ret := none) (by decide) rfl ?_
  intro p e s m args below meth c s₁ B hml hv
  obtain ⟨rfl, hP, hKK⟩ := hv
  have hx := B.exec
  have hb := B.bytes
  have hr := B.returns
  have hts0 := atoms_spec (ws := Cond.code yX6_addPart cX6_addPart 5 none :: GW) B.pre
  have hts : ∀ w ∈ GW, w.before _ s = true := fun w h => hts0 w (List.mem_cons_of_mem _ h)
  clear hts0
  have hown : s.vm.findClass RX6 = some m.cls := findClass_of_methodNamed B.named
  have hlocks := B.notSynchronized
  have hA : ∀ q, box b 272 q → box b 272 q := fun _ h => h
  have hS : va_S (box b 272) s.heap s.heap [] := va_S.rf
  have hl := lv_entry ([.ref (b + x0), .int x1, .int x2, .int x3]) (n := 5) (Nat.le_of_ble_eq_true rfl)
  rw [lg_entry_eq]
  generalize (lg_sl ([.ref (b + x0), .int x1, .int x2, .int x3]) ++ List.replicate (5 - (lg_sl ([.ref (b + x0), .int x1, .int x2, .int x3])).length) Slot.unset).toArray = ls at hl ⊢
  have hl : lv_has ls 5 [(0, .ref (b + x0)), (1, .int x1), (2, .int x2), (3, .int x3)] := hl
  generalize ([.ref (b + x0), .int x1, .int x2, .int x3] : List Value).toArray = av at hts ⊢
  show W p l e rmX6_addPart s m av below meth c s.heap [] 0 0 _ _
  obtain ⟨QQ, hQQ⟩ : ∃ z, z = MQ below (va_Qv (fun u => u = (o1, L, R)) (QW D ce b kdC lnC 272) (box b 272)) av s 0 0 (box b 272) := ⟨_, rfl⟩
  rw [← hQQ]
  have hret : ∀ (I1 : mI), some I1 = some o1 → ∀ (H1 : Heap) (locs1 : List Loc) (ls1 : Array Slot) (pc1 : Nat), decode cX6_addPart pc1 = .ok (.return_, 1) → va_P D vwCl (wd ce b kdC lnC 272 I1 L R) H1 → WT kdC R → va_S (box b 272) s.heap H1 locs1 → W p l e rmX6_addPart s m av below meth c H1 locs1 0 0 QQ (F0 m pc1 ls1 []) := by
    intro I1 hq H1 locs1 ls1 pc1 hd hP hT hS
    cases hq
    rw [hQQ]
    exact mm_vret hx hb hr hlocks hP hT hS hd
  unfold f_X6_addPart at hf
  obtain ⟨H, hH⟩ : ∃ z, z = s.heap := ⟨_, rfl⟩
  obtain ⟨locs, hlo⟩ : ∃ z : List Loc, z = [] := ⟨_, rfl⟩
  have hP : va_P D vwCl (wd ce b kdC lnC 272 I L R) H := by rw [hH]; exact hP
  have hS : va_S (box b 272) s.heap H locs := by rw [hH, hlo]; exact hS
  rw [show W p l e rmX6_addPart s m av below meth c s.heap [] 0 0 QQ = W p l e rmX6_addPart s m av below meth c H locs 0 0 QQ by rw [hH, hlo]]
  clear hH hlo
  clear hQQ
  show W p l e rmX6_addPart s m av below meth c H locs 0 0 QQ (F0 m 0 ls [])
  refine lv_iload_n hx hb dX6_addPart_0 rfl (lv_at hl 2 rfl) ?_
  refine lv_if_lt (tgt := 10) hx hb dX6_addPart_1 (by decide) (fun c1 => ?_) (fun c1 => ?_)
  · have hf := ifT hf c1
    exact hret I hf H locs ls _ dX6_addPart_10 hP hT hS
  · have hf := ifF hf c1
    refine lv_iload_n hx hb dX6_addPart_4 rfl (lv_at hl 2 rfl) ?_
    refine lv_bipush (v := (12 : Int32)) hx hb dX6_addPart_5 (by decide) ?_
    refine lv_icmp_lt (tgt := 11) hx hb dX6_addPart_7 (by decide) (fun c2 => ?_) (fun c2 => ?_)
    · have hf := ifT hf c2
      refine lv_iconst (v := (0 : Int32)) hx hb dX6_addPart_11 (by decide) ?_
      refine lv_istore (lv' := [(4, .int (0 : Int32)), (0, .ref (b + x0)), (1, .int x1), (2, .int x2), (3, .int x3)]) hx hb dX6_addPart_12 hl (Nat.le_of_ble_eq_true rfl) rfl (fun ls hl => ?_)
      have lp14 : ∀ (n : Nat) (x0 : Nat) (x1 : Int32) (x2 : Int32) (x3 : Int32) (x4 : Int32) (I : mI) (L : mL) (R : mR) (a1 : mI) (H : Heap) (locs : List Loc) (ls : Array Slot), va_P D vwCl (wd ce b kdC lnC 272 I L R) H → va_S (box b 272) s.heap H locs → WT kdC R → kdC x0 = 12 → lv_has ls 5 [(0, .ref (b + x0)), (1, .int x1), (2, .int x2), (3, .int x3), (4, .int x4)] → f_X6_addPart_L14 n x0 x1 x2 x3 x4 I R = some a1 → (∀ (H1 : Heap) (locs1 : List Loc) (ls1 : Array Slot), va_P D vwCl (wd ce b kdC lnC 272 a1 L R) H1 → va_S (box b 272) s.heap H1 locs1 → lv_has ls1 5 [] → W p l e rmX6_addPart s m av below meth c H1 locs1 0 0 QQ (F0 m 56 ls1 [])) → W p l e rmX6_addPart s m av below meth c H locs 0 0 QQ (F0 m 14 ls []) := by
        intro n
        induction n with
        | zero =>
          intro x0 x1 x2 x3 x4 I L R a1 H locs ls hP hS hT h0 hl hf kx
          exact absurd (show (none : Option (mI)) = some _ from hf) (by simp)
        | succ n ih =>
          intro x0 x1 x2 x3 x4 I L R a1 H locs ls hP hS hT h0 hl hf kx
          rw [f_X6_addPart_L14] at hf
          refine lv_iload hx hb dX6_addPart_14 (lv_at hl 4 rfl) ?_
          refine lv_bipush (v := (6 : Int32)) hx hb dX6_addPart_16 (by decide) ?_
          refine lv_icmp_ge (tgt := 56) hx hb dX6_addPart_18 (by decide) (fun c3 => ?_) (fun c3 => ?_)
          · have hf := ifT hf c3
            cases hf
            exact kx H locs ls hP hS (lv_sub hl [] rfl)
          · have hf := ifF hf c3
            refine lv_aload_n hx hb dX6_addPart_21 rfl (lv_at hl 0 rfl) ?_
            have t4 : kdC (R x0 0) = 1 := wt hT h0 rfl
            refine mm_getr hx hb hts hown hKK hP fk6_0 (Nat.le_of_ble_eq_true rfl) lkX6_11 (kdC_lt h0 (Nat.succ_ne_zero _)) h0 (nC t4 (Nat.succ_ne_zero _)) dX6_addPart_22 ?_
            refine lv_iload_n hx hb dX6_addPart_25 rfl (lv_at hl 1 rfl) ?_
            refine lv_bipush (v := (6 : Int32)) hx hb dX6_addPart_26 (by decide) ?_
            refine lv_imul hx hb dX6_addPart_28 ?_
            refine lv_iload hx hb dX6_addPart_29 (lv_at hl 4 rfl) ?_
            refine lv_iadd hx hb dX6_addPart_31 ?_
            refine lv_dup2_11 hx hb dX6_addPart_32 rfl rfl ?_
            obtain ⟨g5, hf⟩ := grd hf
            refine mm_iald hx hb hKK hP (kdC_lt t4 (Nat.succ_ne_zero _)) t4 g5 dX6_addPart_33 ?_
            refine lv_iload_n hx hb dX6_addPart_34 rfl (lv_at hl 3 rfl) ?_
            refine lv_aload_n hx hb dX6_addPart_35 rfl (lv_at hl 0 rfl) ?_
            refine mm_getr hx hb hts hown hKK hP fk6_0 (Nat.le_of_ble_eq_true rfl) lkX6_11 (kdC_lt h0 (Nat.succ_ne_zero _)) h0 (nC t4 (Nat.succ_ne_zero _)) dX6_addPart_36 ?_
            refine lv_iload_n hx hb dX6_addPart_39 rfl (lv_at hl 2 rfl) ?_
            refine lv_bipush (v := (6 : Int32)) hx hb dX6_addPart_40 (by decide) ?_
            refine lv_imul hx hb dX6_addPart_42 ?_
            refine lv_iload hx hb dX6_addPart_43 (lv_at hl 4 rfl) ?_
            refine lv_iadd hx hb dX6_addPart_45 ?_
            obtain ⟨g6, hf⟩ := grd hf
            refine mm_iald hx hb hKK hP (kdC_lt t4 (Nat.succ_ne_zero _)) t4 g6 dX6_addPart_46 ?_
            refine lv_imul hx hb dX6_addPart_47 ?_
            refine lv_iadd hx hb dX6_addPart_48 ?_
            refine jnE hf (fun I7 eI7 hf => ?_)
            refine mm_iast hx hb hKK hP hA hS (kdC_lt t4 (Nat.succ_ne_zero _)) t4 g5 dX6_addPart_49 (fun H locs hP hS => ?_)
            rw [← eI7] at hP
            refine lv_iinc (v := (x4 + (1 : Int32))) (lv' := [(4, .int (x4 + (1 : Int32))), (0, .ref (b + x0)), (1, .int x1), (2, .int x2), (3, .int x3)]) hx hb dX6_addPart_50 hl (k := 4) rfl rfl (Nat.le_of_ble_eq_true rfl) rfl (fun ls hl => ?_)
            refine lv_goto (tgt := 14) hx hb dX6_addPart_53 (by decide) ?_
            exact ih x0 x1 x2 x3 (x4 + (1 : Int32)) I7 L R a1 H locs ls hP hS hT h0 (lv_sub hl [1, 2, 3, 4, 0] rfl) hf kx
      obtain ⟨I_8, e_8, hf⟩ := bd1_o hf
      refine lp14 FU x0 x1 x2 x3 (0 : Int32) I L R I_8 H locs ls hP hS hT h0 (lv_sub hl [1, 2, 3, 4, 0] rfl) e_8 (fun H locs ls hP hS hl => ?_)
      exact hret I_8 hf H locs ls _ dX6_addPart_56 hP hT hS
    · have hf := ifF hf c2
      exact hret I hf H locs ls _ dX6_addPart_10 hP hT hS
def rmX6_countIn : Room := { frames := 1, cells := 0, slots := 0, locals := 24 }
set_option maxHeartbeats 4000000 in
set_option maxRecDepth 100000 in
theorem k_X6_countIn (l : Launch) (D : va_G) (ce : Nat → ClassId) (b : Nat) (I : mI) (L : mL) (R : mR) (hT : WT kdC R) (x0 : Nat) (x1 : Nat) (x2 : Int32) (x3 : Int32) (x4 : Int32) (h0 : kdC x0 = 12) (h1 : kdC x1 = 14) (o1 : mI) (hf : f_X6_countIn x0 x1 x2 x3 x4 I R = some o1) : Met l yX6_countIn (Cond.code yX6_countIn cX6_countIn 7 none :: GW) rmX6_countIn (va_Pc [.ref (b + x0), .ref (b + x1), .int x2, .int x3, .int x4] (PW D ce b kdC lnC 272 I L R)) (va_Qv (fun u => u = (o1, L, R)) (QW D ce b kdC lnC 272) (box b 272)) 0 0 (box b 272) := by
  refine Met.ofW (cc := cX6_countIn) (maxL := 7) (ret := none) (by decide) rfl ?_
  intro p e s m args below meth c s₁ B hml hv
  obtain ⟨rfl, hP, hKK⟩ := hv
  have hx := B.exec
  have hb := B.bytes
  have hr := B.returns
  have hts0 := atoms_spec (ws := Cond.code yX6_countIn cX6_countIn 7 none :: GW) B.pre
  have hts : ∀ w ∈ GW, w.before _ s = true := fun w h => hts0 w (List.mem_cons_of_mem _ h)
  clear hts0
  have hown : s.vm.findClass RX6 = some m.cls := findClass_of_methodNamed B.named
  have hlocks := B.notSynchronized
  have hA : ∀ q, box b 272 q → box b 272 q := fun _ h => h
  have hS : va_S (box b 272) s.heap s.heap [] := va_S.rf
  have hl := lv_entry ([.ref (b + x0), .ref (b + x1), .int x2, .int x3, .int x4]) (n := 7) (Nat.le_of_ble_eq_true rfl)
  rw [lg_entry_eq]
  generalize (lg_sl ([.ref (b + x0), .ref (b + x1), .int x2, .int x3, .int x4]) ++ List.replicate (7 - (lg_sl ([.ref (b + x0), .ref (b + x1), .int x2, .int x3, .int x4])).length) Slot.unset).toArray = ls at hl ⊢
  have hl : lv_has ls 7 [(0, .ref (b + x0)), (1, .ref (b + x1)), (2, .int x2), (3, .int x3), (4, .int x4)] := hl
  generalize ([.ref (b + x0), .ref (b + x1), .int x2, .int x3, .int x4] : List Value).toArray = av at hts ⊢
  show W p l e rmX6_countIn s m av below meth c s.heap [] 0 0 _ _
  obtain ⟨QQ, hQQ⟩ : ∃ z, z = MQ below (va_Qv (fun u => u = (o1, L, R)) (QW D ce b kdC lnC 272) (box b 272)) av s 0 0 (box b 272) := ⟨_, rfl⟩
  rw [← hQQ]
  have hret : ∀ (I1 : mI), some I1 = some o1 → ∀ (H1 : Heap) (locs1 : List Loc) (ls1 : Array Slot) (pc1 : Nat), decode cX6_countIn pc1 = .ok (.return_, 1) → va_P D vwCl (wd ce b kdC lnC 272 I1 L R) H1 → WT kdC R → va_S (box b 272) s.heap H1 locs1 → W p l e rmX6_countIn s m av below meth c H1 locs1 0 0 QQ (F0 m pc1 ls1 []) := by
    intro I1 hq H1 locs1 ls1 pc1 hd hP hT hS
    cases hq
    rw [hQQ]
    exact mm_vret hx hb hr hlocks hP hT hS hd
  unfold f_X6_countIn at hf
  obtain ⟨H, hH⟩ : ∃ z, z = s.heap := ⟨_, rfl⟩
  obtain ⟨locs, hlo⟩ : ∃ z : List Loc, z = [] := ⟨_, rfl⟩
  have hP : va_P D vwCl (wd ce b kdC lnC 272 I L R) H := by rw [hH]; exact hP
  have hS : va_S (box b 272) s.heap H locs := by rw [hH, hlo]; exact hS
  rw [show W p l e rmX6_countIn s m av below meth c s.heap [] 0 0 QQ = W p l e rmX6_countIn s m av below meth c H locs 0 0 QQ by rw [hH, hlo]]
  clear hH hlo
  clear hQQ
  show W p l e rmX6_countIn s m av below meth c H locs 0 0 QQ (F0 m 0 ls [])
  refine lv_aload_n hx hb dX6_countIn_0 rfl (lv_at hl 1 rfl) ?_
  refine mm_geti hx hb hts hown hKK hP fk8_2 (Or.inl rfl) lkX6_15 (kdC_lt h1 (Nat.succ_ne_zero _)) h1 dX6_countIn_1 ?_
  refine lv_iconst (v := (1 : Int32)) hx hb dX6_countIn_4 (by decide) ?_
  refine lv_isub hx hb dX6_countIn_5 ?_
  refine lv_istore (lv' := [(5, .int ((I x1 2) - (1 : Int32))), (0, .ref (b + x0)), (1, .ref (b + x1)), (2, .int x2), (3, .int x3), (4, .int x4)]) hx hb dX6_countIn_6 hl (Nat.le_of_ble_eq_true rfl) rfl (fun ls hl => ?_)
  have lp8 : ∀ (n : Nat) (x0 : Nat) (x1 : Nat) (x2 : Int32) (x3 : Int32) (x4 : Int32) (x5 : Int32) (I : mI) (L : mL) (R : mR) (a1 : mI) (H : Heap) (locs : List Loc) (ls : Array Slot), va_P D vwCl (wd ce b kdC lnC 272 I L R) H → va_S (box b 272) s.heap H locs → WT kdC R → kdC x0 = 12 → kdC x1 = 14 → lv_has ls 7 [(0, .ref (b + x0)), (1, .ref (b + x1)), (2, .int x2), (3, .int x3), (4, .int x4), (5, .int x5)] → f_X6_countIn_L8 n x0 x1 x2 x3 x4 x5 I R = some a1 → (∀ (H1 : Heap) (locs1 : List Loc) (ls1 : Array Slot), va_P D vwCl (wd ce b kdC lnC 272 a1 L R) H1 → va_S (box b 272) s.heap H1 locs1 → lv_has ls1 7 [] → W p l e rmX6_countIn s m av below meth c H1 locs1 0 0 QQ (F0 m 162 ls1 [])) → W p l e rmX6_countIn s m av below meth c H locs 0 0 QQ (F0 m 8 ls []) := by
    intro n
    induction n with
    | zero =>
      intro x0 x1 x2 x3 x4 x5 I L R a1 H locs ls hP hS hT h0 h1 hl hf kx
      exact absurd (show (none : Option (mI)) = some _ from hf) (by simp)
    | succ n ih =>
      intro x0 x1 x2 x3 x4 x5 I L R a1 H locs ls hP hS hT h0 h1 hl hf kx
      rw [f_X6_countIn_L8] at hf
      refine lv_iload hx hb dX6_countIn_8 (lv_at hl 5 rfl) ?_
      refine lv_if_lt (tgt := 162) hx hb dX6_countIn_10 (by decide) (fun c1 => ?_) (fun c1 => ?_)
      · have hf := ifT hf c1
        cases hf
        exact kx H locs ls hP hS (lv_sub hl [] rfl)
      · have hf := ifF hf c1
        refine lv_iconst (v := (0 : Int32)) hx hb dX6_countIn_13 (by decide) ?_
        refine lv_istore (lv' := [(6, .int (0 : Int32)), (0, .ref (b + x0)), (1, .ref (b + x1)), (2, .int x2), (3, .int x3), (4, .int x4), (5, .int x5)]) hx hb dX6_countIn_14 hl (Nat.le_of_ble_eq_true rfl) rfl (fun ls hl => ?_)
        have lp16 : ∀ (n : Nat) (x0 : Nat) (x1 : Nat) (x2 : Int32) (x3 : Int32) (x4 : Int32) (x5 : Int32) (x6 : Int32) (I : mI) (L : mL) (R : mR) (a1 : mI) (H : Heap) (locs : List Loc) (ls : Array Slot), va_P D vwCl (wd ce b kdC lnC 272 I L R) H → va_S (box b 272) s.heap H locs → WT kdC R → kdC x0 = 12 → kdC x1 = 14 → lv_has ls 7 [(0, .ref (b + x0)), (1, .ref (b + x1)), (2, .int x2), (3, .int x3), (4, .int x4), (5, .int x5), (6, .int x6)] → f_X6_countIn_L16 n x0 x1 x2 x3 x4 x5 x6 I R = some a1 → (∀ (H1 : Heap) (locs1 : List Loc) (ls1 : Array Slot), va_P D vwCl (wd ce b kdC lnC 272 a1 L R) H1 → va_S (box b 272) s.heap H1 locs1 → lv_has ls1 7 [(0, .ref (b + x0)), (1, .ref (b + x1)), (2, .int x2), (3, .int x3), (4, .int x4), (5, .int x5)] → W p l e rmX6_countIn s m av below meth c H1 locs1 0 0 QQ (F0 m 43 ls1 [])) → W p l e rmX6_countIn s m av below meth c H locs 0 0 QQ (F0 m 16 ls []) := by
          intro n
          induction n with
          | zero =>
            intro x0 x1 x2 x3 x4 x5 x6 I L R a1 H locs ls hP hS hT h0 h1 hl hf kx
            exact absurd (show (none : Option (mI)) = some _ from hf) (by simp)
          | succ n ih =>
            intro x0 x1 x2 x3 x4 x5 x6 I L R a1 H locs ls hP hS hT h0 h1 hl hf kx
            rw [f_X6_countIn_L16] at hf
            refine lv_iload hx hb dX6_countIn_16 (lv_at hl 6 rfl) ?_
            refine lv_bipush (v := (6 : Int32)) hx hb dX6_countIn_18 (by decide) ?_
            refine lv_icmp_ge (tgt := 43) hx hb dX6_countIn_20 (by decide) (fun c2 => ?_) (fun c2 => ?_)
            · have hf := ifT hf c2
              cases hf
              exact kx H locs ls hP hS (lv_sub hl [0, 1, 2, 3, 4, 5] rfl)
            · have hf := ifF hf c2
              refine lv_aload_n hx hb dX6_countIn_23 rfl (lv_at hl 0 rfl) ?_
              have t3 : kdC (R x0 0) = 1 := wt hT h0 rfl
              refine mm_getr hx hb hts hown hKK hP fk6_0 (Nat.le_of_ble_eq_true rfl) lkX6_11 (kdC_lt h0 (Nat.succ_ne_zero _)) h0 (nC t3 (Nat.succ_ne_zero _)) dX6_countIn_24 ?_
              refine lv_iload hx hb dX6_countIn_27 (lv_at hl 5 rfl) ?_
              refine lv_bipush (v := (6 : Int32)) hx hb dX6_countIn_29 (by decide) ?_
              refine lv_imul hx hb dX6_countIn_31 ?_
              refine lv_iload hx hb dX6_countIn_32 (lv_at hl 6 rfl) ?_
              refine lv_iadd hx hb dX6_countIn_34 ?_
              refine lv_iconst (v := (0 : Int32)) hx hb dX6_countIn_35 (by decide) ?_
              obtain ⟨g4, hf⟩ := grd hf
              refine jnE hf (fun I5 eI5 hf => ?_)
              refine mm_iast hx hb hKK hP hA hS (kdC_lt t3 (Nat.succ_ne_zero _)) t3 g4 dX6_countIn_36 (fun H locs hP hS => ?_)
              rw [← eI5] at hP
              refine lv_iinc (v := (x6 + (1 : Int32))) (lv' := [(6, .int (x6 + (1 : Int32))), (0, .ref (b + x0)), (1, .ref (b + x1)), (2, .int x2), (3, .int x3), (4, .int x4), (5, .int x5)]) hx hb dX6_countIn_37 hl (k := 6) rfl rfl (Nat.le_of_ble_eq_true rfl) rfl (fun ls hl => ?_)
              refine lv_goto (tgt := 16) hx hb dX6_countIn_40 (by decide) ?_
              exact ih x0 x1 x2 x3 x4 x5 (x6 + (1 : Int32)) I5 L R a1 H locs ls hP hS hT h0 h1 (lv_sub hl [1, 2, 3, 4, 5, 6, 0] rfl) hf kx
        obtain ⟨I_6, e_6, hf⟩ := bd1_o hf
        refine lp16 FU x0 x1 x2 x3 x4 x5 (0 : Int32) I L R I_6 H locs ls hP hS hT h0 h1 (lv_sub hl [1, 2, 3, 4, 5, 6, 0] rfl) e_6 (fun H locs ls hP hS hl => ?_)
        refine lv_aload_n hx hb dX6_countIn_43 rfl (lv_at hl 1 rfl) ?_
        have t7 : kdC (R x1 0) = 1 := wt hT h1 rfl
        refine mm_getr hx hb hts hown hKK hP fk8_0 (Nat.le_of_ble_eq_true rfl) lkX6_21 (kdC_lt h1 (Nat.succ_ne_zero _)) h1 (nC t7 (Nat.succ_ne_zero _)) dX6_countIn_44 ?_
        refine lv_iload hx hb dX6_countIn_47 (lv_at hl 5 rfl) ?_
        obtain ⟨g8, hf⟩ := grd hf
        refine mm_iald hx hb hKK hP (kdC_lt t7 (Nat.succ_ne_zero _)) t7 g8 dX6_countIn_49 ?_
        obtain ⟨r9, e9, hf⟩ := bd1_o hf
        refine mm_Ni (rest := []) hx hb hml hown hts hKK hP hS hA nkX6_24 (k_X10_slotOf l D ce b I_6 L R hT (I_6 (R x1 0) x5.toNatClampNeg)  r9 e9) rfl hl.1 rfl (Nat.le_of_ble_eq_true rfl) ⟨rfl, rfl⟩ ⟨Nat.le_of_ble_eq_true rfl, Nat.le_of_ble_eq_true rfl⟩ ⟨Nat.zero_le _, Nat.zero_le _⟩ dX6_countIn_50 (fun H locs hP hT hS => ?_)
        refine lv_istore (lv' := [(6, .int r9), (0, .ref (b + x0)), (1, .ref (b + x1)), (2, .int x2), (3, .int x3), (4, .int x4), (5, .int x5)]) hx hb dX6_countIn_53 hl (Nat.le_of_ble_eq_true rfl) rfl (fun ls hl => ?_)
        refine lv_iload hx hb dX6_countIn_55 (lv_at hl 0 rfl) ?_
        refine lv_iconst (v := (-1 : Int32)) hx hb dX6_countIn_57 (by decide) ?_
        refine jnE hf (fun j75_10 ej_10 hf => ?_)
        have hJ75_10 : ∀ (I_10 : mI) (H : Heap) (locs : List Loc) (ls : Array Slot), va_P D vwCl (wd ce b kdC lnC 272 I_10 L R) H → va_S (box b 272) s.heap H locs → lv_has ls 7 [(0, .ref (b + x0)), (1, .ref (b + x1)), (2, .int x2), (3, .int x3), (4, .int x4), (5, .int x5)] → j75_10 I_10 = some a1 → W p l e rmX6_countIn s m av below meth c H locs 0 0 QQ (F0 m 75 ls []) := by
          intro I_10 H locs ls hP hS  hl hf
          rw [ej_10] at hf
          try dsimp only at hf
          refine lv_aload_n hx hb dX6_countIn_75 rfl (lv_at hl 1 rfl) ?_
          refine mm_getr hx hb hts hown hKK hP fk8_0 (Nat.le_of_ble_eq_true rfl) lkX6_21 (kdC_lt h1 (Nat.succ_ne_zero _)) h1 (nC t7 (Nat.succ_ne_zero _)) dX6_countIn_76 ?_
          refine lv_iload hx hb dX6_countIn_79 (lv_at hl 5 rfl) ?_
          refine mm_iald hx hb hKK hP (kdC_lt t7 (Nat.succ_ne_zero _)) t7 g8 dX6_countIn_81 ?_
          refine lv_bipush (v := (102 : Int32)) hx hb dX6_countIn_82 (by decide) ?_
          refine jnE hf (fun j156_11 ej_11 hf => ?_)
          have hJ156_11 : ∀ (I_11 : mI) (H : Heap) (locs : List Loc) (ls : Array Slot), va_P D vwCl (wd ce b kdC lnC 272 I_11 L R) H → va_S (box b 272) s.heap H locs → lv_has ls 7 [(0, .ref (b + x0)), (1, .ref (b + x1)), (2, .int x2), (3, .int x3), (4, .int x4), (5, .int x5)] → j156_11 I_11 = some a1 → W p l e rmX6_countIn s m av below meth c H locs 0 0 QQ (F0 m 156 ls []) := by
            intro I_11 H locs ls hP hS  hl hf
            rw [ej_11] at hf
            try dsimp only at hf
            refine lv_iinc (v := (x5 + (-1 : Int32))) (lv' := [(5, .int (x5 + (-1 : Int32))), (0, .ref (b + x0)), (1, .ref (b + x1)), (2, .int x2), (3, .int x3), (4, .int x4)]) hx hb dX6_countIn_156 hl (k := 5) rfl rfl (Nat.le_of_ble_eq_true rfl) rfl (fun ls hl => ?_)
            refine lv_goto (tgt := 8) hx hb dX6_countIn_159 (by decide) ?_
            exact ih x0 x1 x2 x3 x4 (x5 + (-1 : Int32)) I_11 L R a1 H locs ls hP hS hT h0 h1 (lv_sub hl [1, 2, 3, 4, 5, 0] rfl) hf kx
          clear ej_11
          refine lv_icmp_ne (tgt := 101) hx hb dX6_countIn_84 (by decide) (fun c12 => ?_) (fun c12 => ?_)
          · have hf := ifF hf c12
            refine lv_aload_n hx hb dX6_countIn_101 rfl (lv_at hl 1 rfl) ?_
            refine mm_getr hx hb hts hown hKK hP fk8_0 (Nat.le_of_ble_eq_true rfl) lkX6_21 (kdC_lt h1 (Nat.succ_ne_zero _)) h1 (nC t7 (Nat.succ_ne_zero _)) dX6_countIn_102 ?_
            refine lv_iload hx hb dX6_countIn_105 (lv_at hl 5 rfl) ?_
            refine mm_iald hx hb hKK hP (kdC_lt t7 (Nat.succ_ne_zero _)) t7 g8 dX6_countIn_107 ?_
            refine lv_bipush (v := (103 : Int32)) hx hb dX6_countIn_108 (by decide) ?_
            refine lv_icmp_ne (tgt := 156) hx hb dX6_countIn_110 (by decide) (fun c13 => ?_) (fun c13 => ?_)
            · have hf := ifF hf c13
              exact hJ156_11 I_10 H locs ls hP hS  (lv_sub hl [0, 1, 2, 3, 4, 5] rfl) hf
            · have hf := ifT hf c13
              refine lv_aload_n hx hb dX6_countIn_113 rfl (lv_at hl 0 rfl) ?_
              refine lv_iload hx hb dX6_countIn_114 (lv_at hl 5 rfl) ?_
              refine lv_iload hx hb dX6_countIn_116 (lv_at hl 5 rfl) ?_
              refine lv_iconst (v := (1 : Int32)) hx hb dX6_countIn_118 (by decide) ?_
              refine lv_iadd hx hb dX6_countIn_119 ?_
              refine lv_iload_n hx hb dX6_countIn_120 rfl (lv_at hl 3 rfl) ?_
              obtain ⟨I14, e14, hf⟩ := bd1_o hf
              refine mm_Vv (rest := []) hx hb hml hown hts hKK hP hS hA (kdC_lt h0 (Nat.succ_ne_zero _)) h0 (show vwCl[6]? = some (yX6_addPart.cls, TX6, 1) from rfl) vkX6_28 (k_X6_addPart l D ce b I_10 L R hT x0 x5 (x5 + (1 : Int32)) x3 h0 I14 e14) rfl hl.1 rfl (Nat.le_of_ble_eq_true rfl) ⟨rfl, rfl⟩ ⟨Nat.le_of_ble_eq_true rfl, Nat.le_of_ble_eq_true rfl⟩ ⟨Nat.zero_le _, Nat.zero_le _⟩ dX6_countIn_121 (fun H locs hP hT hS => ?_)
              refine lv_aload_n hx hb dX6_countIn_124 rfl (lv_at hl 0 rfl) ?_
              refine lv_iload hx hb dX6_countIn_125 (lv_at hl 5 rfl) ?_
              refine lv_iload hx hb dX6_countIn_127 (lv_at hl 5 rfl) ?_
              refine lv_iconst (v := (1 : Int32)) hx hb dX6_countIn_129 (by decide) ?_
              refine lv_iadd hx hb dX6_countIn_130 ?_
              refine lv_aload_n hx hb dX6_countIn_131 rfl (lv_at hl 1 rfl) ?_
              refine mm_geti hx hb hts hown hKK hP fk8_2 (Or.inl rfl) lkX6_15 (kdC_lt h1 (Nat.succ_ne_zero _)) h1 dX6_countIn_132 ?_
              refine jnE hf (fun j151_15 ej_15 hf => ?_)
              have hJ151_15 : ∀ (w2_15 : Int32) (H : Heap) (locs : List Loc) (ls : Array Slot), va_P D vwCl (wd ce b kdC lnC 272 I14 L R) H → va_S (box b 272) s.heap H locs → lv_has ls 7 [(0, .ref (b + x0)), (1, .ref (b + x1)), (2, .int x2), (3, .int x3), (4, .int x4), (5, .int x5)] → j151_15 w2_15 = some a1 → W p l e rmX6_countIn s m av below meth c H locs 0 0 QQ (F0 m 151 ls [.int w2_15, .int x5, .ref (b + x0)]) := by
                intro w2_15 H locs ls hP hS  hl hf
                rw [ej_15] at hf
                try dsimp only at hf
                refine lv_iload hx hb dX6_countIn_151 (lv_at hl 4 rfl) ?_
                obtain ⟨I16, e16, hf⟩ := bd1_o hf
                refine mm_Vv (rest := []) hx hb hml hown hts hKK hP hS hA (kdC_lt h0 (Nat.succ_ne_zero _)) h0 (show vwCl[6]? = some (yX6_addPart.cls, TX6, 1) from rfl) vkX6_28 (k_X6_addPart l D ce b I14 L R hT x0 x5 w2_15 x4 h0 I16 e16) rfl hl.1 rfl (Nat.le_of_ble_eq_true rfl) ⟨rfl, rfl⟩ ⟨Nat.le_of_ble_eq_true rfl, Nat.le_of_ble_eq_true rfl⟩ ⟨Nat.zero_le _, Nat.zero_le _⟩ dX6_countIn_153 (fun H locs hP hT hS => ?_)
                exact hJ156_11 I16 H locs ls hP hS  (lv_sub hl [0, 1, 2, 3, 4, 5] rfl) hf
              clear ej_15
              refine lv_icmp_ge (tgt := 150) hx hb dX6_countIn_135 (by decide) (fun c17 => ?_) (fun c17 => ?_)
              · have hf := ifT hf c17
                refine lv_iconst (v := (-1 : Int32)) hx hb dX6_countIn_150 (by decide) ?_
                exact hJ151_15 (-1 : Int32) H locs ls hP hS  (lv_sub hl [0, 1, 2, 3, 4, 5] rfl) hf
              · have hf := ifF hf c17
                refine lv_aload_n hx hb dX6_countIn_138 rfl (lv_at hl 1 rfl) ?_
                have t18 : kdC (R x1 1) = 1 := wt hT h1 rfl
                refine mm_getr hx hb hts hown hKK hP fk8_1 (Nat.le_of_ble_eq_true rfl) lkX6_32 (kdC_lt h1 (Nat.succ_ne_zero _)) h1 (nC t18 (Nat.succ_ne_zero _)) dX6_countIn_139 ?_
                refine lv_iload hx hb dX6_countIn_142 (lv_at hl 5 rfl) ?_
                refine lv_iconst (v := (1 : Int32)) hx hb dX6_countIn_144 (by decide) ?_
                refine lv_iadd hx hb dX6_countIn_145 ?_
                obtain ⟨g19, hf⟩ := grd hf
                refine mm_iald hx hb hKK hP (kdC_lt t18 (Nat.succ_ne_zero _)) t18 g19 dX6_countIn_146 ?_
                refine lv_goto (tgt := 151) hx hb dX6_countIn_147 (by decide) ?_
                exact hJ151_15 (I14 (R x1 1) ((x5 + (1 : Int32))).toNatClampNeg) H locs ls hP hS  (lv_sub hl [0, 1, 2, 3, 4, 5] rfl) hf
          · have hf := ifT hf c12
            refine lv_aload_n hx hb dX6_countIn_87 rfl (lv_at hl 0 rfl) ?_
            refine lv_iload hx hb dX6_countIn_88 (lv_at hl 5 rfl) ?_
            refine lv_iload hx hb dX6_countIn_90 (lv_at hl 5 rfl) ?_
            refine lv_iconst (v := (1 : Int32)) hx hb dX6_countIn_92 (by decide) ?_
            refine lv_iadd hx hb dX6_countIn_93 ?_
            refine lv_iload_n hx hb dX6_countIn_94 rfl (lv_at hl 2 rfl) ?_
            obtain ⟨I20, e20, hf⟩ := bd1_o hf
            refine mm_Vv (rest := []) hx hb hml hown hts hKK hP hS hA (kdC_lt h0 (Nat.succ_ne_zero _)) h0 (show vwCl[6]? = some (yX6_addPart.cls, TX6, 1) from rfl) vkX6_28 (k_X6_addPart l D ce b I_10 L R hT x0 x5 (x5 + (1 : Int32)) x2 h0 I20 e20) rfl hl.1 rfl (Nat.le_of_ble_eq_true rfl) ⟨rfl, rfl⟩ ⟨Nat.le_of_ble_eq_true rfl, Nat.le_of_ble_eq_true rfl⟩ ⟨Nat.zero_le _, Nat.zero_le _⟩ dX6_countIn_95 (fun H locs hP hT hS => ?_)
            refine lv_goto (tgt := 156) hx hb dX6_countIn_98 (by decide) ?_
            exact hJ156_11 I20 H locs ls hP hS  (lv_sub hl [0, 1, 2, 3, 4, 5] rfl) hf
        clear ej_10
        refine lv_icmp_eq (tgt := 75) hx hb dX6_countIn_58 (by decide) (fun c21 => ?_) (fun c21 => ?_)
        · have hf := ifT hf c21
          exact hJ75_10 I_6 H locs ls hP hS  (lv_sub hl [1, 2, 3, 4, 5, 6] rfl) hf
        · have hf := ifF hf c21
          refine lv_aload_n hx hb dX6_countIn_61 rfl (lv_at hl 1 rfl) ?_
          have t22 : kdC (R x0 0) = 1 := wt hT h0 rfl
          refine mm_getr hx hb hts hown hKK hP fk6_0 (Nat.le_of_ble_eq_true rfl) lkX6_11 (kdC_lt h0 (Nat.succ_ne_zero _)) h0 (nC t22 (Nat.succ_ne_zero _)) dX6_countIn_62 ?_
          refine lv_iload hx hb dX6_countIn_65 (lv_at hl 6 rfl) ?_
          refine lv_bipush (v := (6 : Int32)) hx hb dX6_countIn_67 (by decide) ?_
          refine lv_imul hx hb dX6_countIn_69 ?_
          refine lv_iload hx hb dX6_countIn_70 (lv_at hl 0 rfl) ?_
          refine lv_iadd hx hb dX6_countIn_72 ?_
          refine lv_iconst (v := (1 : Int32)) hx hb dX6_countIn_73 (by decide) ?_
          obtain ⟨g23, hf⟩ := grd hf
          refine jnE hf (fun I24 eI24 hf => ?_)
          refine mm_iast hx hb hKK hP hA hS (kdC_lt t22 (Nat.succ_ne_zero _)) t22 g23 dX6_countIn_74 (fun H locs hP hS => ?_)
          rw [← eI24] at hP
          exact hJ75_10 I24 H locs ls hP hS  (lv_sub hl [1, 2, 3, 4, 5, 6] rfl) hf
  obtain ⟨I_25, e_25, hf⟩ := bd1_o hf
  refine lp8 FU x0 x1 x2 x3 x4 ((I x1 2) - (1 : Int32)) I L R I_25 H locs ls hP hS hT h0 h1 (lv_sub hl [1, 2, 3, 4, 5, 0] rfl) e_25 (fun H locs ls hP hS hl => ?_)
  exact hret I_25 hf H locs ls _ dX6_countIn_162 hP hT hS
def rmX4_addRow : Room := { frames := 0, cells := 0, slots := 0, locals := 0 }
set_option maxHeartbeats 4000000 in
set_option maxRecDepth 100000 in
theorem k_X4_addRow (l : Launch) (D : va_G) (ce : Nat → ClassId) (b : Nat) (I : mI) (L : mL) (R : mR) (hT : WT kdC R) (x0 : Nat) (x1 : Int32) (x2 : Int32) (h0 : kdC x0 = 10) (o1 : Int32) (o2 : mI) (hf : f_X4_addRow x0 x1 x2 I R = some (o1, o2)) : Met l yX4_addRow (Cond.code yX4_addRow cX4_addRow 6 (some .boolean) :: GW) rmX4_addRow (va_Pc [.ref (b + x0), .int x1, .int x2] (PW D ce b kdC lnC 272 I L R)) (va_Qi (fun r u => r = o1 ∧ u = (o2, L, R)) (QW D ce b kdC lnC 272) (box b 272)) 0 0 (box b 272) := by
  refine Met.ofW (cc := cX4_addRow) (maxL := 6) (ret := (some .boolean)) (by decide) rfl ?_
  intro p e s m args below meth c s₁ B hml hv
  obtain ⟨rfl, hP, hKK⟩ := hv
  have hx := B.exec
  have hb := B.bytes
  have hr := B.returns
  have hts0 := atoms_spec (ws := Cond.code yX4_addRow cX4_addRow 6 (some .boolean) :: GW) B.pre
  have hts : ∀ w ∈ GW, w.before _ s = true := fun w h => hts0 w (List.mem_cons_of_mem _ h)
  clear hts0
  have hown : s.vm.findClass RX4 = some m.cls := findClass_of_methodNamed B.named
  have hlocks := B.notSynchronized
  have hA : ∀ q, box b 272 q → box b 272 q := fun _ h => h
  have hS : va_S (box b 272) s.heap s.heap [] := va_S.rf
  have hl := lv_entry ([.ref (b + x0), .int x1, .int x2]) (n := 6) (Nat.le_of_ble_eq_true rfl)
  rw [lg_entry_eq]
  generalize (lg_sl ([.ref (b + x0), .int x1, .int x2]) ++ List.replicate (6 - (lg_sl ([.ref (b + x0), .int x1, .int x2])).length) Slot.unset).toArray = ls at hl ⊢
  have hl : lv_has ls 6 [(0, .ref (b + x0)), (1, .int x1), (2, .int x2)] := hl
  generalize ([.ref (b + x0), .int x1, .int x2] : List Value).toArray = av at hts ⊢
  show W p l e rmX4_addRow s m av below meth c s.heap [] 0 0 _ _
  obtain ⟨QQ, hQQ⟩ : ∃ z, z = MQ below (va_Qi (fun r u => r = o1 ∧ u = (o2, L, R)) (QW D ce b kdC lnC 272) (box b 272)) av s 0 0 (box b 272) := ⟨_, rfl⟩
  rw [← hQQ]
  have hret : ∀ (r : Int32) (I1 : mI), some (r, I1) = some (o1, o2) → ∀ (H1 : Heap) (locs1 : List Loc) (ls1 : Array Slot) (pc1 : Nat), decode cX4_addRow pc1 = .ok (.ireturn, 1) → zb r = true → va_P D vwCl (wd ce b kdC lnC 272 I1 L R) H1 → WT kdC R → va_S (box b 272) s.heap H1 locs1 → W p l e rmX4_addRow s m av below meth c H1 locs1 0 0 QQ (F0 m pc1 ls1 [.int r]) := by
    intro r I1 hq H1 locs1 ls1 pc1 hd hz hP hT hS
    cases hq
    rw [hQQ]
    exact mm_zret hx hb hr hlocks hz hP hT hS hd
  unfold f_X4_addRow at hf
  obtain ⟨H, hH⟩ : ∃ z, z = s.heap := ⟨_, rfl⟩
  obtain ⟨locs, hlo⟩ : ∃ z : List Loc, z = [] := ⟨_, rfl⟩
  have hP : va_P D vwCl (wd ce b kdC lnC 272 I L R) H := by rw [hH]; exact hP
  have hS : va_S (box b 272) s.heap H locs := by rw [hH, hlo]; exact hS
  rw [show W p l e rmX4_addRow s m av below meth c s.heap [] 0 0 QQ = W p l e rmX4_addRow s m av below meth c H locs 0 0 QQ by rw [hH, hlo]]
  clear hH hlo
  clear hQQ
  show W p l e rmX4_addRow s m av below meth c H locs 0 0 QQ (F0 m 0 ls [])
  refine lv_iload_n hx hb dX4_addRow_0 rfl (lv_at hl 1 rfl) ?_
  refine lv_bipush (v := (6 : Int32)) hx hb dX4_addRow_1 (by decide) ?_
  refine lv_imul hx hb dX4_addRow_3 ?_
  refine lv_istore_n (lv' := [(3, .int (x1 * (6 : Int32))), (0, .ref (b + x0)), (1, .int x1), (2, .int x2)]) hx hb dX4_addRow_4 rfl hl (Nat.le_of_ble_eq_true rfl) rfl (fun ls hl => ?_)
  refine lv_iload_n hx hb dX4_addRow_5 rfl (lv_at hl 0 rfl) ?_
  refine lv_if_lt (tgt := 24) hx hb dX4_addRow_6 (by decide) (fun c1 => ?_) (fun c1 => ?_)
  · have hf := ifT hf c1
    refine lv_iconst (v := (0 : Int32)) hx hb dX4_addRow_24 (by decide) ?_
    exact hret (0 : Int32) I hf H locs ls _ dX4_addRow_25 rfl hP hT hS
  · have hf := ifF hf c1
    refine lv_iload_n hx hb dX4_addRow_9 rfl (lv_at hl 0 rfl) ?_
    refine lv_bipush (v := (6 : Int32)) hx hb dX4_addRow_10 (by decide) ?_
    refine lv_iadd hx hb dX4_addRow_12 ?_
    refine lv_aload_n hx hb dX4_addRow_13 rfl (lv_at hl 1 rfl) ?_
    have t2 : kdC (R x0 1) = 12 := wt hT h0 rfl
    refine mm_getr hx hb hts hown hKK hP fk4_1 (Nat.le_of_ble_eq_true rfl) lkX4_18 (kdC_lt h0 (Nat.succ_ne_zero _)) h0 (nC t2 (Nat.succ_ne_zero _)) dX4_addRow_14 ?_
    have t3 : kdC (R (R x0 1) 0) = 1 := wt hT t2 rfl
    refine mm_getr hx hb hts hown hKK hP fk6_0 (Nat.le_of_ble_eq_true rfl) lkX4_106 (kdC_lt t2 (Nat.succ_ne_zero _)) t2 (nC t3 (Nat.succ_ne_zero _)) dX4_addRow_17 ?_
    refine mm_alen hx hb hKK hP (kdC_lt t3 (Nat.succ_ne_zero _)) t3 dX4_addRow_20 ?_
    refine lv_icmp_le (tgt := 26) hx hb dX4_addRow_21 (by decide) (fun c4 => ?_) (fun c4 => ?_)
    · have hf := ifT hf c4
      refine lv_aload_n hx hb dX4_addRow_26 rfl (lv_at hl 1 rfl) ?_
      have t5 : kdC (R x0 0) = 12 := wt hT h0 rfl
      refine mm_getr hx hb hts hown hKK hP fk4_0 (Nat.le_of_ble_eq_true rfl) lkX4_12 (kdC_lt h0 (Nat.succ_ne_zero _)) h0 (nC t5 (Nat.succ_ne_zero _)) dX4_addRow_27 ?_
      have t6 : kdC (R (R x0 0) 0) = 1 := wt hT t5 rfl
      refine mm_getr hx hb hts hown hKK hP fk6_0 (Nat.le_of_ble_eq_true rfl) lkX4_106 (kdC_lt t5 (Nat.succ_ne_zero _)) t5 (nC t6 (Nat.succ_ne_zero _)) dX4_addRow_30 ?_
      refine lv_iconst (v := (4 : Int32)) hx hb dX4_addRow_33 (by decide) ?_
      obtain ⟨g7, hf⟩ := grd hf
      refine mm_iald hx hb hKK hP (kdC_lt t6 (Nat.succ_ne_zero _)) t6 g7 dX4_addRow_34 ?_
      refine lv_aload_n hx hb dX4_addRow_35 rfl (lv_at hl 1 rfl) ?_
      refine mm_getr hx hb hts hown hKK hP fk4_1 (Nat.le_of_ble_eq_true rfl) lkX4_18 (kdC_lt h0 (Nat.succ_ne_zero _)) h0 (nC t2 (Nat.succ_ne_zero _)) dX4_addRow_36 ?_
      refine mm_getr hx hb hts hown hKK hP fk6_0 (Nat.le_of_ble_eq_true rfl) lkX4_106 (kdC_lt t2 (Nat.succ_ne_zero _)) t2 (nC t3 (Nat.succ_ne_zero _)) dX4_addRow_39 ?_
      refine lv_iload_n hx hb dX4_addRow_42 rfl (lv_at hl 0 rfl) ?_
      refine lv_iconst (v := (4 : Int32)) hx hb dX4_addRow_43 (by decide) ?_
      refine lv_iadd hx hb dX4_addRow_44 ?_
      obtain ⟨g8, hf⟩ := grd hf
      refine mm_iald hx hb hKK hP (kdC_lt t3 (Nat.succ_ne_zero _)) t3 g8 dX4_addRow_45 ?_
      refine lv_icmp_lt (tgt := 72) hx hb dX4_addRow_46 (by decide) (fun c9 => ?_) (fun c9 => ?_)
      · have hf := ifT hf c9
        refine lv_iconst (v := (0 : Int32)) hx hb dX4_addRow_72 (by decide) ?_
        exact hret (0 : Int32) I hf H locs ls _ dX4_addRow_73 rfl hP hT hS
      · have hf := ifF hf c9
        refine lv_aload_n hx hb dX4_addRow_49 rfl (lv_at hl 1 rfl) ?_
        refine mm_getr hx hb hts hown hKK hP fk4_0 (Nat.le_of_ble_eq_true rfl) lkX4_12 (kdC_lt h0 (Nat.succ_ne_zero _)) h0 (nC t5 (Nat.succ_ne_zero _)) dX4_addRow_50 ?_
        refine mm_getr hx hb hts hown hKK hP fk6_0 (Nat.le_of_ble_eq_true rfl) lkX4_106 (kdC_lt t5 (Nat.succ_ne_zero _)) t5 (nC t6 (Nat.succ_ne_zero _)) dX4_addRow_53 ?_
        refine lv_iconst (v := (5 : Int32)) hx hb dX4_addRow_56 (by decide) ?_
        obtain ⟨g10, hf⟩ := grd hf
        refine mm_iald hx hb hKK hP (kdC_lt t6 (Nat.succ_ne_zero _)) t6 g10 dX4_addRow_57 ?_
        refine lv_aload_n hx hb dX4_addRow_58 rfl (lv_at hl 1 rfl) ?_
        refine mm_getr hx hb hts hown hKK hP fk4_1 (Nat.le_of_ble_eq_true rfl) lkX4_18 (kdC_lt h0 (Nat.succ_ne_zero _)) h0 (nC t2 (Nat.succ_ne_zero _)) dX4_addRow_59 ?_
        refine mm_getr hx hb hts hown hKK hP fk6_0 (Nat.le_of_ble_eq_true rfl) lkX4_106 (kdC_lt t2 (Nat.succ_ne_zero _)) t2 (nC t3 (Nat.succ_ne_zero _)) dX4_addRow_62 ?_
        refine lv_iload_n hx hb dX4_addRow_65 rfl (lv_at hl 0 rfl) ?_
        refine lv_iconst (v := (5 : Int32)) hx hb dX4_addRow_66 (by decide) ?_
        refine lv_iadd hx hb dX4_addRow_67 ?_
        obtain ⟨g11, hf⟩ := grd hf
        refine mm_iald hx hb hKK hP (kdC_lt t3 (Nat.succ_ne_zero _)) t3 g11 dX4_addRow_68 ?_
        refine lv_icmp_ge (tgt := 74) hx hb dX4_addRow_69 (by decide) (fun c12 => ?_) (fun c12 => ?_)
        · have hf := ifT hf c12
          refine lv_aload_n hx hb dX4_addRow_74 rfl (lv_at hl 1 rfl) ?_
          refine mm_geti hx hb hts hown hKK hP fk4_4 (Or.inl rfl) lkX4_40 (kdC_lt h0 (Nat.succ_ne_zero _)) h0 dX4_addRow_75 ?_
          refine lv_iconst (v := (5 : Int32)) hx hb dX4_addRow_78 (by decide) ?_
          refine lv_imul hx hb dX4_addRow_79 ?_
          refine lv_istore (lv' := [(4, .int ((I x0 4) * (5 : Int32))), (3, .int (x1 * (6 : Int32))), (0, .ref (b + x0)), (1, .int x1), (2, .int x2)]) hx hb dX4_addRow_80 hl (Nat.le_of_ble_eq_true rfl) rfl (fun ls hl => ?_)
          refine lv_iload hx hb dX4_addRow_82 (lv_at hl 0 rfl) ?_
          refine lv_iconst (v := (5 : Int32)) hx hb dX4_addRow_84 (by decide) ?_
          refine lv_iadd hx hb dX4_addRow_85 ?_
          refine lv_aload_n hx hb dX4_addRow_86 rfl (lv_at hl 2 rfl) ?_
          have t13 : kdC (R x0 2) = 1 := wt hT h0 rfl
          refine mm_getr hx hb hts hown hKK hP fk4_2 (Nat.le_of_ble_eq_true rfl) lkX4_21 (kdC_lt h0 (Nat.succ_ne_zero _)) h0 (nC t13 (Nat.succ_ne_zero _)) dX4_addRow_87 ?_
          refine mm_alen hx hb hKK hP (kdC_lt t13 (Nat.succ_ne_zero _)) t13 dX4_addRow_90 ?_
          refine lv_icmp_le (tgt := 96) hx hb dX4_addRow_91 (by decide) (fun c14 => ?_) (fun c14 => ?_)
          · have hf := ifT hf c14
            refine lv_iconst (v := (0 : Int32)) hx hb dX4_addRow_96 (by decide) ?_
            refine lv_istore (lv' := [(5, .int (0 : Int32)), (4, .int ((I x0 4) * (5 : Int32))), (3, .int (x1 * (6 : Int32))), (0, .ref (b + x0)), (1, .int x1), (2, .int x2)]) hx hb dX4_addRow_97 hl (Nat.le_of_ble_eq_true rfl) rfl (fun ls hl => ?_)
            have lp99 : ∀ (n : Nat) (x0 : Nat) (x2 : Int32) (x3 : Int32) (x4 : Int32) (x5 : Int32) (I : mI) (L : mL) (R : mR) (a1 : mI) (H : Heap) (locs : List Loc) (ls : Array Slot), va_P D vwCl (wd ce b kdC lnC 272 I L R) H → va_S (box b 272) s.heap H locs → WT kdC R → kdC x0 = 10 → lv_has ls 6 [(0, .ref (b + x0)), (2, .int x2), (3, .int x3), (4, .int x4), (5, .int x5)] → f_X4_addRow_L99 n x0 x2 x3 x4 x5 I R = some a1 → (∀ (H1 : Heap) (locs1 : List Loc) (ls1 : Array Slot), va_P D vwCl (wd ce b kdC lnC 272 a1 L R) H1 → va_S (box b 272) s.heap H1 locs1 → lv_has ls1 6 [(0, .ref (b + x0)), (2, .int x2), (4, .int x4)] → W p l e rmX4_addRow s m av below meth c H1 locs1 0 0 QQ (F0 m 144 ls1 [])) → W p l e rmX4_addRow s m av below meth c H locs 0 0 QQ (F0 m 99 ls []) := by
              intro n
              induction n with
              | zero =>
                intro x0 x2 x3 x4 x5 I L R a1 H locs ls hP hS hT h0 hl hf kx
                exact absurd (show (none : Option (mI)) = some _ from hf) (by simp)
              | succ n ih =>
                intro x0 x2 x3 x4 x5 I L R a1 H locs ls hP hS hT h0 hl hf kx
                rw [f_X4_addRow_L99] at hf
                refine lv_iload hx hb dX4_addRow_99 (lv_at hl 4 rfl) ?_
                refine lv_iconst (v := (4 : Int32)) hx hb dX4_addRow_101 (by decide) ?_
                refine lv_icmp_ge (tgt := 144) hx hb dX4_addRow_102 (by decide) (fun c15 => ?_) (fun c15 => ?_)
                · have hf := ifT hf c15
                  cases hf
                  exact kx H locs ls hP hS (lv_sub hl [0, 1, 3] rfl)
                · have hf := ifF hf c15
                  refine lv_aload_n hx hb dX4_addRow_105 rfl (lv_at hl 0 rfl) ?_
                  have t16 : kdC (R x0 2) = 1 := wt hT h0 rfl
                  refine mm_getr hx hb hts hown hKK hP fk4_2 (Nat.le_of_ble_eq_true rfl) lkX4_21 (kdC_lt h0 (Nat.succ_ne_zero _)) h0 (nC t16 (Nat.succ_ne_zero _)) dX4_addRow_106 ?_
                  refine lv_iload hx hb dX4_addRow_109 (lv_at hl 3 rfl) ?_
                  refine lv_iload hx hb dX4_addRow_111 (lv_at hl 4 rfl) ?_
                  refine lv_iadd hx hb dX4_addRow_113 ?_
                  refine lv_aload_n hx hb dX4_addRow_114 rfl (lv_at hl 0 rfl) ?_
                  have t17 : kdC (R x0 0) = 12 := wt hT h0 rfl
                  refine mm_getr hx hb hts hown hKK hP fk4_0 (Nat.le_of_ble_eq_true rfl) lkX4_12 (kdC_lt h0 (Nat.succ_ne_zero _)) h0 (nC t17 (Nat.succ_ne_zero _)) dX4_addRow_115 ?_
                  have t18 : kdC (R (R x0 0) 0) = 1 := wt hT t17 rfl
                  refine mm_getr hx hb hts hown hKK hP fk6_0 (Nat.le_of_ble_eq_true rfl) lkX4_106 (kdC_lt t17 (Nat.succ_ne_zero _)) t17 (nC t18 (Nat.succ_ne_zero _)) dX4_addRow_118 ?_
                  refine lv_iload hx hb dX4_addRow_121 (lv_at hl 4 rfl) ?_
                  obtain ⟨g19, hf⟩ := grd hf
                  refine mm_iald hx hb hKK hP (kdC_lt t18 (Nat.succ_ne_zero _)) t18 g19 dX4_addRow_123 ?_
                  refine lv_aload_n hx hb dX4_addRow_124 rfl (lv_at hl 0 rfl) ?_
                  have t20 : kdC (R x0 1) = 12 := wt hT h0 rfl
                  refine mm_getr hx hb hts hown hKK hP fk4_1 (Nat.le_of_ble_eq_true rfl) lkX4_18 (kdC_lt h0 (Nat.succ_ne_zero _)) h0 (nC t20 (Nat.succ_ne_zero _)) dX4_addRow_125 ?_
                  have t21 : kdC (R (R x0 1) 0) = 1 := wt hT t20 rfl
                  refine mm_getr hx hb hts hown hKK hP fk6_0 (Nat.le_of_ble_eq_true rfl) lkX4_106 (kdC_lt t20 (Nat.succ_ne_zero _)) t20 (nC t21 (Nat.succ_ne_zero _)) dX4_addRow_128 ?_
                  refine lv_iload_n hx hb dX4_addRow_131 rfl (lv_at hl 2 rfl) ?_
                  refine lv_iload hx hb dX4_addRow_132 (lv_at hl 4 rfl) ?_
                  refine lv_iadd hx hb dX4_addRow_134 ?_
                  obtain ⟨g22, hf⟩ := grd hf
                  refine mm_iald hx hb hKK hP (kdC_lt t21 (Nat.succ_ne_zero _)) t21 g22 dX4_addRow_135 ?_
                  refine lv_isub hx hb dX4_addRow_136 ?_
                  obtain ⟨g23, hf⟩ := grd hf
                  refine jnE hf (fun I24 eI24 hf => ?_)
                  refine mm_iast hx hb hKK hP hA hS (kdC_lt t16 (Nat.succ_ne_zero _)) t16 g23 dX4_addRow_137 (fun H locs hP hS => ?_)
                  rw [← eI24] at hP
                  refine lv_iinc (v := (x5 + (1 : Int32))) (lv' := [(5, .int (x5 + (1 : Int32))), (0, .ref (b + x0)), (2, .int x2), (3, .int x3), (4, .int x4)]) hx hb dX4_addRow_138 hl (k := 4) rfl rfl (Nat.le_of_ble_eq_true rfl) rfl (fun ls hl => ?_)
                  refine lv_goto (tgt := 99) hx hb dX4_addRow_141 (by decide) ?_
                  exact ih x0 x2 x3 x4 (x5 + (1 : Int32)) I24 L R a1 H locs ls hP hS hT h0 (lv_sub hl [1, 2, 3, 4, 0] rfl) hf kx
            obtain ⟨I_25, e_25, hf⟩ := bd1_o hf
            refine lp99 FU x0 x2 (x1 * (6 : Int32)) ((I x0 4) * (5 : Int32)) (0 : Int32) I L R I_25 H locs ls hP hS hT h0 (lv_sub hl [3, 5, 2, 1, 0] rfl) e_25 (fun H locs ls hP hS hl => ?_)
            refine lv_aload_n hx hb dX4_addRow_144 rfl (lv_at hl 0 rfl) ?_
            refine mm_getr hx hb hts hown hKK hP fk4_2 (Nat.le_of_ble_eq_true rfl) lkX4_21 (kdC_lt h0 (Nat.succ_ne_zero _)) h0 (nC t13 (Nat.succ_ne_zero _)) dX4_addRow_145 ?_
            refine lv_iload hx hb dX4_addRow_148 (lv_at hl 2 rfl) ?_
            refine lv_iconst (v := (4 : Int32)) hx hb dX4_addRow_150 (by decide) ?_
            refine lv_iadd hx hb dX4_addRow_151 ?_
            refine lv_iload_n hx hb dX4_addRow_152 rfl (lv_at hl 1 rfl) ?_
            obtain ⟨g26, hf⟩ := grd hf
            refine jnE hf (fun I27 eI27 hf => ?_)
            refine mm_iast hx hb hKK hP hA hS (kdC_lt t13 (Nat.succ_ne_zero _)) t13 g26 dX4_addRow_153 (fun H locs hP hS => ?_)
            rw [← eI27] at hP
            refine lv_aload_n hx hb dX4_addRow_154 rfl (lv_at hl 0 rfl) ?_
            refine lv_dup hx hb dX4_addRow_155 rfl ?_
            refine mm_geti hx hb hts hown hKK hP fk4_4 (Or.inl rfl) lkX4_40 (kdC_lt h0 (Nat.succ_ne_zero _)) h0 dX4_addRow_156 ?_
            refine lv_iconst (v := (1 : Int32)) hx hb dX4_addRow_159 (by decide) ?_
            refine lv_iadd hx hb dX4_addRow_160 ?_
            refine jnE hf (fun I28 eI28 hf => ?_)
            refine mm_puti hx hb hts hown hKK hP hA hS fk4_4 (Or.inl rfl) fw4_4 lkX4_40 (kdC_lt h0 (Nat.succ_ne_zero _)) h0 rfl rfl dX4_addRow_161 (fun H locs hP hS => ?_)
            rw [← eI28] at hP
            refine lv_iconst (v := (1 : Int32)) hx hb dX4_addRow_164 (by decide) ?_
            exact hret (1 : Int32) I28 hf H locs ls _ dX4_addRow_165 rfl hP hT hS
          · have hf := ifF hf c14
            refine lv_iconst (v := (0 : Int32)) hx hb dX4_addRow_94 (by decide) ?_
            exact hret (0 : Int32) I hf H locs ls _ dX4_addRow_95 rfl hP hT hS
        · have hf := ifF hf c12
          refine lv_iconst (v := (0 : Int32)) hx hb dX4_addRow_72 (by decide) ?_
          exact hret (0 : Int32) I hf H locs ls _ dX4_addRow_73 rfl hP hT hS
    · have hf := ifF hf c4
      refine lv_iconst (v := (0 : Int32)) hx hb dX4_addRow_24 (by decide) ?_
      exact hret (0 : Int32) I hf H locs ls _ dX4_addRow_25 rfl hP hT hS
def rmX4_addCallRows : Room := { frames := 1, cells := 0, slots := 0, locals := 25 }
set_option maxHeartbeats 4000000 in
set_option maxRecDepth 100000 in
theorem k_X4_addCallRows (l : Launch) (D : va_G) (ce : Nat → ClassId) (b : Nat) (I : mI) (L : mL) (R : mR) (hT : WT kdC R) (x0 : Nat) (x1 : Nat) (x2 : Int32) (x3 : Int32) (h0 : kdC x0 = 10) (h1 : kdC x1 = 6) (o1 : Int32) (o2 : mI) (hf : f_X4_addCallRows x0 x1 x2 x3 I R = some (o1, o2)) : Met l yX4_addCallRows (Cond.code yX4_addCallRows cX4_addCallRows 5 (some .boolean) :: GW) rmX4_addCallRows (va_Pc [.ref (b + x0), .ref (b + x1), .int x2, .int x3] (PW D ce b kdC lnC 272 I L R)) (va_Qi (fun r u => r = o1 ∧ u = (o2, L, R)) (QW D ce b kdC lnC 272) (box b 272)) 0 0 (box b 272) := by
  refine Met.ofW (cc := cX4_addCallRows) (maxL := 5) (ret := (some .boolean)) (by decide) rfl ?_
  intro p e s m args below meth c s₁ B hml hv
  obtain ⟨rfl, hP, hKK⟩ := hv
  have hx := B.exec
  have hb := B.bytes
  have hr := B.returns
  have hts0 := atoms_spec (ws := Cond.code yX4_addCallRows cX4_addCallRows 5 (some .boolean) :: GW) B.pre
  have hts : ∀ w ∈ GW, w.before _ s = true := fun w h => hts0 w (List.mem_cons_of_mem _ h)
  clear hts0
  have hown : s.vm.findClass RX4 = some m.cls := findClass_of_methodNamed B.named
  have hlocks := B.notSynchronized
  have hA : ∀ q, box b 272 q → box b 272 q := fun _ h => h
  have hS : va_S (box b 272) s.heap s.heap [] := va_S.rf
  have hl := lv_entry ([.ref (b + x0), .ref (b + x1), .int x2, .int x3]) (n := 5) (Nat.le_of_ble_eq_true rfl)
  rw [lg_entry_eq]
  generalize (lg_sl ([.ref (b + x0), .ref (b + x1), .int x2, .int x3]) ++ List.replicate (5 - (lg_sl ([.ref (b + x0), .ref (b + x1), .int x2, .int x3])).length) Slot.unset).toArray = ls at hl ⊢
  have hl : lv_has ls 5 [(0, .ref (b + x0)), (1, .ref (b + x1)), (2, .int x2), (3, .int x3)] := hl
  generalize ([.ref (b + x0), .ref (b + x1), .int x2, .int x3] : List Value).toArray = av at hts ⊢
  show W p l e rmX4_addCallRows s m av below meth c s.heap [] 0 0 _ _
  obtain ⟨QQ, hQQ⟩ : ∃ z, z = MQ below (va_Qi (fun r u => r = o1 ∧ u = (o2, L, R)) (QW D ce b kdC lnC 272) (box b 272)) av s 0 0 (box b 272) := ⟨_, rfl⟩
  rw [← hQQ]
  have hret : ∀ (r : Int32) (I1 : mI), some (r, I1) = some (o1, o2) → ∀ (H1 : Heap) (locs1 : List Loc) (ls1 : Array Slot) (pc1 : Nat), decode cX4_addCallRows pc1 = .ok (.ireturn, 1) → zb r = true → va_P D vwCl (wd ce b kdC lnC 272 I1 L R) H1 → WT kdC R → va_S (box b 272) s.heap H1 locs1 → W p l e rmX4_addCallRows s m av below meth c H1 locs1 0 0 QQ (F0 m pc1 ls1 [.int r]) := by
    intro r I1 hq H1 locs1 ls1 pc1 hd hz hP hT hS
    cases hq
    rw [hQQ]
    exact mm_zret hx hb hr hlocks hz hP hT hS hd
  unfold f_X4_addCallRows at hf
  obtain ⟨H, hH⟩ : ∃ z, z = s.heap := ⟨_, rfl⟩
  obtain ⟨locs, hlo⟩ : ∃ z : List Loc, z = [] := ⟨_, rfl⟩
  have hP : va_P D vwCl (wd ce b kdC lnC 272 I L R) H := by rw [hH]; exact hP
  have hS : va_S (box b 272) s.heap H locs := by rw [hH, hlo]; exact hS
  rw [show W p l e rmX4_addCallRows s m av below meth c s.heap [] 0 0 QQ = W p l e rmX4_addCallRows s m av below meth c H locs 0 0 QQ by rw [hH, hlo]]
  clear hH hlo
  clear hQQ
  show W p l e rmX4_addCallRows s m av below meth c H locs 0 0 QQ (F0 m 0 ls [])
  refine lv_iconst (v := (0 : Int32)) hx hb dX4_addCallRows_0 (by decide) ?_
  refine lv_istore (lv' := [(4, .int (0 : Int32)), (0, .ref (b + x0)), (1, .ref (b + x1)), (2, .int x2), (3, .int x3)]) hx hb dX4_addCallRows_1 hl (Nat.le_of_ble_eq_true rfl) rfl (fun ls hl => ?_)
  have lp3 : ∀ (n : Nat) (x0 : Nat) (x1 : Nat) (x2 : Int32) (x3 : Int32) (x4 : Int32) (I : mI) (L : mL) (R : mR) (q : (Int32 × mI) ⊕ (mI)) (H : Heap) (locs : List Loc) (ls : Array Slot), va_P D vwCl (wd ce b kdC lnC 272 I L R) H → va_S (box b 272) s.heap H locs → WT kdC R → kdC x0 = 10 → kdC x1 = 6 → lv_has ls 5 [(0, .ref (b + x0)), (1, .ref (b + x1)), (2, .int x2), (3, .int x3), (4, .int x4)] → f_X4_addCallRows_L3 n x0 x1 x2 x3 x4 I R = some q → (∀ (I1 : mI), some (Sum.inr I1) = some q → ∀ (H1 : Heap) (locs1 : List Loc) (ls1 : Array Slot), va_P D vwCl (wd ce b kdC lnC 272 I1 L R) H1 → va_S (box b 272) s.heap H1 locs1 → lv_has ls1 5 [] → W p l e rmX4_addCallRows s m av below meth c H1 locs1 0 0 QQ (F0 m 57 ls1 [])) → (∀ (r : Int32) (I1 : mI), some (Sum.inl (r, I1)) = some q → ∀ (H1 : Heap) (locs1 : List Loc) (ls1 : Array Slot) (pc1 : Nat), decode cX4_addCallRows pc1 = .ok (.ireturn, 1) → zb r = true → va_P D vwCl (wd ce b kdC lnC 272 I1 L R) H1 → WT kdC R → va_S (box b 272) s.heap H1 locs1 → W p l e rmX4_addCallRows s m av below meth c H1 locs1 0 0 QQ (F0 m pc1 ls1 [.int r])) → W p l e rmX4_addCallRows s m av below meth c H locs 0 0 QQ (F0 m 3 ls []) := by
    intro n
    induction n with
    | zero =>
      intro x0 x1 x2 x3 x4 I L R q H locs ls hP hS hT h0 h1 hl hf kx kr
      exact absurd (show (none : Option ((Int32 × mI) ⊕ (mI))) = some _ from hf) (by simp)
    | succ n ih =>
      intro x0 x1 x2 x3 x4 I L R q H locs ls hP hS hT h0 h1 hl hf kx kr
      rw [f_X4_addCallRows_L3] at hf
      refine lv_iload hx hb dX4_addCallRows_3 (lv_at hl 4 rfl) ?_
      refine lv_aload_n hx hb dX4_addCallRows_5 rfl (lv_at hl 1 rfl) ?_
      refine mm_geti hx hb hts hown hKK hP fk0_8 (Or.inl rfl) lkX4_94 (kdC_lt h1 (Nat.succ_ne_zero _)) h1 dX4_addCallRows_6 ?_
      refine lv_icmp_ge (tgt := 57) hx hb dX4_addCallRows_9 (by decide) (fun c1 => ?_) (fun c1 => ?_)
      · have hf := ifT hf c1
        exact kx I hf H locs ls hP hS (lv_sub hl [] rfl)
      · have hf := ifF hf c1
        refine lv_aload_n hx hb dX4_addCallRows_12 rfl (lv_at hl 1 rfl) ?_
        have t2 : kdC (R x1 0) = 1 := wt hT h1 rfl
        refine mm_getr hx hb hts hown hKK hP fk0_0 (Nat.le_of_ble_eq_true rfl) lkX4_97 (kdC_lt h1 (Nat.succ_ne_zero _)) h1 (nC t2 (Nat.succ_ne_zero _)) dX4_addCallRows_13 ?_
        refine lv_iload hx hb dX4_addCallRows_16 (lv_at hl 4 rfl) ?_
        obtain ⟨g3, hf⟩ := grd hf
        refine mm_iald hx hb hKK hP (kdC_lt t2 (Nat.succ_ne_zero _)) t2 g3 dX4_addCallRows_18 ?_
        refine lv_iload_n hx hb dX4_addCallRows_19 rfl (lv_at hl 3 rfl) ?_
        refine jnE hf (fun j51_4 ej_4 hf => ?_)
        have hJ51_4 : ∀ (I_4 : mI) (H : Heap) (locs : List Loc) (ls : Array Slot), va_P D vwCl (wd ce b kdC lnC 272 I_4 L R) H → va_S (box b 272) s.heap H locs → lv_has ls 5 [(0, .ref (b + x0)), (1, .ref (b + x1)), (2, .int x2), (3, .int x3), (4, .int x4)] → j51_4 I_4 = some q → W p l e rmX4_addCallRows s m av below meth c H locs 0 0 QQ (F0 m 51 ls []) := by
          intro I_4 H locs ls hP hS  hl hf
          rw [ej_4] at hf
          try dsimp only at hf
          refine lv_iinc (v := (x4 + (1 : Int32))) (lv' := [(4, .int (x4 + (1 : Int32))), (0, .ref (b + x0)), (1, .ref (b + x1)), (2, .int x2), (3, .int x3)]) hx hb dX4_addCallRows_51 hl (k := 4) rfl rfl (Nat.le_of_ble_eq_true rfl) rfl (fun ls hl => ?_)
          refine lv_goto (tgt := 3) hx hb dX4_addCallRows_54 (by decide) ?_
          exact ih x0 x1 x2 x3 (x4 + (1 : Int32)) I_4 L R q H locs ls hP hS hT h0 h1 (lv_sub hl [1, 2, 3, 4, 0] rfl) hf kx kr
        clear ej_4
        refine lv_icmp_ne (tgt := 51) hx hb dX4_addCallRows_20 (by decide) (fun c5 => ?_) (fun c5 => ?_)
        · have hf := ifF hf c5
          exact hJ51_4 I H locs ls hP hS  (lv_sub hl [0, 1, 2, 3, 4] rfl) hf
        · have hf := ifT hf c5
          refine lv_aload_n hx hb dX4_addCallRows_23 rfl (lv_at hl 1 rfl) ?_
          have t6 : kdC (R x1 2) = 1 := wt hT h1 rfl
          refine mm_getr hx hb hts hown hKK hP fk0_2 (Nat.le_of_ble_eq_true rfl) lkX4_100 (kdC_lt h1 (Nat.succ_ne_zero _)) h1 (nC t6 (Nat.succ_ne_zero _)) dX4_addCallRows_24 ?_
          refine lv_iload hx hb dX4_addCallRows_27 (lv_at hl 4 rfl) ?_
          obtain ⟨g7, hf⟩ := grd hf
          refine mm_iald hx hb hKK hP (kdC_lt t6 (Nat.succ_ne_zero _)) t6 g7 dX4_addCallRows_29 ?_
          refine lv_iload_n hx hb dX4_addCallRows_30 rfl (lv_at hl 2 rfl) ?_
          refine lv_icmp_ne (tgt := 51) hx hb dX4_addCallRows_31 (by decide) (fun c8 => ?_) (fun c8 => ?_)
          · have hf := ifF hf c8
            exact hJ51_4 I H locs ls hP hS  (lv_sub hl [0, 1, 2, 3, 4] rfl) hf
          · have hf := ifT hf c8
            refine lv_aload_n hx hb dX4_addCallRows_34 rfl (lv_at hl 0 rfl) ?_
            refine lv_aload_n hx hb dX4_addCallRows_35 rfl (lv_at hl 1 rfl) ?_
            have t9 : kdC (R x1 1) = 1 := wt hT h1 rfl
            refine mm_getr hx hb hts hown hKK hP fk0_1 (Nat.le_of_ble_eq_true rfl) lkX4_103 (kdC_lt h1 (Nat.succ_ne_zero _)) h1 (nC t9 (Nat.succ_ne_zero _)) dX4_addCallRows_36 ?_
            refine lv_iload hx hb dX4_addCallRows_39 (lv_at hl 4 rfl) ?_
            obtain ⟨g10, hf⟩ := grd hf
            refine mm_iald hx hb hKK hP (kdC_lt t9 (Nat.succ_ne_zero _)) t9 g10 dX4_addCallRows_41 ?_
            refine lv_iconst (v := (1 : Int32)) hx hb dX4_addCallRows_42 (by decide) ?_
            obtain ⟨r11, I11, e11, hf⟩ := bd2_o hf
            refine mm_Vi (rest := []) hx hb hml hown hts hKK hP hS hA (kdC_lt h0 (Nat.succ_ne_zero _)) h0 (show vwCl[4]? = some (yX4_addRow.cls, TX4, 5) from rfl) vkX4_44 (k_X4_addRow l D ce b I L R hT x0 (I (R x1 1) x4.toNatClampNeg) (1 : Int32) h0 r11 I11 e11) rfl hl.1 rfl (Nat.le_of_ble_eq_true rfl) ⟨rfl, rfl⟩ ⟨Nat.le_of_ble_eq_true rfl, Nat.le_of_ble_eq_true rfl⟩ ⟨Nat.zero_le _, Nat.zero_le _⟩ dX4_addCallRows_43 (fun H locs hP hT hS => ?_)
            refine lv_if_ne (tgt := 51) hx hb dX4_addCallRows_46 (by decide) (fun c12 => ?_) (fun c12 => ?_)
            · have hf := ifF hf c12
              exact hJ51_4 I11 H locs ls hP hS  (lv_sub hl [0, 1, 2, 3, 4] rfl) hf
            · have hf := ifT hf c12
              refine lv_iconst (v := (0 : Int32)) hx hb dX4_addCallRows_49 (by decide) ?_
              exact kr (0 : Int32) I11 hf H locs ls _ dX4_addCallRows_50 rfl hP hT hS
  obtain ⟨q_13, e_13, hf⟩ := bdS_o hf
  refine lp3 FU x0 x1 x2 x3 (0 : Int32) I L R q_13 H locs ls hP hS hT h0 h1 (lv_sub hl [1, 2, 3, 4, 0] rfl) e_13 (fun I_13 hq H locs ls hP hS hl => ?_) (fun r_13 I_13 hq H locs ls pc1 hd hz hP hT hS => ?_)
  · have hf := elR1 hf (Option.some.inj hq).symm
    refine lv_iconst (v := (1 : Int32)) hx hb dX4_addCallRows_57 (by decide) ?_
    exact hret (1 : Int32) I_13 hf H locs ls _ dX4_addCallRows_58 rfl hP hT hS
  · have hf := elL2 hf (Option.some.inj hq).symm
    exact hret r_13 I_13 hf H locs ls pc1 hd hz hP hT hS
def rmX4_fillRows : Room := { frames := 2, cells := 0, slots := 0, locals := 50 }
set_option maxHeartbeats 4000000 in
set_option maxRecDepth 100000 in
theorem k_X4_fillRows (l : Launch) (D : va_G) (ce : Nat → ClassId) (b : Nat) (I : mI) (L : mL) (R : mR) (hT : WT kdC R) (x0 : Nat) (x1 : Nat) (x2 : Nat) (x3 : Int32) (x4 : Int32) (x5 : Int32) (x6 : Int32) (h0 : kdC x0 = 10) (h1 : kdC x1 = 13) (h2 : kdC x2 = 6) (o1 : Int32) (o2 : mI) (hf : f_X4_fillRows x0 x1 x2 x3 x4 x5 x6 I R = some (o1, o2)) : Met l yX4_fillRows (Cond.code yX4_fillRows cX4_fillRows 8 (some .boolean) :: GW) rmX4_fillRows (va_Pc [.ref (b + x0), .ref (b + x1), .ref (b + x2), .int x3, .int x4, .int x5, .int x6] (PW D ce b kdC lnC 272 I L R)) (va_Qi (fun r u => r = o1 ∧ u = (o2, L, R)) (QW D ce b kdC lnC 272) (box b 272)) 0 0 (box b 272) := by
  refine Met.ofW (cc := cX4_fillRows) (maxL := 8) (ret := (some .boolean)) (by decide) rfl ?_
  intro p e s m args below meth c s₁ B hml hv
  obtain ⟨rfl, hP, hKK⟩ := hv
  have hx := B.exec
  have hb := B.bytes
  have hr := B.returns
  have hts0 := atoms_spec (ws := Cond.code yX4_fillRows cX4_fillRows 8 (some .boolean) :: GW) B.pre
  have hts : ∀ w ∈ GW, w.before _ s = true := fun w h => hts0 w (List.mem_cons_of_mem _ h)
  clear hts0
  have hown : s.vm.findClass RX4 = some m.cls := findClass_of_methodNamed B.named
  have hlocks := B.notSynchronized
  have hA : ∀ q, box b 272 q → box b 272 q := fun _ h => h
  have hS : va_S (box b 272) s.heap s.heap [] := va_S.rf
  have hl := lv_entry ([.ref (b + x0), .ref (b + x1), .ref (b + x2), .int x3, .int x4, .int x5, .int x6]) (n := 8) (Nat.le_of_ble_eq_true rfl)
  rw [lg_entry_eq]
  generalize (lg_sl ([.ref (b + x0), .ref (b + x1), .ref (b + x2), .int x3, .int x4, .int x5, .int x6]) ++ List.replicate (8 - (lg_sl ([.ref (b + x0), .ref (b + x1), .ref (b + x2), .int x3, .int x4, .int x5, .int x6])).length) Slot.unset).toArray = ls at hl ⊢
  have hl : lv_has ls 8 [(0, .ref (b + x0)), (1, .ref (b + x1)), (2, .ref (b + x2)), (3, .int x3), (4, .int x4), (5, .int x5), (6, .int x6)] := hl
  generalize ([.ref (b + x0), .ref (b + x1), .ref (b + x2), .int x3, .int x4, .int x5, .int x6] : List Value).toArray = av at hts ⊢
  show W p l e rmX4_fillRows s m av below meth c s.heap [] 0 0 _ _
  obtain ⟨QQ, hQQ⟩ : ∃ z, z = MQ below (va_Qi (fun r u => r = o1 ∧ u = (o2, L, R)) (QW D ce b kdC lnC 272) (box b 272)) av s 0 0 (box b 272) := ⟨_, rfl⟩
  rw [← hQQ]
  have hret : ∀ (r : Int32) (I1 : mI), some (r, I1) = some (o1, o2) → ∀ (H1 : Heap) (locs1 : List Loc) (ls1 : Array Slot) (pc1 : Nat), decode cX4_fillRows pc1 = .ok (.ireturn, 1) → zb r = true → va_P D vwCl (wd ce b kdC lnC 272 I1 L R) H1 → WT kdC R → va_S (box b 272) s.heap H1 locs1 → W p l e rmX4_fillRows s m av below meth c H1 locs1 0 0 QQ (F0 m pc1 ls1 [.int r]) := by
    intro r I1 hq H1 locs1 ls1 pc1 hd hz hP hT hS
    cases hq
    rw [hQQ]
    exact mm_zret hx hb hr hlocks hz hP hT hS hd
  unfold f_X4_fillRows at hf
  obtain ⟨H, hH⟩ : ∃ z, z = s.heap := ⟨_, rfl⟩
  obtain ⟨locs, hlo⟩ : ∃ z : List Loc, z = [] := ⟨_, rfl⟩
  have hP : va_P D vwCl (wd ce b kdC lnC 272 I L R) H := by rw [hH]; exact hP
  have hS : va_S (box b 272) s.heap H locs := by rw [hH, hlo]; exact hS
  rw [show W p l e rmX4_fillRows s m av below meth c s.heap [] 0 0 QQ = W p l e rmX4_fillRows s m av below meth c H locs 0 0 QQ by rw [hH, hlo]]
  clear hH hlo
  clear hQQ
  show W p l e rmX4_fillRows s m av below meth c H locs 0 0 QQ (F0 m 0 ls [])
  refine lv_aload_n hx hb dX4_fillRows_0 rfl (lv_at hl 0 rfl) ?_
  refine lv_iconst (v := (0 : Int32)) hx hb dX4_fillRows_1 (by decide) ?_
  refine jnE hf (fun I1 eI1 hf => ?_)
  refine mm_puti hx hb hts hown hKK hP hA hS fk4_4 (Or.inl rfl) fw4_4 lkX4_40 (kdC_lt h0 (Nat.succ_ne_zero _)) h0 rfl rfl dX4_fillRows_2 (fun H locs hP hS => ?_)
  rw [← eI1] at hP
  refine lv_iconst (v := (0 : Int32)) hx hb dX4_fillRows_5 (by decide) ?_
  refine lv_istore (lv' := [(7, .int (0 : Int32)), (0, .ref (b + x0)), (1, .ref (b + x1)), (2, .ref (b + x2)), (3, .int x3), (4, .int x4), (5, .int x5), (6, .int x6)]) hx hb dX4_fillRows_6 hl (Nat.le_of_ble_eq_true rfl) rfl (fun ls hl => ?_)
  have lp8 : ∀ (n : Nat) (x0 : Nat) (x1 : Nat) (x2 : Nat) (x3 : Int32) (x4 : Int32) (x5 : Int32) (x6 : Int32) (x7 : Int32) (I : mI) (L : mL) (R : mR) (q : (Int32 × mI) ⊕ (mI)) (H : Heap) (locs : List Loc) (ls : Array Slot), va_P D vwCl (wd ce b kdC lnC 272 I L R) H → va_S (box b 272) s.heap H locs → WT kdC R → kdC x0 = 10 → kdC x1 = 13 → kdC x2 = 6 → lv_has ls 8 [(0, .ref (b + x0)), (1, .ref (b + x1)), (2, .ref (b + x2)), (3, .int x3), (4, .int x4), (5, .int x5), (6, .int x6), (7, .int x7)] → f_X4_fillRows_L8 n x0 x1 x2 x3 x4 x5 x6 x7 I R = some q → (∀ (I1 : mI), some (Sum.inr I1) = some q → ∀ (H1 : Heap) (locs1 : List Loc) (ls1 : Array Slot), va_P D vwCl (wd ce b kdC lnC 272 I1 L R) H1 → va_S (box b 272) s.heap H1 locs1 → lv_has ls1 8 [] → W p l e rmX4_fillRows s m av below meth c H1 locs1 0 0 QQ (F0 m 107 ls1 [])) → (∀ (r : Int32) (I1 : mI), some (Sum.inl (r, I1)) = some q → ∀ (H1 : Heap) (locs1 : List Loc) (ls1 : Array Slot) (pc1 : Nat), decode cX4_fillRows pc1 = .ok (.ireturn, 1) → zb r = true → va_P D vwCl (wd ce b kdC lnC 272 I1 L R) H1 → WT kdC R → va_S (box b 272) s.heap H1 locs1 → W p l e rmX4_fillRows s m av below meth c H1 locs1 0 0 QQ (F0 m pc1 ls1 [.int r])) → W p l e rmX4_fillRows s m av below meth c H locs 0 0 QQ (F0 m 8 ls []) := by
    intro n
    induction n with
    | zero =>
      intro x0 x1 x2 x3 x4 x5 x6 x7 I L R q H locs ls hP hS hT h0 h1 h2 hl hf kx kr
      exact absurd (show (none : Option ((Int32 × mI) ⊕ (mI))) = some _ from hf) (by simp)
    | succ n ih =>
      intro x0 x1 x2 x3 x4 x5 x6 x7 I L R q H locs ls hP hS hT h0 h1 h2 hl hf kx kr
      rw [f_X4_fillRows_L8] at hf
      refine lv_iload hx hb dX4_fillRows_8 (lv_at hl 7 rfl) ?_
      refine lv_aload_n hx hb dX4_fillRows_10 rfl (lv_at hl 1 rfl) ?_
      refine mm_geti hx hb hts hown hKK hP fk7_2 (Or.inl rfl) lkX4_81 (kdC_lt h1 (Nat.succ_ne_zero _)) h1 dX4_fillRows_11 ?_
      refine lv_icmp_ge (tgt := 107) hx hb dX4_fillRows_14 (by decide) (fun c2 => ?_) (fun c2 => ?_)
      · have hf := ifT hf c2
        exact kx I hf H locs ls hP hS (lv_sub hl [] rfl)
      · have hf := ifF hf c2
        refine lv_aload_n hx hb dX4_fillRows_17 rfl (lv_at hl 0 rfl) ?_
        have t3 : kdC (R x0 0) = 12 := wt hT h0 rfl
        refine mm_getr hx hb hts hown hKK hP fk4_0 (Nat.le_of_ble_eq_true rfl) lkX4_12 (kdC_lt h0 (Nat.succ_ne_zero _)) h0 (nC t3 (Nat.succ_ne_zero _)) dX4_fillRows_18 ?_
        refine lv_aload_n hx hb dX4_fillRows_21 rfl (lv_at hl 1 rfl) ?_
        have t4 : kdC (R x1 0) = 4 := wt hT h1 rfl
        refine mm_getr hx hb hts hown hKK hP fk7_0 (Nat.le_of_ble_eq_true rfl) lkX4_86 (kdC_lt h1 (Nat.succ_ne_zero _)) h1 (nC t4 (Nat.succ_ne_zero _)) dX4_fillRows_22 ?_
        refine lv_iload hx hb dX4_fillRows_25 (lv_at hl 7 rfl) ?_
        obtain ⟨g5, hf⟩ := grd hf
        have t6 : kdC (R (R x1 0) x7.toNatClampNeg) = 9 := wt hT t4 rfl
        refine mm_aald4 hx hb hKK hP (kdC_lt t4 (Nat.succ_ne_zero _)) t4 g5 (nC t6 (Nat.succ_ne_zero _)) dX4_fillRows_27 ?_
        have t7 : kdC (R (R (R x1 0) x7.toNatClampNeg) 0) = 14 := wt hT t6 rfl
        refine mm_getr hx hb hts hown hKK hP fk3_0 (Nat.le_of_ble_eq_true rfl) lkX4_29 (kdC_lt t6 (Nat.succ_ne_zero _)) t6 (nC t7 (Nat.succ_ne_zero _)) dX4_fillRows_28 ?_
        refine lv_iload hx hb dX4_fillRows_31 (lv_at hl 4 rfl) ?_
        refine lv_iload hx hb dX4_fillRows_33 (lv_at hl 5 rfl) ?_
        refine lv_iload hx hb dX4_fillRows_35 (lv_at hl 6 rfl) ?_
        obtain ⟨I8, e8, hf⟩ := bd1_o hf
        refine mm_Vv (rest := []) hx hb hml hown hts hKK hP hS hA (kdC_lt t3 (Nat.succ_ne_zero _)) t3 (show vwCl[6]? = some (yX6_countIn.cls, TX6, 1) from rfl) vkX4_34 (k_X6_countIn l D ce b I L R hT (R x0 0) (R (R (R x1 0) x7.toNatClampNeg) 0) x4 x5 x6 t3 t7 I8 e8) rfl hl.1 rfl (Nat.le_of_ble_eq_true rfl) ⟨rfl, rfl⟩ ⟨Nat.le_of_ble_eq_true rfl, Nat.le_of_ble_eq_true rfl⟩ ⟨Nat.zero_le _, Nat.zero_le _⟩ dX4_fillRows_37 (fun H locs hP hT hS => ?_)
        refine lv_aload_n hx hb dX4_fillRows_40 rfl (lv_at hl 0 rfl) ?_
        have t9 : kdC (R x0 1) = 12 := wt hT h0 rfl
        refine mm_getr hx hb hts hown hKK hP fk4_1 (Nat.le_of_ble_eq_true rfl) lkX4_18 (kdC_lt h0 (Nat.succ_ne_zero _)) h0 (nC t9 (Nat.succ_ne_zero _)) dX4_fillRows_41 ?_
        refine lv_aload_n hx hb dX4_fillRows_44 rfl (lv_at hl 1 rfl) ?_
        refine mm_getr hx hb hts hown hKK hP fk7_0 (Nat.le_of_ble_eq_true rfl) lkX4_86 (kdC_lt h1 (Nat.succ_ne_zero _)) h1 (nC t4 (Nat.succ_ne_zero _)) dX4_fillRows_45 ?_
        refine lv_iload hx hb dX4_fillRows_48 (lv_at hl 7 rfl) ?_
        refine mm_aald4 hx hb hKK hP (kdC_lt t4 (Nat.succ_ne_zero _)) t4 g5 (nC t6 (Nat.succ_ne_zero _)) dX4_fillRows_50 ?_
        have t10 : kdC (R (R (R x1 0) x7.toNatClampNeg) 1) = 14 := wt hT t6 rfl
        refine mm_getr hx hb hts hown hKK hP fk3_1 (Nat.le_of_ble_eq_true rfl) lkX4_38 (kdC_lt t6 (Nat.succ_ne_zero _)) t6 (nC t10 (Nat.succ_ne_zero _)) dX4_fillRows_51 ?_
        refine lv_iload hx hb dX4_fillRows_54 (lv_at hl 4 rfl) ?_
        refine lv_iload hx hb dX4_fillRows_56 (lv_at hl 5 rfl) ?_
        refine lv_iload hx hb dX4_fillRows_58 (lv_at hl 6 rfl) ?_
        obtain ⟨I11, e11, hf⟩ := bd1_o hf
        refine mm_Vv (rest := []) hx hb hml hown hts hKK hP hS hA (kdC_lt t9 (Nat.succ_ne_zero _)) t9 (show vwCl[6]? = some (yX6_countIn.cls, TX6, 1) from rfl) vkX4_34 (k_X6_countIn l D ce b I8 L R hT (R x0 1) (R (R (R x1 0) x7.toNatClampNeg) 1) x4 x5 x6 t9 t10 I11 e11) rfl hl.1 rfl (Nat.le_of_ble_eq_true rfl) ⟨rfl, rfl⟩ ⟨Nat.le_of_ble_eq_true rfl, Nat.le_of_ble_eq_true rfl⟩ ⟨Nat.zero_le _, Nat.zero_le _⟩ dX4_fillRows_60 (fun H locs hP hT hS => ?_)
        refine lv_aload_n hx hb dX4_fillRows_63 rfl (lv_at hl 0 rfl) ?_
        refine lv_iconst (v := (0 : Int32)) hx hb dX4_fillRows_64 (by decide) ?_
        refine lv_iload_n hx hb dX4_fillRows_65 rfl (lv_at hl 3 rfl) ?_
        refine lv_iconst (v := (-1 : Int32)) hx hb dX4_fillRows_66 (by decide) ?_
        refine jnE hf (fun j75_12 ej_12 hf => ?_)
        have hJ75_12 : ∀ (w2_12 : Int32) (H : Heap) (locs : List Loc) (ls : Array Slot), va_P D vwCl (wd ce b kdC lnC 272 I11 L R) H → va_S (box b 272) s.heap H locs → lv_has ls 8 [(0, .ref (b + x0)), (1, .ref (b + x1)), (2, .ref (b + x2)), (3, .int x3), (4, .int x4), (5, .int x5), (6, .int x6), (7, .int x7)] → j75_12 w2_12 = some q → W p l e rmX4_fillRows s m av below meth c H locs 0 0 QQ (F0 m 75 ls [.int w2_12, .int (0 : Int32), .ref (b + x0)]) := by
          intro w2_12 H locs ls hP hS  hl hf
          rw [ej_12] at hf
          try dsimp only at hf
          obtain ⟨r13, I13, e13, hf⟩ := bd2_o hf
          refine mm_Vi (rest := []) hx hb hml hown hts hKK hP hS hA (kdC_lt h0 (Nat.succ_ne_zero _)) h0 (show vwCl[4]? = some (yX4_addRow.cls, TX4, 5) from rfl) vkX4_44 (k_X4_addRow l D ce b I11 L R hT x0 (0 : Int32) w2_12 h0 r13 I13 e13) rfl hl.1 rfl (Nat.le_of_ble_eq_true rfl) ⟨rfl, rfl⟩ ⟨Nat.le_of_ble_eq_true rfl, Nat.le_of_ble_eq_true rfl⟩ ⟨Nat.zero_le _, Nat.zero_le _⟩ dX4_fillRows_75 (fun H locs hP hT hS => ?_)
          refine lv_if_ne (tgt := 83) hx hb dX4_fillRows_78 (by decide) (fun c14 => ?_) (fun c14 => ?_)
          · have hf := ifF hf c14
            refine lv_iload_n hx hb dX4_fillRows_83 rfl (lv_at hl 3 rfl) ?_
            refine lv_iconst (v := (-1 : Int32)) hx hb dX4_fillRows_84 (by decide) ?_
            refine jnE hf (fun j101_15 ej_15 hf => ?_)
            have hJ101_15 : ∀ (I_15 : mI) (H : Heap) (locs : List Loc) (ls : Array Slot), va_P D vwCl (wd ce b kdC lnC 272 I_15 L R) H → va_S (box b 272) s.heap H locs → lv_has ls 8 [(0, .ref (b + x0)), (1, .ref (b + x1)), (2, .ref (b + x2)), (3, .int x3), (4, .int x4), (5, .int x5), (6, .int x6), (7, .int x7)] → j101_15 I_15 = some q → W p l e rmX4_fillRows s m av below meth c H locs 0 0 QQ (F0 m 101 ls []) := by
              intro I_15 H locs ls hP hS  hl hf
              rw [ej_15] at hf
              try dsimp only at hf
              refine lv_iinc (v := (x7 + (1 : Int32))) (lv' := [(7, .int (x7 + (1 : Int32))), (0, .ref (b + x0)), (1, .ref (b + x1)), (2, .ref (b + x2)), (3, .int x3), (4, .int x4), (5, .int x5), (6, .int x6)]) hx hb dX4_fillRows_101 hl (k := 7) rfl rfl (Nat.le_of_ble_eq_true rfl) rfl (fun ls hl => ?_)
              refine lv_goto (tgt := 8) hx hb dX4_fillRows_104 (by decide) ?_
              exact ih x0 x1 x2 x3 x4 x5 x6 (x7 + (1 : Int32)) I_15 L R q H locs ls hP hS hT h0 h1 h2 (lv_sub hl [1, 2, 3, 4, 5, 6, 7, 0] rfl) hf kx kr
            clear ej_15
            refine lv_icmp_eq (tgt := 101) hx hb dX4_fillRows_85 (by decide) (fun c16 => ?_) (fun c16 => ?_)
            · have hf := ifT hf c16
              exact hJ101_15 I13 H locs ls hP hS  (lv_sub hl [0, 1, 2, 3, 4, 5, 6, 7] rfl) hf
            · have hf := ifF hf c16
              refine lv_aload_n hx hb dX4_fillRows_88 rfl (lv_at hl 0 rfl) ?_
              refine lv_aload_n hx hb dX4_fillRows_89 rfl (lv_at hl 2 rfl) ?_
              refine lv_iload_n hx hb dX4_fillRows_90 rfl (lv_at hl 3 rfl) ?_
              refine lv_iload hx hb dX4_fillRows_91 (lv_at hl 7 rfl) ?_
              obtain ⟨r17, I17, e17, hf⟩ := bd2_o hf
              refine mm_Vi (rest := []) hx hb hml hown hts hKK hP hS hA (kdC_lt h0 (Nat.succ_ne_zero _)) h0 (show vwCl[4]? = some (yX4_addCallRows.cls, TX4, 5) from rfl) vkX4_90 (k_X4_addCallRows l D ce b I13 L R hT x0 x2 x3 x7 h0 h2 r17 I17 e17) rfl hl.1 rfl (Nat.le_of_ble_eq_true rfl) ⟨rfl, rfl⟩ ⟨Nat.le_of_ble_eq_true rfl, Nat.le_of_ble_eq_true rfl⟩ ⟨Nat.zero_le _, Nat.zero_le _⟩ dX4_fillRows_93 (fun H locs hP hT hS => ?_)
              refine lv_if_ne (tgt := 101) hx hb dX4_fillRows_96 (by decide) (fun c18 => ?_) (fun c18 => ?_)
              · have hf := ifF hf c18
                exact hJ101_15 I17 H locs ls hP hS  (lv_sub hl [0, 1, 2, 3, 4, 5, 6, 7] rfl) hf
              · have hf := ifT hf c18
                refine lv_iconst (v := (0 : Int32)) hx hb dX4_fillRows_99 (by decide) ?_
                exact kr (0 : Int32) I17 hf H locs ls _ dX4_fillRows_100 rfl hP hT hS
          · have hf := ifT hf c14
            refine lv_iconst (v := (0 : Int32)) hx hb dX4_fillRows_81 (by decide) ?_
            exact kr (0 : Int32) I13 hf H locs ls _ dX4_fillRows_82 rfl hP hT hS
        clear ej_12
        refine lv_icmp_ne (tgt := 74) hx hb dX4_fillRows_67 (by decide) (fun c19 => ?_) (fun c19 => ?_)
        · have hf := ifF hf c19
          refine lv_iconst (v := (0 : Int32)) hx hb dX4_fillRows_74 (by decide) ?_
          exact hJ75_12 (0 : Int32) H locs ls hP hS  (lv_sub hl [0, 1, 2, 3, 4, 5, 6, 7] rfl) hf
        · have hf := ifT hf c19
          refine lv_iconst (v := (1 : Int32)) hx hb dX4_fillRows_70 (by decide) ?_
          refine lv_goto (tgt := 75) hx hb dX4_fillRows_71 (by decide) ?_
          exact hJ75_12 (1 : Int32) H locs ls hP hS  (lv_sub hl [0, 1, 2, 3, 4, 5, 6, 7] rfl) hf
  obtain ⟨q_20, e_20, hf⟩ := bdS_o hf
  refine lp8 FU x0 x1 x2 x3 x4 x5 x6 (0 : Int32) I1 L R q_20 H locs ls hP hS hT h0 h1 h2 (lv_sub hl [1, 2, 3, 4, 5, 6, 7, 0] rfl) e_20 (fun I_20 hq H locs ls hP hS hl => ?_) (fun r_20 I_20 hq H locs ls pc1 hd hz hP hT hS => ?_)
  · have hf := elR1 hf (Option.some.inj hq).symm
    refine lv_iconst (v := (1 : Int32)) hx hb dX4_fillRows_107 (by decide) ?_
    exact hret (1 : Int32) I_20 hf H locs ls _ dX4_fillRows_108 rfl hP hT hS
  · have hf := elL2 hf (Option.some.inj hq).symm
    exact hret r_20 I_20 hf H locs ls pc1 hd hz hP hT hS
def rmX4_sumOfRow : Room := { frames := 0, cells := 0, slots := 0, locals := 0 }
set_option maxHeartbeats 4000000 in
set_option maxRecDepth 100000 in
theorem k_X4_sumOfRow (l : Launch) (D : va_G) (ce : Nat → ClassId) (b : Nat) (I : mI) (L : mL) (R : mR) (hT : WT kdC R) (x0 : Nat) (x1 : Int32) (x2 : Int32) (x3 : Int32) (x4 : Int32) (x5 : Int32) (h0 : kdC x0 = 10) (o1 : Int32) (hf : f_X4_sumOfRow x0 x1 x2 x3 x4 x5 I R = some o1) : Met l yX4_sumOfRow (Cond.code yX4_sumOfRow cX4_sumOfRow 7 (some .int) :: GW) rmX4_sumOfRow (va_Pc [.ref (b + x0), .int x1, .int x2, .int x3, .int x4, .int x5] (PW D ce b kdC lnC 272 I L R)) (va_Qi (fun r u => r = o1 ∧ u = (I, L, R)) (QW D ce b kdC lnC 272) (box b 272)) 0 0 (box b 272) := by
  refine Met.ofW (cc := cX4_sumOfRow) (maxL := 7) (ret := (some .int)) (by decide) rfl ?_
  intro p e s m args below meth c s₁ B hml hv
  obtain ⟨rfl, hP, hKK⟩ := hv
  have hx := B.exec
  have hb := B.bytes
  have hr := B.returns
  have hts0 := atoms_spec (ws := Cond.code yX4_sumOfRow cX4_sumOfRow 7 (some .int) :: GW) B.pre
  have hts : ∀ w ∈ GW, w.before _ s = true := fun w h => hts0 w (List.mem_cons_of_mem _ h)
  clear hts0
  have hown : s.vm.findClass RX4 = some m.cls := findClass_of_methodNamed B.named
  have hlocks := B.notSynchronized
  have hA : ∀ q, box b 272 q → box b 272 q := fun _ h => h
  have hS : va_S (box b 272) s.heap s.heap [] := va_S.rf
  have hl := lv_entry ([.ref (b + x0), .int x1, .int x2, .int x3, .int x4, .int x5]) (n := 7) (Nat.le_of_ble_eq_true rfl)
  rw [lg_entry_eq]
  generalize (lg_sl ([.ref (b + x0), .int x1, .int x2, .int x3, .int x4, .int x5]) ++ List.replicate (7 - (lg_sl ([.ref (b + x0), .int x1, .int x2, .int x3, .int x4, .int x5])).length) Slot.unset).toArray = ls at hl ⊢
  have hl : lv_has ls 7 [(0, .ref (b + x0)), (1, .int x1), (2, .int x2), (3, .int x3), (4, .int x4), (5, .int x5)] := hl
  generalize ([.ref (b + x0), .int x1, .int x2, .int x3, .int x4, .int x5] : List Value).toArray = av at hts ⊢
  show W p l e rmX4_sumOfRow s m av below meth c s.heap [] 0 0 _ _
  obtain ⟨QQ, hQQ⟩ : ∃ z, z = MQ below (va_Qi (fun r u => r = o1 ∧ u = (I, L, R)) (QW D ce b kdC lnC 272) (box b 272)) av s 0 0 (box b 272) := ⟨_, rfl⟩
  rw [← hQQ]
  have hret : ∀ (r : Int32), some r = some o1 → ∀ (H1 : Heap) (locs1 : List Loc) (ls1 : Array Slot) (pc1 : Nat), decode cX4_sumOfRow pc1 = .ok (.ireturn, 1) → va_P D vwCl (wd ce b kdC lnC 272 I L R) H1 → WT kdC R → va_S (box b 272) s.heap H1 locs1 → W p l e rmX4_sumOfRow s m av below meth c H1 locs1 0 0 QQ (F0 m pc1 ls1 [.int r]) := by
    intro r hq H1 locs1 ls1 pc1 hd hP hT hS
    cases hq
    rw [hQQ]
    exact mm_iret hx hb hr hlocks hP hT hS hd
  unfold f_X4_sumOfRow at hf
  obtain ⟨H, hH⟩ : ∃ z, z = s.heap := ⟨_, rfl⟩
  obtain ⟨locs, hlo⟩ : ∃ z : List Loc, z = [] := ⟨_, rfl⟩
  have hP : va_P D vwCl (wd ce b kdC lnC 272 I L R) H := by rw [hH]; exact hP
  have hS : va_S (box b 272) s.heap H locs := by rw [hH, hlo]; exact hS
  rw [show W p l e rmX4_sumOfRow s m av below meth c s.heap [] 0 0 QQ = W p l e rmX4_sumOfRow s m av below meth c H locs 0 0 QQ by rw [hH, hlo]]
  clear hH hlo
  clear hQQ
  show W p l e rmX4_sumOfRow s m av below meth c H locs 0 0 QQ (F0 m 0 ls [])
  refine lv_iload_n hx hb dX4_sumOfRow_0 rfl (lv_at hl 1 rfl) ?_
  refine lv_iconst (v := (5 : Int32)) hx hb dX4_sumOfRow_1 (by decide) ?_
  refine lv_imul hx hb dX4_sumOfRow_2 ?_
  refine lv_istore (lv' := [(6, .int (x1 * (5 : Int32))), (0, .ref (b + x0)), (1, .int x1), (2, .int x2), (3, .int x3), (4, .int x4), (5, .int x5)]) hx hb dX4_sumOfRow_3 hl (Nat.le_of_ble_eq_true rfl) rfl (fun ls hl => ?_)
  refine lv_iload_n hx hb dX4_sumOfRow_5 rfl (lv_at hl 3 rfl) ?_
  refine lv_aload_n hx hb dX4_sumOfRow_6 rfl (lv_at hl 1 rfl) ?_
  have t1 : kdC (R x0 2) = 1 := wt hT h0 rfl
  refine mm_getr hx hb hts hown hKK hP fk4_2 (Nat.le_of_ble_eq_true rfl) lkX4_21 (kdC_lt h0 (Nat.succ_ne_zero _)) h0 (nC t1 (Nat.succ_ne_zero _)) dX4_sumOfRow_7 ?_
  refine lv_iload hx hb dX4_sumOfRow_10 (lv_at hl 0 rfl) ?_
  obtain ⟨g2, hf⟩ := grd hf
  refine mm_iald hx hb hKK hP (kdC_lt t1 (Nat.succ_ne_zero _)) t1 g2 dX4_sumOfRow_12 ?_
  refine lv_imul hx hb dX4_sumOfRow_13 ?_
  refine lv_iload_n hx hb dX4_sumOfRow_14 rfl (lv_at hl 4 rfl) ?_
  refine lv_aload_n hx hb dX4_sumOfRow_15 rfl (lv_at hl 1 rfl) ?_
  refine mm_getr hx hb hts hown hKK hP fk4_2 (Nat.le_of_ble_eq_true rfl) lkX4_21 (kdC_lt h0 (Nat.succ_ne_zero _)) h0 (nC t1 (Nat.succ_ne_zero _)) dX4_sumOfRow_16 ?_
  refine lv_iload hx hb dX4_sumOfRow_19 (lv_at hl 0 rfl) ?_
  refine lv_iconst (v := (1 : Int32)) hx hb dX4_sumOfRow_21 (by decide) ?_
  refine lv_iadd hx hb dX4_sumOfRow_22 ?_
  obtain ⟨g3, hf⟩ := grd hf
  refine mm_iald hx hb hKK hP (kdC_lt t1 (Nat.succ_ne_zero _)) t1 g3 dX4_sumOfRow_23 ?_
  refine lv_imul hx hb dX4_sumOfRow_24 ?_
  refine lv_iadd hx hb dX4_sumOfRow_25 ?_
  refine lv_iload hx hb dX4_sumOfRow_26 (lv_at hl 5 rfl) ?_
  refine lv_aload_n hx hb dX4_sumOfRow_28 rfl (lv_at hl 1 rfl) ?_
  refine mm_getr hx hb hts hown hKK hP fk4_2 (Nat.le_of_ble_eq_true rfl) lkX4_21 (kdC_lt h0 (Nat.succ_ne_zero _)) h0 (nC t1 (Nat.succ_ne_zero _)) dX4_sumOfRow_29 ?_
  refine lv_iload hx hb dX4_sumOfRow_32 (lv_at hl 0 rfl) ?_
  refine lv_iconst (v := (2 : Int32)) hx hb dX4_sumOfRow_34 (by decide) ?_
  refine lv_iadd hx hb dX4_sumOfRow_35 ?_
  obtain ⟨g4, hf⟩ := grd hf
  refine mm_iald hx hb hKK hP (kdC_lt t1 (Nat.succ_ne_zero _)) t1 g4 dX4_sumOfRow_36 ?_
  refine lv_imul hx hb dX4_sumOfRow_37 ?_
  refine lv_iadd hx hb dX4_sumOfRow_38 ?_
  refine lv_iload hx hb dX4_sumOfRow_39 (lv_at hl 6 rfl) ?_
  refine lv_aload_n hx hb dX4_sumOfRow_41 rfl (lv_at hl 1 rfl) ?_
  refine mm_getr hx hb hts hown hKK hP fk4_2 (Nat.le_of_ble_eq_true rfl) lkX4_21 (kdC_lt h0 (Nat.succ_ne_zero _)) h0 (nC t1 (Nat.succ_ne_zero _)) dX4_sumOfRow_42 ?_
  refine lv_iload hx hb dX4_sumOfRow_45 (lv_at hl 0 rfl) ?_
  refine lv_iconst (v := (3 : Int32)) hx hb dX4_sumOfRow_47 (by decide) ?_
  refine lv_iadd hx hb dX4_sumOfRow_48 ?_
  obtain ⟨g5, hf⟩ := grd hf
  refine mm_iald hx hb hKK hP (kdC_lt t1 (Nat.succ_ne_zero _)) t1 g5 dX4_sumOfRow_49 ?_
  refine lv_imul hx hb dX4_sumOfRow_50 ?_
  refine lv_iadd hx hb dX4_sumOfRow_51 ?_
  exact hret ((((x2 * (I (R x0 2) ((x1 * (5 : Int32))).toNatClampNeg)) + (x3 * (I (R x0 2) (((x1 * (5 : Int32)) + (1 : Int32))).toNatClampNeg))) + (x4 * (I (R x0 2) (((x1 * (5 : Int32)) + (2 : Int32))).toNatClampNeg))) + (x5 * (I (R x0 2) (((x1 * (5 : Int32)) + (3 : Int32))).toNatClampNeg))) hf H locs ls _ dX4_sumOfRow_52 hP hT hS
def rmX4_meetsRows : Room := { frames := 1, cells := 0, slots := 0, locals := 26 }
set_option maxHeartbeats 4000000 in
set_option maxRecDepth 100000 in
theorem k_X4_meetsRows (l : Launch) (D : va_G) (ce : Nat → ClassId) (b : Nat) (I : mI) (L : mL) (R : mR) (hT : WT kdC R) (x0 : Nat) (x1 : Int32) (x2 : Int32) (x3 : Int32) (x4 : Int32) (h0 : kdC x0 = 10) (o1 : Int32) (hf : f_X4_meetsRows x0 x1 x2 x3 x4 I R = some o1) : Met l yX4_meetsRows (Cond.code yX4_meetsRows cX4_meetsRows 6 (some .boolean) :: GW) rmX4_meetsRows (va_Pc [.ref (b + x0), .int x1, .int x2, .int x3, .int x4] (PW D ce b kdC lnC 272 I L R)) (va_Qi (fun r u => r = o1 ∧ u = (I, L, R)) (QW D ce b kdC lnC 272) (box b 272)) 0 0 (box b 272) := by
  refine Met.ofW (cc := cX4_meetsRows) (maxL := 6) (ret := (some .boolean)) (by decide) rfl ?_
  intro p e s m args below meth c s₁ B hml hv
  obtain ⟨rfl, hP, hKK⟩ := hv
  have hx := B.exec
  have hb := B.bytes
  have hr := B.returns
  have hts0 := atoms_spec (ws := Cond.code yX4_meetsRows cX4_meetsRows 6 (some .boolean) :: GW) B.pre
  have hts : ∀ w ∈ GW, w.before _ s = true := fun w h => hts0 w (List.mem_cons_of_mem _ h)
  clear hts0
  have hown : s.vm.findClass RX4 = some m.cls := findClass_of_methodNamed B.named
  have hlocks := B.notSynchronized
  have hA : ∀ q, box b 272 q → box b 272 q := fun _ h => h
  have hS : va_S (box b 272) s.heap s.heap [] := va_S.rf
  have hl := lv_entry ([.ref (b + x0), .int x1, .int x2, .int x3, .int x4]) (n := 6) (Nat.le_of_ble_eq_true rfl)
  rw [lg_entry_eq]
  generalize (lg_sl ([.ref (b + x0), .int x1, .int x2, .int x3, .int x4]) ++ List.replicate (6 - (lg_sl ([.ref (b + x0), .int x1, .int x2, .int x3, .int x4])).length) Slot.unset).toArray = ls at hl ⊢
  have hl : lv_has ls 6 [(0, .ref (b + x0)), (1, .int x1), (2, .int x2), (3, .int x3), (4, .int x4)] := hl
  generalize ([.ref (b + x0), .int x1, .int x2, .int x3, .int x4] : List Value).toArray = av at hts ⊢
  show W p l e rmX4_meetsRows s m av below meth c s.heap [] 0 0 _ _
  obtain ⟨QQ, hQQ⟩ : ∃ z, z = MQ below (va_Qi (fun r u => r = o1 ∧ u = (I, L, R)) (QW D ce b kdC lnC 272) (box b 272)) av s 0 0 (box b 272) := ⟨_, rfl⟩
  rw [← hQQ]
  have hret : ∀ (r : Int32), some r = some o1 → ∀ (H1 : Heap) (locs1 : List Loc) (ls1 : Array Slot) (pc1 : Nat), decode cX4_meetsRows pc1 = .ok (.ireturn, 1) → zb r = true → va_P D vwCl (wd ce b kdC lnC 272 I L R) H1 → WT kdC R → va_S (box b 272) s.heap H1 locs1 → W p l e rmX4_meetsRows s m av below meth c H1 locs1 0 0 QQ (F0 m pc1 ls1 [.int r]) := by
    intro r hq H1 locs1 ls1 pc1 hd hz hP hT hS
    cases hq
    rw [hQQ]
    exact mm_zret hx hb hr hlocks hz hP hT hS hd
  unfold f_X4_meetsRows at hf
  obtain ⟨H, hH⟩ : ∃ z, z = s.heap := ⟨_, rfl⟩
  obtain ⟨locs, hlo⟩ : ∃ z : List Loc, z = [] := ⟨_, rfl⟩
  have hP : va_P D vwCl (wd ce b kdC lnC 272 I L R) H := by rw [hH]; exact hP
  have hS : va_S (box b 272) s.heap H locs := by rw [hH, hlo]; exact hS
  rw [show W p l e rmX4_meetsRows s m av below meth c s.heap [] 0 0 QQ = W p l e rmX4_meetsRows s m av below meth c H locs 0 0 QQ by rw [hH, hlo]]
  clear hH hlo
  clear hQQ
  show W p l e rmX4_meetsRows s m av below meth c H locs 0 0 QQ (F0 m 0 ls [])
  refine lv_iconst (v := (0 : Int32)) hx hb dX4_meetsRows_0 (by decide) ?_
  refine lv_istore (lv' := [(5, .int (0 : Int32)), (0, .ref (b + x0)), (1, .int x1), (2, .int x2), (3, .int x3), (4, .int x4)]) hx hb dX4_meetsRows_1 hl (Nat.le_of_ble_eq_true rfl) rfl (fun ls hl => ?_)
  have lp3 : ∀ (n : Nat) (x0 : Nat) (x1 : Int32) (x2 : Int32) (x3 : Int32) (x4 : Int32) (x5 : Int32) (I : mI) (L : mL) (R : mR) (q : (Int32) ⊕ (Unit)) (H : Heap) (locs : List Loc) (ls : Array Slot), va_P D vwCl (wd ce b kdC lnC 272 I L R) H → va_S (box b 272) s.heap H locs → WT kdC R → kdC x0 = 10 → lv_has ls 6 [(0, .ref (b + x0)), (1, .int x1), (2, .int x2), (3, .int x3), (4, .int x4), (5, .int x5)] → f_X4_meetsRows_L3 n x0 x1 x2 x3 x4 x5 I R = some q → (∀ (_ : Unit), some (Sum.inr ()) = some q → ∀ (H1 : Heap) (locs1 : List Loc) (ls1 : Array Slot), va_P D vwCl (wd ce b kdC lnC 272 I L R) H1 → va_S (box b 272) s.heap H1 locs1 → lv_has ls1 6 [] → W p l e rmX4_meetsRows s m av below meth c H1 locs1 0 0 QQ (F0 m 45 ls1 [])) → (∀ (r : Int32), some (Sum.inl r) = some q → ∀ (H1 : Heap) (locs1 : List Loc) (ls1 : Array Slot) (pc1 : Nat), decode cX4_meetsRows pc1 = .ok (.ireturn, 1) → zb r = true → va_P D vwCl (wd ce b kdC lnC 272 I L R) H1 → WT kdC R → va_S (box b 272) s.heap H1 locs1 → W p l e rmX4_meetsRows s m av below meth c H1 locs1 0 0 QQ (F0 m pc1 ls1 [.int r])) → W p l e rmX4_meetsRows s m av below meth c H locs 0 0 QQ (F0 m 3 ls []) := by
    intro n
    induction n with
    | zero =>
      intro x0 x1 x2 x3 x4 x5 I L R q H locs ls hP hS hT h0 hl hf kx kr
      exact absurd (show (none : Option ((Int32) ⊕ (Unit))) = some _ from hf) (by simp)
    | succ n ih =>
      intro x0 x1 x2 x3 x4 x5 I L R q H locs ls hP hS hT h0 hl hf kx kr
      rw [f_X4_meetsRows_L3] at hf
      refine lv_iload hx hb dX4_meetsRows_3 (lv_at hl 5 rfl) ?_
      refine lv_aload_n hx hb dX4_meetsRows_5 rfl (lv_at hl 0 rfl) ?_
      refine mm_geti hx hb hts hown hKK hP fk4_4 (Or.inl rfl) lkX4_40 (kdC_lt h0 (Nat.succ_ne_zero _)) h0 dX4_meetsRows_6 ?_
      refine lv_icmp_ge (tgt := 45) hx hb dX4_meetsRows_9 (by decide) (fun c1 => ?_) (fun c1 => ?_)
      · have hf := ifT hf c1
        exact kx () hf H locs ls hP hS (lv_sub hl [] rfl)
      · have hf := ifF hf c1
        refine lv_aload_n hx hb dX4_meetsRows_12 rfl (lv_at hl 0 rfl) ?_
        refine lv_iload hx hb dX4_meetsRows_13 (lv_at hl 5 rfl) ?_
        refine lv_iload_n hx hb dX4_meetsRows_15 rfl (lv_at hl 1 rfl) ?_
        refine lv_iload_n hx hb dX4_meetsRows_16 rfl (lv_at hl 2 rfl) ?_
        refine lv_iload_n hx hb dX4_meetsRows_17 rfl (lv_at hl 3 rfl) ?_
        refine lv_iload hx hb dX4_meetsRows_18 (lv_at hl 4 rfl) ?_
        obtain ⟨r2, e2, hf⟩ := bd1_o hf
        refine mm_Vi (rest := []) hx hb hml hown hts hKK hP hS hA (kdC_lt h0 (Nat.succ_ne_zero _)) h0 (show vwCl[4]? = some (yX4_sumOfRow.cls, TX4, 5) from rfl) vkX4_48 (k_X4_sumOfRow l D ce b I L R hT x0 x5 x1 x2 x3 x4 h0 r2 e2) rfl hl.1 rfl (Nat.le_of_ble_eq_true rfl) ⟨rfl, rfl⟩ ⟨Nat.le_of_ble_eq_true rfl, Nat.le_of_ble_eq_true rfl⟩ ⟨Nat.zero_le _, Nat.zero_le _⟩ dX4_meetsRows_20 (fun H locs hP hT hS => ?_)
        refine lv_aload_n hx hb dX4_meetsRows_23 rfl (lv_at hl 0 rfl) ?_
        have t3 : kdC (R x0 2) = 1 := wt hT h0 rfl
        refine mm_getr hx hb hts hown hKK hP fk4_2 (Nat.le_of_ble_eq_true rfl) lkX4_21 (kdC_lt h0 (Nat.succ_ne_zero _)) h0 (nC t3 (Nat.succ_ne_zero _)) dX4_meetsRows_24 ?_
        refine lv_iload hx hb dX4_meetsRows_27 (lv_at hl 5 rfl) ?_
        refine lv_iconst (v := (5 : Int32)) hx hb dX4_meetsRows_29 (by decide) ?_
        refine lv_imul hx hb dX4_meetsRows_30 ?_
        refine lv_iconst (v := (4 : Int32)) hx hb dX4_meetsRows_31 (by decide) ?_
        refine lv_iadd hx hb dX4_meetsRows_32 ?_
        obtain ⟨g4, hf⟩ := grd hf
        refine mm_iald hx hb hKK hP (kdC_lt t3 (Nat.succ_ne_zero _)) t3 g4 dX4_meetsRows_33 ?_
        refine lv_icmp_ge (tgt := 39) hx hb dX4_meetsRows_34 (by decide) (fun c5 => ?_) (fun c5 => ?_)
        · have hf := ifT hf c5
          refine lv_iinc (v := (x5 + (1 : Int32))) (lv' := [(5, .int (x5 + (1 : Int32))), (0, .ref (b + x0)), (1, .int x1), (2, .int x2), (3, .int x3), (4, .int x4)]) hx hb dX4_meetsRows_39 hl (k := 5) rfl rfl (Nat.le_of_ble_eq_true rfl) rfl (fun ls hl => ?_)
          refine lv_goto (tgt := 3) hx hb dX4_meetsRows_42 (by decide) ?_
          exact ih x0 x1 x2 x3 x4 (x5 + (1 : Int32)) I L R q H locs ls hP hS hT h0 (lv_sub hl [1, 2, 3, 4, 5, 0] rfl) hf kx kr
        · have hf := ifF hf c5
          refine lv_iconst (v := (0 : Int32)) hx hb dX4_meetsRows_37 (by decide) ?_
          exact kr (0 : Int32) hf H locs ls _ dX4_meetsRows_38 rfl hP hT hS
  obtain ⟨q_6, e_6, hf⟩ := bdS_o hf
  refine lp3 FU x0 x1 x2 x3 x4 (0 : Int32) I L R q_6 H locs ls hP hS hT h0 (lv_sub hl [1, 2, 3, 4, 5, 0] rfl) e_6 (fun _ hq H locs ls hP hS hl => ?_) (fun r_6 hq H locs ls pc1 hd hz hP hT hS => ?_)
  · have hf := elR0 hf (Option.some.inj hq).symm
    refine lv_iconst (v := (1 : Int32)) hx hb dX4_meetsRows_45 (by decide) ?_
    exact hret (1 : Int32) hf H locs ls _ dX4_meetsRows_46 rfl hP hT hS
  · have hf := elL1 hf (Option.some.inj hq).symm
    exact hret r_6 hf H locs ls pc1 hd hz hP hT hS
