def rmX11_weighs : Room := { frames := 3, cells := 0, slots := 0, locals := 78 }
set_option maxHeartbeats 4000000 in
set_option maxRecDepth 100000 in
theorem k_X11_weighs (l : Launch) (D : va_G) (ce : Nat → ClassId) (b : Nat) (I : mI) (L : mL) (R : mR) (hT : WT kdM R) (x0 : Nat) (x1 : Int32) (x2 : Int32) (h0 : kdM x0 = 17) (o1 : Int32) (o2 : mI) (o3 : mL) (hf : f_X11_weighs x0 x1 x2 I L R = some (o1, o2, o3)) : Met l yX11_weighs (Cond.code yX11_weighs cX11_weighs 3 (some .int) :: GW) rmX11_weighs (va_Pc [.ref (b + x0), .int x1, .int x2] (PW D ce b kdM lnM 21 I L R)) (va_Qi (fun r u => r = o1 ∧ u = (o2, o3, R)) (QW D ce b kdM lnM 21) (box b 21)) 0 0 (box b 21) := by
  refine Met.ofW (cc := cX11_weighs) (maxL := 3) (ret := (some .int)) (by decide) rfl ?_
  intro p e s m args below meth c s₁ B hml hv
  obtain ⟨rfl, hP, hKK⟩ := hv
  have hx := B.exec
  have hb := B.bytes
  have hr := B.returns
  have hts0 := atoms_spec (ws := Cond.code yX11_weighs cX11_weighs 3 (some .int) :: GW) B.pre
  have hts : ∀ w ∈ GW, w.before _ s = true := fun w h => hts0 w (List.mem_cons_of_mem _ h)
  clear hts0
  have hown : s.vm.findClass RX11 = some m.cls := findClass_of_methodNamed B.named
  have hlocks := B.notSynchronized
  have hA : ∀ q, box b 21 q → box b 21 q := fun _ h => h
  have hS : va_S (box b 21) s.heap s.heap [] := va_S.rf
  have hl := lv_entry ([.ref (b + x0), .int x1, .int x2]) (n := 3) (Nat.le_of_ble_eq_true rfl)
  rw [lg_entry_eq]
  generalize (lg_sl ([.ref (b + x0), .int x1, .int x2]) ++ List.replicate (3 - (lg_sl ([.ref (b + x0), .int x1, .int x2])).length) Slot.unset).toArray = ls at hl ⊢
  have hl : lv_has ls 3 [(0, .ref (b + x0)), (1, .int x1), (2, .int x2)] := hl
  generalize ([.ref (b + x0), .int x1, .int x2] : List Value).toArray = av at hts ⊢
  show W p l e rmX11_weighs s m av below meth c s.heap [] 0 0 _ _
  obtain ⟨QQ, hQQ⟩ : ∃ z, z = MQ below (va_Qi (fun r u => r = o1 ∧ u = (o2, o3, R)) (QW D ce b kdM lnM 21) (box b 21)) av s 0 0 (box b 21) := ⟨_, rfl⟩
  rw [← hQQ]
  have hret : ∀ (r : Int32) (I1 : mI) (L1 : mL), some (r, I1, L1) = some (o1, o2, o3) → ∀ (H1 : Heap) (locs1 : List Loc) (ls1 : Array Slot) (pc1 : Nat), decode cX11_weighs pc1 = .ok (.ireturn, 1) → va_P D vwCl (wd ce b kdM lnM 21 I1 L1 R) H1 → WT kdM R → va_S (box b 21) s.heap H1 locs1 → W p l e rmX11_weighs s m av below meth c H1 locs1 0 0 QQ (F0 m pc1 ls1 [.int r]) := by
    intro r I1 L1 hq H1 locs1 ls1 pc1 hd hP hT hS
    cases hq
    rw [hQQ]
    exact mm_iret hx hb hr hlocks hP hT hS hd
  unfold f_X11_weighs at hf
  obtain ⟨H, hH⟩ : ∃ z, z = s.heap := ⟨_, rfl⟩
  obtain ⟨locs, hlo⟩ : ∃ z : List Loc, z = [] := ⟨_, rfl⟩
  have hP : va_P D vwCl (wd ce b kdM lnM 21 I L R) H := by rw [hH]; exact hP
  have hS : va_S (box b 21) s.heap H locs := by rw [hH, hlo]; exact hS
  rw [show W p l e rmX11_weighs s m av below meth c s.heap [] 0 0 QQ = W p l e rmX11_weighs s m av below meth c H locs 0 0 QQ by rw [hH, hlo]]
  clear hH hlo
  clear hQQ
  show W p l e rmX11_weighs s m av below meth c H locs 0 0 QQ (F0 m 0 ls [])
  refine lv_aload_n hx hb dX11_weighs_0 rfl (lv_at hl 0 rfl) ?_
  refine lv_iload_n hx hb dX11_weighs_1 rfl (lv_at hl 1 rfl) ?_
  refine lv_iconst (v := (3 : Int32)) hx hb dX11_weighs_2 (by decide) ?_
  obtain ⟨r1, I1, e1, hf⟩ := bd2_o hf
  refine mm_Vi (rest := []) hx hb hml hown hts hKK hP hS hA (kdM_lt h0 (Nat.succ_ne_zero _)) h0 (show vwCl[11]? = some (yX11_laysFigures.cls, TX11, 32) from rfl) vkX11_194 (k_X11_laysFigures l D ce b I L R hT x0 x1 (3 : Int32) h0 r1 I1 e1) rfl hl.1 rfl (Nat.le_of_ble_eq_true rfl) ⟨rfl, rfl⟩ ⟨Nat.le_of_ble_eq_true rfl, Nat.le_of_ble_eq_true rfl⟩ ⟨Nat.zero_le _, Nat.zero_le _⟩ dX11_weighs_3 (fun H locs hP hT hS => ?_)
  refine jnE hf (fun j25_2 ej_2 hf => ?_)
  have hJ25_2 : ∀ (H : Heap) (locs : List Loc) (ls : Array Slot), va_P D vwCl (wd ce b kdM lnM 21 I1 L R) H → va_S (box b 21) s.heap H locs → lv_has ls 3 [(0, .ref (b + x0))] → j25_2  = some (o1, o2, o3) → W p l e rmX11_weighs s m av below meth c H locs 0 0 QQ (F0 m 25 ls []) := by
    intro  H locs ls hP hS  hl hf
    rw [ej_2] at hf
    try dsimp only at hf
    refine lv_aload_n hx hb dX11_weighs_25 rfl (lv_at hl 0 rfl) ?_
    refine lv_bipush (v := (-2 : Int32)) hx hb dX11_weighs_26 (by decide) ?_
    obtain ⟨r3, I3, e3, hf⟩ := bd2_o hf
    refine mm_Vi (rest := []) hx hb hml hown hts hKK hP hS hA (kdM_lt h0 (Nat.succ_ne_zero _)) h0 (show vwCl[11]? = some (yX11_refuses.cls, TX11, 32) from rfl) vkX11_80 (k_X11_refuses l D ce b I1 L R hT x0 (-2 : Int32) h0 r3 I3 e3) rfl hl.1 rfl (Nat.le_of_ble_eq_true rfl) ⟨rfl, rfl⟩ ⟨Nat.le_of_ble_eq_true rfl, Nat.le_of_ble_eq_true rfl⟩ ⟨Nat.zero_le _, Nat.zero_le _⟩ dX11_weighs_28 (fun H locs hP hT hS => ?_)
    exact hret r3 I3 L hf H locs ls _ dX11_weighs_31 hP hT hS
  clear ej_2
  refine lv_if_eq (tgt := 25) hx hb dX11_weighs_6 (by decide) (fun c4 => ?_) (fun c4 => ?_)
  · have hf := ifT hf c4
    exact hJ25_2  H locs ls hP hS  (lv_sub hl [0] rfl) hf
  · have hf := ifF hf c4
    refine lv_aload_n hx hb dX11_weighs_9 rfl (lv_at hl 0 rfl) ?_
    refine lv_iload_n hx hb dX11_weighs_10 rfl (lv_at hl 2 rfl) ?_
    obtain ⟨r5, e5, hf⟩ := bd1_o hf
    refine mm_Vi (rest := []) hx hb hml hown hts hKK hP hS hA (kdM_lt h0 (Nat.succ_ne_zero _)) h0 (show vwCl[11]? = some (yX11_isRule.cls, TX11, 32) from rfl) vkX11_148 (k_X11_isRule l D ce b I1 L R hT x0 x2 h0 r5 e5) rfl hl.1 rfl (Nat.le_of_ble_eq_true rfl) ⟨rfl, rfl⟩ ⟨Nat.le_of_ble_eq_true rfl, Nat.le_of_ble_eq_true rfl⟩ ⟨Nat.zero_le _, Nat.zero_le _⟩ dX11_weighs_11 (fun H locs hP hT hS => ?_)
    refine lv_if_eq (tgt := 25) hx hb dX11_weighs_14 (by decide) (fun c6 => ?_) (fun c6 => ?_)
    · have hf := ifT hf c6
      exact hJ25_2  H locs ls hP hS  (lv_sub hl [0] rfl) hf
    · have hf := ifF hf c6
      refine lv_aload_n hx hb dX11_weighs_17 rfl (lv_at hl 0 rfl) ?_
      refine lv_iload_n hx hb dX11_weighs_18 rfl (lv_at hl 2 rfl) ?_
      obtain ⟨r7, L7, e7, hf⟩ := bd2_o hf
      refine mm_Vi (rest := []) hx hb hml hown hts hKK hP hS hA (kdM_lt h0 (Nat.succ_ne_zero _)) h0 (show vwCl[11]? = some (yX11_comparesRule.cls, TX11, 32) from rfl) vkX11_191 (k_X11_comparesRule l D ce b I1 L R hT x0 x2 h0 r7 L7 e7) rfl hl.1 rfl (Nat.le_of_ble_eq_true rfl) ⟨rfl, rfl⟩ ⟨Nat.le_of_ble_eq_true rfl, Nat.le_of_ble_eq_true rfl⟩ ⟨Nat.zero_le _, Nat.zero_le _⟩ dX11_weighs_19 (fun H locs hP hT hS => ?_)
      refine lv_goto (tgt := 31) hx hb dX11_weighs_22 (by decide) ?_
      exact hret r7 I1 L7 hf H locs ls _ dX11_weighs_31 hP hT hS
def rmX11_weight : Room := { frames := 1, cells := 0, slots := 0, locals := 26 }
set_option maxHeartbeats 4000000 in
set_option maxRecDepth 100000 in
theorem k_X11_weight (l : Launch) (D : va_G) (ce : Nat → ClassId) (b : Nat) (I : mI) (L : mL) (R : mR) (hT : WT kdM R) (x0 : Nat) (x1 : Int32) (h0 : kdM x0 = 17) (o1 : Int32) (o2 : mI) (o3 : mL) (hf : f_X11_weight x0 x1 I L R = some (o1, o2, o3)) : Met l yX11_weight (Cond.code yX11_weight cX11_weight 2 (some .int) :: GW) rmX11_weight (va_Pc [.ref (b + x0), .int x1] (PW D ce b kdM lnM 21 I L R)) (va_Qi (fun r u => r = o1 ∧ u = (o2, o3, R)) (QW D ce b kdM lnM 21) (box b 21)) 0 0 (box b 21) := by
  refine Met.ofW (cc := cX11_weight) (maxL := 2) (ret := (some .int)) (by decide) rfl ?_
  intro p e s m args below meth c s₁ B hml hv
  obtain ⟨rfl, hP, hKK⟩ := hv
  have hx := B.exec
  have hb := B.bytes
  have hr := B.returns
  have hts0 := atoms_spec (ws := Cond.code yX11_weight cX11_weight 2 (some .int) :: GW) B.pre
  have hts : ∀ w ∈ GW, w.before _ s = true := fun w h => hts0 w (List.mem_cons_of_mem _ h)
  clear hts0
  have hown : s.vm.findClass RX11 = some m.cls := findClass_of_methodNamed B.named
  have hlocks := B.notSynchronized
  have hA : ∀ q, box b 21 q → box b 21 q := fun _ h => h
  have hS : va_S (box b 21) s.heap s.heap [] := va_S.rf
  have hl := lv_entry ([.ref (b + x0), .int x1]) (n := 2) (Nat.le_of_ble_eq_true rfl)
  rw [lg_entry_eq]
  generalize (lg_sl ([.ref (b + x0), .int x1]) ++ List.replicate (2 - (lg_sl ([.ref (b + x0), .int x1])).length) Slot.unset).toArray = ls at hl ⊢
  have hl : lv_has ls 2 [(0, .ref (b + x0)), (1, .int x1)] := hl
  generalize ([.ref (b + x0), .int x1] : List Value).toArray = av at hts ⊢
  show W p l e rmX11_weight s m av below meth c s.heap [] 0 0 _ _
  obtain ⟨QQ, hQQ⟩ : ∃ z, z = MQ below (va_Qi (fun r u => r = o1 ∧ u = (o2, o3, R)) (QW D ce b kdM lnM 21) (box b 21)) av s 0 0 (box b 21) := ⟨_, rfl⟩
  rw [← hQQ]
  have hret : ∀ (r : Int32) (I1 : mI) (L1 : mL), some (r, I1, L1) = some (o1, o2, o3) → ∀ (H1 : Heap) (locs1 : List Loc) (ls1 : Array Slot) (pc1 : Nat), decode cX11_weight pc1 = .ok (.ireturn, 1) → va_P D vwCl (wd ce b kdM lnM 21 I1 L1 R) H1 → WT kdM R → va_S (box b 21) s.heap H1 locs1 → W p l e rmX11_weight s m av below meth c H1 locs1 0 0 QQ (F0 m pc1 ls1 [.int r]) := by
    intro r I1 L1 hq H1 locs1 ls1 pc1 hd hP hT hS
    cases hq
    rw [hQQ]
    exact mm_iret hx hb hr hlocks hP hT hS hd
  unfold f_X11_weight at hf
  obtain ⟨H, hH⟩ : ∃ z, z = s.heap := ⟨_, rfl⟩
  obtain ⟨locs, hlo⟩ : ∃ z : List Loc, z = [] := ⟨_, rfl⟩
  have hP : va_P D vwCl (wd ce b kdM lnM 21 I L R) H := by rw [hH]; exact hP
  have hS : va_S (box b 21) s.heap H locs := by rw [hH, hlo]; exact hS
  rw [show W p l e rmX11_weight s m av below meth c s.heap [] 0 0 QQ = W p l e rmX11_weight s m av below meth c H locs 0 0 QQ by rw [hH, hlo]]
  clear hH hlo
  clear hQQ
  show W p l e rmX11_weight s m av below meth c H locs 0 0 QQ (F0 m 0 ls [])
  refine lv_aload_n hx hb dX11_weight_0 rfl (lv_at hl 0 rfl) ?_
  refine lv_iload_n hx hb dX11_weight_1 rfl (lv_at hl 1 rfl) ?_
  refine lv_iconst (v := (3 : Int32)) hx hb dX11_weight_2 (by decide) ?_
  obtain ⟨r1, I1, e1, hf⟩ := bd2_o hf
  refine mm_Vi (rest := []) hx hb hml hown hts hKK hP hS hA (kdM_lt h0 (Nat.succ_ne_zero _)) h0 (show vwCl[11]? = some (yX11_laysFigures.cls, TX11, 32) from rfl) vkX11_194 (k_X11_laysFigures l D ce b I L R hT x0 x1 (3 : Int32) h0 r1 I1 e1) rfl hl.1 rfl (Nat.le_of_ble_eq_true rfl) ⟨rfl, rfl⟩ ⟨Nat.le_of_ble_eq_true rfl, Nat.le_of_ble_eq_true rfl⟩ ⟨Nat.zero_le _, Nat.zero_le _⟩ dX11_weight_3 (fun H locs hP hT hS => ?_)
  refine lv_if_ne (tgt := 16) hx hb dX11_weight_6 (by decide) (fun c2 => ?_) (fun c2 => ?_)
  · have hf := ifF hf c2
    refine lv_aload_n hx hb dX11_weight_16 rfl (lv_at hl 0 rfl) ?_
    refine lv_aload_n hx hb dX11_weight_17 rfl (lv_at hl 0 rfl) ?_
    have t3 : kdM (R x0 0) = 1 := wt hT h0 rfl
    refine mm_getr hx hb hts hown hKK hP fk11_0 (Nat.le_of_ble_eq_true rfl) lkX11_7 (kdM_lt h0 (Nat.succ_ne_zero _)) h0 (nM t3 (Nat.succ_ne_zero _)) dX11_weight_18 ?_
    refine lv_sipush (v := (132 : Int32)) hx hb dX11_weight_21 (by decide) ?_
    refine lv_aload_n hx hb dX11_weight_24 rfl (lv_at hl 0 rfl) ?_
    refine mm_getr hx hb hts hown hKK hP fk11_0 (Nat.le_of_ble_eq_true rfl) lkX11_7 (kdM_lt h0 (Nat.succ_ne_zero _)) h0 (nM t3 (Nat.succ_ne_zero _)) dX11_weight_25 ?_
    refine lv_sipush (v := (131 : Int32)) hx hb dX11_weight_28 (by decide) ?_
    obtain ⟨g4, hf⟩ := grd hf
    refine mm_iald hx hb hKK hP (kdM_lt t3 (Nat.succ_ne_zero _)) t3 g4 dX11_weight_31 ?_
    obtain ⟨L5, e5, hf⟩ := bd1_o hf
    refine mm_Vv (rest := []) hx hb hml hown hts hKK hP hS hA (kdM_lt h0 (Nat.succ_ne_zero _)) h0 (show vwCl[11]? = some (yX11_weighsTerm.cls, TX11, 32) from rfl) vkX11_183 (k_X11_weighsTerm l D ce b I1 L R hT x0 (R x0 0) (132 : Int32) (I1 (R x0 0) ((131 : Int32)).toNatClampNeg) h0 t3 L5 e5) rfl hl.1 rfl (Nat.le_of_ble_eq_true rfl) ⟨rfl, rfl⟩ ⟨Nat.le_of_ble_eq_true rfl, Nat.le_of_ble_eq_true rfl⟩ ⟨Nat.zero_le _, Nat.zero_le _⟩ dX11_weight_32 (fun H locs hP hT hS => ?_)
    refine lv_aload_n hx hb dX11_weight_35 rfl (lv_at hl 0 rfl) ?_
    have t6 : kdM (R x0 13) = 2 := wt hT h0 rfl
    refine mm_getr hx hb hts hown hKK hP fk11_13 (Nat.le_of_ble_eq_true rfl) lkX11_34 (kdM_lt h0 (Nat.succ_ne_zero _)) h0 (nM t6 (Nat.succ_ne_zero _)) dX11_weight_36 ?_
    refine lv_iconst (v := (0 : Int32)) hx hb dX11_weight_39 (by decide) ?_
    obtain ⟨g7, hf⟩ := grd hf
    refine mm_lald hx hb hKK hP (kdM_lt t6 (Nat.succ_ne_zero _)) t6 g7 dX11_weight_40 ?_
    refine lv_l2i (v := ((L5 (R x0 13) ((0 : Int32)).toNatClampNeg)).toInt32) hx hb dX11_weight_41 rfl ?_
    exact hret (((L5 (R x0 13) ((0 : Int32)).toNatClampNeg)).toInt32) I1 L5 hf H locs ls _ dX11_weight_42 hP hT hS
  · have hf := ifT hf c2
    refine lv_aload_n hx hb dX11_weight_9 rfl (lv_at hl 0 rfl) ?_
    refine lv_bipush (v := (-2 : Int32)) hx hb dX11_weight_10 (by decide) ?_
    obtain ⟨r8, I8, e8, hf⟩ := bd2_o hf
    refine mm_Vi (rest := []) hx hb hml hown hts hKK hP hS hA (kdM_lt h0 (Nat.succ_ne_zero _)) h0 (show vwCl[11]? = some (yX11_refuses.cls, TX11, 32) from rfl) vkX11_80 (k_X11_refuses l D ce b I1 L R hT x0 (-2 : Int32) h0 r8 I8 e8) rfl hl.1 rfl (Nat.le_of_ble_eq_true rfl) ⟨rfl, rfl⟩ ⟨Nat.le_of_ble_eq_true rfl, Nat.le_of_ble_eq_true rfl⟩ ⟨Nat.zero_le _, Nat.zero_le _⟩ dX11_weight_12 (fun H locs hP hT hS => ?_)
    exact hret r8 I8 L hf H locs ls _ dX11_weight_15 hP hT hS
def rmX11_mayFollow : Room := { frames := 3, cells := 0, slots := 0, locals := 63 }
set_option maxHeartbeats 4000000 in
set_option maxRecDepth 100000 in
theorem k_X11_mayFollow (l : Launch) (D : va_G) (ce : Nat → ClassId) (b : Nat) (I : mI) (L : mL) (R : mR) (hT : WT kdM R) (x0 : Nat) (x1 : Int32) (x2 : Int32) (h0 : kdM x0 = 17) (o1 : Int32) (hf : f_X11_mayFollow x0 x1 x2 I R = some o1) : Met l yX11_mayFollow (Cond.code yX11_mayFollow cX11_mayFollow 6 (some .boolean) :: GW) rmX11_mayFollow (va_Pc [.ref (b + x0), .int x1, .int x2] (PW D ce b kdM lnM 21 I L R)) (va_Qi (fun r u => r = o1 ∧ u = (I, L, R)) (QW D ce b kdM lnM 21) (box b 21)) 0 0 (box b 21) := by
  refine Met.ofW (cc := cX11_mayFollow) (maxL := 6) (ret := (some .boolean)) (by decide) rfl ?_
  intro p e s m args below meth c s₁ B hml hv
  obtain ⟨rfl, hP, hKK⟩ := hv
  have hx := B.exec
  have hb := B.bytes
  have hr := B.returns
  have hts0 := atoms_spec (ws := Cond.code yX11_mayFollow cX11_mayFollow 6 (some .boolean) :: GW) B.pre
  have hts : ∀ w ∈ GW, w.before _ s = true := fun w h => hts0 w (List.mem_cons_of_mem _ h)
  clear hts0
  have hown : s.vm.findClass RX11 = some m.cls := findClass_of_methodNamed B.named
  have hlocks := B.notSynchronized
  have hA : ∀ q, box b 21 q → box b 21 q := fun _ h => h
  have hS : va_S (box b 21) s.heap s.heap [] := va_S.rf
  have hl := lv_entry ([.ref (b + x0), .int x1, .int x2]) (n := 6) (Nat.le_of_ble_eq_true rfl)
  rw [lg_entry_eq]
  generalize (lg_sl ([.ref (b + x0), .int x1, .int x2]) ++ List.replicate (6 - (lg_sl ([.ref (b + x0), .int x1, .int x2])).length) Slot.unset).toArray = ls at hl ⊢
  have hl : lv_has ls 6 [(0, .ref (b + x0)), (1, .int x1), (2, .int x2)] := hl
  generalize ([.ref (b + x0), .int x1, .int x2] : List Value).toArray = av at hts ⊢
  show W p l e rmX11_mayFollow s m av below meth c s.heap [] 0 0 _ _
  obtain ⟨QQ, hQQ⟩ : ∃ z, z = MQ below (va_Qi (fun r u => r = o1 ∧ u = (I, L, R)) (QW D ce b kdM lnM 21) (box b 21)) av s 0 0 (box b 21) := ⟨_, rfl⟩
  rw [← hQQ]
  have hret : ∀ (r : Int32), some r = some o1 → ∀ (H1 : Heap) (locs1 : List Loc) (ls1 : Array Slot) (pc1 : Nat), decode cX11_mayFollow pc1 = .ok (.ireturn, 1) → zb r = true → va_P D vwCl (wd ce b kdM lnM 21 I L R) H1 → WT kdM R → va_S (box b 21) s.heap H1 locs1 → W p l e rmX11_mayFollow s m av below meth c H1 locs1 0 0 QQ (F0 m pc1 ls1 [.int r]) := by
    intro r hq H1 locs1 ls1 pc1 hd hz hP hT hS
    cases hq
    rw [hQQ]
    exact mm_zret hx hb hr hlocks hz hP hT hS hd
  unfold f_X11_mayFollow at hf
  obtain ⟨H, hH⟩ : ∃ z, z = s.heap := ⟨_, rfl⟩
  obtain ⟨locs, hlo⟩ : ∃ z : List Loc, z = [] := ⟨_, rfl⟩
  have hP : va_P D vwCl (wd ce b kdM lnM 21 I L R) H := by rw [hH]; exact hP
  have hS : va_S (box b 21) s.heap H locs := by rw [hH, hlo]; exact hS
  rw [show W p l e rmX11_mayFollow s m av below meth c s.heap [] 0 0 QQ = W p l e rmX11_mayFollow s m av below meth c H locs 0 0 QQ by rw [hH, hlo]]
  clear hH hlo
  clear hQQ
  show W p l e rmX11_mayFollow s m av below meth c H locs 0 0 QQ (F0 m 0 ls [])
  refine lv_aload_n hx hb dX11_mayFollow_0 rfl (lv_at hl 0 rfl) ?_
  have t1 : kdM (R x0 17) = 1 := wt hT h0 rfl
  refine mm_getr hx hb hts hown hKK hP fk11_17 (Nat.le_of_ble_eq_true rfl) lkX11_47 (kdM_lt h0 (Nat.succ_ne_zero _)) h0 (nM t1 (Nat.succ_ne_zero _)) dX11_mayFollow_1 ?_
  refine lv_iload_n hx hb dX11_mayFollow_4 rfl (lv_at hl 1 rfl) ?_
  obtain ⟨g2, hf⟩ := grd hf
  refine mm_iald hx hb hKK hP (kdM_lt t1 (Nat.succ_ne_zero _)) t1 g2 dX11_mayFollow_5 ?_
  refine lv_istore_n (lv' := [(3, .int (I (R x0 17) x1.toNatClampNeg)), (0, .ref (b + x0)), (1, .int x1), (2, .int x2)]) hx hb dX11_mayFollow_6 rfl hl (Nat.le_of_ble_eq_true rfl) rfl (fun ls hl => ?_)
  refine lv_aload_n hx hb dX11_mayFollow_7 rfl (lv_at hl 1 rfl) ?_
  have t3 : kdM (R x0 16) = 1 := wt hT h0 rfl
  refine mm_getr hx hb hts hown hKK hP fk11_16 (Nat.le_of_ble_eq_true rfl) lkX11_44 (kdM_lt h0 (Nat.succ_ne_zero _)) h0 (nM t3 (Nat.succ_ne_zero _)) dX11_mayFollow_8 ?_
  refine lv_iload_n hx hb dX11_mayFollow_11 rfl (lv_at hl 3 rfl) ?_
  obtain ⟨g4, hf⟩ := grd hf
  refine mm_iald hx hb hKK hP (kdM_lt t3 (Nat.succ_ne_zero _)) t3 g4 dX11_mayFollow_12 ?_
  obtain ⟨r5, e5, hf⟩ := bd1_o hf
  refine mm_Si (rest := []) hx hb hml hown hts hKK hP hS hA skX11_117 (k_X11_leftOf l D ce b I L R hT (I (R x0 16) x2.toNatClampNeg)  r5 e5) rfl hl.1 rfl (Nat.le_of_ble_eq_true rfl) ⟨rfl, rfl⟩ ⟨Nat.le_of_ble_eq_true rfl, Nat.le_of_ble_eq_true rfl⟩ ⟨Nat.zero_le _, Nat.zero_le _⟩ dX11_mayFollow_13 (fun H locs hP hT hS => ?_)
  refine lv_istore (lv' := [(4, .int r5), (3, .int (I (R x0 17) x1.toNatClampNeg)), (0, .ref (b + x0)), (1, .int x1), (2, .int x2)]) hx hb dX11_mayFollow_16 hl (Nat.le_of_ble_eq_true rfl) rfl (fun ls hl => ?_)
  refine lv_aload_n hx hb dX11_mayFollow_18 rfl (lv_at hl 2 rfl) ?_
  have t6 : kdM (R x0 0) = 1 := wt hT h0 rfl
  refine mm_getr hx hb hts hown hKK hP fk11_0 (Nat.le_of_ble_eq_true rfl) lkX11_7 (kdM_lt h0 (Nat.succ_ne_zero _)) h0 (nM t6 (Nat.succ_ne_zero _)) dX11_mayFollow_19 ?_
  refine lv_iload_n hx hb dX11_mayFollow_22 rfl (lv_at hl 1 rfl) ?_
  obtain ⟨g7, hf⟩ := grd hf
  refine mm_iald hx hb hKK hP (kdM_lt t6 (Nat.succ_ne_zero _)) t6 g7 dX11_mayFollow_23 ?_
  refine lv_aload_n hx hb dX11_mayFollow_24 rfl (lv_at hl 2 rfl) ?_
  refine mm_getr hx hb hts hown hKK hP fk11_0 (Nat.le_of_ble_eq_true rfl) lkX11_7 (kdM_lt h0 (Nat.succ_ne_zero _)) h0 (nM t6 (Nat.succ_ne_zero _)) dX11_mayFollow_25 ?_
  refine lv_iload hx hb dX11_mayFollow_28 (lv_at hl 0 rfl) ?_
  obtain ⟨g8, hf⟩ := grd hf
  refine mm_iald hx hb hKK hP (kdM_lt t6 (Nat.succ_ne_zero _)) t6 g8 dX11_mayFollow_30 ?_
  refine lv_icmp_eq (tgt := 36) hx hb dX11_mayFollow_31 (by decide) (fun c9 => ?_) (fun c9 => ?_)
  · have hf := ifT hf c9
    refine lv_iload hx hb dX11_mayFollow_36 (lv_at hl 0 rfl) ?_
    refine lv_aload_n hx hb dX11_mayFollow_38 rfl (lv_at hl 2 rfl) ?_
    refine mm_getr hx hb hts hown hKK hP fk11_0 (Nat.le_of_ble_eq_true rfl) lkX11_7 (kdM_lt h0 (Nat.succ_ne_zero _)) h0 (nM t6 (Nat.succ_ne_zero _)) dX11_mayFollow_39 ?_
    refine lv_aload_n hx hb dX11_mayFollow_42 rfl (lv_at hl 2 rfl) ?_
    refine mm_getr hx hb hts hown hKK hP fk11_16 (Nat.le_of_ble_eq_true rfl) lkX11_44 (kdM_lt h0 (Nat.succ_ne_zero _)) h0 (nM t3 (Nat.succ_ne_zero _)) dX11_mayFollow_43 ?_
    refine lv_iload_n hx hb dX11_mayFollow_46 rfl (lv_at hl 4 rfl) ?_
    refine mm_iald hx hb hKK hP (kdM_lt t3 (Nat.succ_ne_zero _)) t3 g4 dX11_mayFollow_47 ?_
    obtain ⟨r10, e10, hf⟩ := bd1_o hf
    refine mm_Si (rest := [.int r5]) hx hb hml hown hts hKK hP hS hA skX11_158 (k_X11_leftLong l D ce b I L R hT (R x0 0) (I (R x0 16) x2.toNatClampNeg) t6 r10 e10) rfl hl.1 rfl (Nat.le_of_ble_eq_true rfl) ⟨rfl, rfl⟩ ⟨Nat.le_of_ble_eq_true rfl, Nat.le_of_ble_eq_true rfl⟩ ⟨Nat.zero_le _, Nat.zero_le _⟩ dX11_mayFollow_48 (fun H locs hP hT hS => ?_)
    refine lv_iadd hx hb dX11_mayFollow_51 ?_
    refine lv_istore (lv' := [(5, .int (r5 + r10)), (4, .int r5), (3, .int (I (R x0 17) x1.toNatClampNeg)), (0, .ref (b + x0)), (1, .int x1), (2, .int x2)]) hx hb dX11_mayFollow_52 hl (Nat.le_of_ble_eq_true rfl) rfl (fun ls hl => ?_)
    refine lv_iinc (v := ((I (R x0 17) x1.toNatClampNeg) + (1 : Int32))) (lv' := [(3, .int ((I (R x0 17) x1.toNatClampNeg) + (1 : Int32))), (5, .int (r5 + r10)), (4, .int r5), (0, .ref (b + x0)), (1, .int x1), (2, .int x2)]) hx hb dX11_mayFollow_54 hl (k := 2) rfl rfl (Nat.le_of_ble_eq_true rfl) rfl (fun ls hl => ?_)
    refine lv_iinc (v := (r5 + (1 : Int32))) (lv' := [(4, .int (r5 + (1 : Int32))), (3, .int ((I (R x0 17) x1.toNatClampNeg) + (1 : Int32))), (5, .int (r5 + r10)), (0, .ref (b + x0)), (1, .int x1), (2, .int x2)]) hx hb dX11_mayFollow_57 hl (k := 2) rfl rfl (Nat.le_of_ble_eq_true rfl) rfl (fun ls hl => ?_)
    have lp60 : ∀ (n : Nat) (x0 : Nat) (x3 : Int32) (x4 : Int32) (x5 : Int32) (I : mI) (L : mL) (R : mR) (q : (Int32) ⊕ (Unit)) (H : Heap) (locs : List Loc) (ls : Array Slot), va_P D vwCl (wd ce b kdM lnM 21 I L R) H → va_S (box b 21) s.heap H locs → WT kdM R → kdM x0 = 17 → lv_has ls 6 [(0, .ref (b + x0)), (3, .int x3), (4, .int x4), (5, .int x5)] → f_X11_mayFollow_L60 n x0 x3 x4 x5 I R = some q → (∀ (_ : Unit), some (Sum.inr ()) = some q → ∀ (H1 : Heap) (locs1 : List Loc) (ls1 : Array Slot), va_P D vwCl (wd ce b kdM lnM 21 I L R) H1 → va_S (box b 21) s.heap H1 locs1 → lv_has ls1 6 [] → W p l e rmX11_mayFollow s m av below meth c H1 locs1 0 0 QQ (F0 m 160 ls1 [])) → (∀ (r : Int32), some (Sum.inl r) = some q → ∀ (H1 : Heap) (locs1 : List Loc) (ls1 : Array Slot) (pc1 : Nat), decode cX11_mayFollow pc1 = .ok (.ireturn, 1) → zb r = true → va_P D vwCl (wd ce b kdM lnM 21 I L R) H1 → WT kdM R → va_S (box b 21) s.heap H1 locs1 → W p l e rmX11_mayFollow s m av below meth c H1 locs1 0 0 QQ (F0 m pc1 ls1 [.int r])) → W p l e rmX11_mayFollow s m av below meth c H locs 0 0 QQ (F0 m 60 ls []) := by
      intro n
      induction n with
      | zero =>
        intro x0 x3 x4 x5 I L R q H locs ls hP hS hT h0 hl hf kx kr
        exact absurd (show (none : Option ((Int32) ⊕ (Unit))) = some _ from hf) (by simp)
      | succ n ih =>
        intro x0 x3 x4 x5 I L R q H locs ls hP hS hT h0 hl hf kx kr
        rw [f_X11_mayFollow_L60] at hf
        refine lv_iload hx hb dX11_mayFollow_60 (lv_at hl 2 rfl) ?_
        refine lv_iload hx hb dX11_mayFollow_62 (lv_at hl 3 rfl) ?_
        refine lv_icmp_ge (tgt := 160) hx hb dX11_mayFollow_64 (by decide) (fun c11 => ?_) (fun c11 => ?_)
        · have hf := ifT hf c11
          exact kx () hf H locs ls hP hS (lv_sub hl [] rfl)
        · have hf := ifF hf c11
          refine lv_aload_n hx hb dX11_mayFollow_67 rfl (lv_at hl 0 rfl) ?_
          have t12 : kdM (R x0 0) = 1 := wt hT h0 rfl
          refine mm_getr hx hb hts hown hKK hP fk11_0 (Nat.le_of_ble_eq_true rfl) lkX11_7 (kdM_lt h0 (Nat.succ_ne_zero _)) h0 (nM t12 (Nat.succ_ne_zero _)) dX11_mayFollow_68 ?_
          refine lv_iload hx hb dX11_mayFollow_71 (lv_at hl 2 rfl) ?_
          obtain ⟨g13, hf⟩ := grd hf
          refine mm_iald hx hb hKK hP (kdM_lt t12 (Nat.succ_ne_zero _)) t12 g13 dX11_mayFollow_73 ?_
          obtain ⟨r14, e14, hf⟩ := bd1_o hf
          refine mm_Si (rest := []) hx hb hml hown hts hKK hP hS hA skX11_100 (k_X11_isUnknown l D ce b I L R hT (I (R x0 0) x4.toNatClampNeg)  r14 e14) rfl hl.1 rfl (Nat.le_of_ble_eq_true rfl) ⟨rfl, rfl⟩ ⟨Nat.le_of_ble_eq_true rfl, Nat.le_of_ble_eq_true rfl⟩ ⟨Nat.zero_le _, Nat.zero_le _⟩ dX11_mayFollow_74 (fun H locs hP hT hS => ?_)
          refine jnE hf (fun j105_15 ej_15 hf => ?_)
          have hJ105_15 : ∀ (H : Heap) (locs : List Loc) (ls : Array Slot), va_P D vwCl (wd ce b kdM lnM 21 I L R) H → va_S (box b 21) s.heap H locs → lv_has ls 6 [(0, .ref (b + x0)), (3, .int x3), (4, .int x4), (5, .int x5)] → j105_15  = some q → W p l e rmX11_mayFollow s m av below meth c H locs 0 0 QQ (F0 m 105 ls []) := by
            intro  H locs ls hP hS  hl hf
            rw [ej_15] at hf
            try dsimp only at hf
            refine lv_iload_n hx hb dX11_mayFollow_105 rfl (lv_at hl 1 rfl) ?_
            refine lv_aload_n hx hb dX11_mayFollow_106 rfl (lv_at hl 0 rfl) ?_
            refine mm_getr hx hb hts hown hKK hP fk11_0 (Nat.le_of_ble_eq_true rfl) lkX11_7 (kdM_lt h0 (Nat.succ_ne_zero _)) h0 (nM t12 (Nat.succ_ne_zero _)) dX11_mayFollow_107 ?_
            refine lv_iload_n hx hb dX11_mayFollow_110 rfl (lv_at hl 1 rfl) ?_
            obtain ⟨r16, e16, hf⟩ := bd1_o hf
            refine mm_Si (rest := [.int x3]) hx hb hml hown hts hKK hP hS hA skX11_207 (k_X11_longAt l D ce b I L R hT (R x0 0) x3 t12 r16 e16) rfl hl.1 rfl (Nat.le_of_ble_eq_true rfl) ⟨rfl, rfl⟩ ⟨Nat.le_of_ble_eq_true rfl, Nat.le_of_ble_eq_true rfl⟩ ⟨Nat.zero_le _, Nat.zero_le _⟩ dX11_mayFollow_111 (fun H locs hP hT hS => ?_)
            refine lv_iadd hx hb dX11_mayFollow_114 ?_
            refine lv_istore_n (lv' := [(3, .int (x3 + r16)), (0, .ref (b + x0)), (4, .int x4), (5, .int x5)]) hx hb dX11_mayFollow_115 rfl hl (Nat.le_of_ble_eq_true rfl) rfl (fun ls hl => ?_)
            refine lv_iload hx hb dX11_mayFollow_116 (lv_at hl 2 rfl) ?_
            refine lv_aload_n hx hb dX11_mayFollow_118 rfl (lv_at hl 1 rfl) ?_
            refine mm_getr hx hb hts hown hKK hP fk11_0 (Nat.le_of_ble_eq_true rfl) lkX11_7 (kdM_lt h0 (Nat.succ_ne_zero _)) h0 (nM t12 (Nat.succ_ne_zero _)) dX11_mayFollow_119 ?_
            refine lv_iload hx hb dX11_mayFollow_122 (lv_at hl 2 rfl) ?_
            obtain ⟨r17, e17, hf⟩ := bd1_o hf
            refine mm_Si (rest := [.int x4]) hx hb hml hown hts hKK hP hS hA skX11_207 (k_X11_longAt l D ce b I L R hT (R x0 0) x4 t12 r17 e17) rfl hl.1 rfl (Nat.le_of_ble_eq_true rfl) ⟨rfl, rfl⟩ ⟨Nat.le_of_ble_eq_true rfl, Nat.le_of_ble_eq_true rfl⟩ ⟨Nat.zero_le _, Nat.zero_le _⟩ dX11_mayFollow_124 (fun H locs hP hT hS => ?_)
            refine lv_iadd hx hb dX11_mayFollow_127 ?_
            refine lv_istore (lv' := [(4, .int (x4 + r17)), (3, .int (x3 + r16)), (0, .ref (b + x0)), (5, .int x5)]) hx hb dX11_mayFollow_128 hl (Nat.le_of_ble_eq_true rfl) rfl (fun ls hl => ?_)
            refine lv_goto (tgt := 60) hx hb dX11_mayFollow_130 (by decide) ?_
            exact ih x0 (x3 + r16) (x4 + r17) x5 I L R q H locs ls hP hS hT h0 (lv_sub hl [2, 1, 0, 3] rfl) hf kx kr
          clear ej_15
          refine lv_if_ne (tgt := 105) hx hb dX11_mayFollow_77 (by decide) (fun c18 => ?_) (fun c18 => ?_)
          · have hf := ifF hf c18
            exact hJ105_15  H locs ls hP hS  (lv_sub hl [0, 1, 2, 3] rfl) hf
          · have hf := ifT hf c18
            refine lv_aload_n hx hb dX11_mayFollow_80 rfl (lv_at hl 0 rfl) ?_
            refine mm_getr hx hb hts hown hKK hP fk11_0 (Nat.le_of_ble_eq_true rfl) lkX11_7 (kdM_lt h0 (Nat.succ_ne_zero _)) h0 (nM t12 (Nat.succ_ne_zero _)) dX11_mayFollow_81 ?_
            refine lv_iload_n hx hb dX11_mayFollow_84 rfl (lv_at hl 1 rfl) ?_
            obtain ⟨g19, hf⟩ := grd hf
            refine mm_iald hx hb hKK hP (kdM_lt t12 (Nat.succ_ne_zero _)) t12 g19 dX11_mayFollow_85 ?_
            obtain ⟨r20, e20, hf⟩ := bd1_o hf
            refine mm_Si (rest := []) hx hb hml hown hts hKK hP hS hA skX11_100 (k_X11_isUnknown l D ce b I L R hT (I (R x0 0) x3.toNatClampNeg)  r20 e20) rfl hl.1 rfl (Nat.le_of_ble_eq_true rfl) ⟨rfl, rfl⟩ ⟨Nat.le_of_ble_eq_true rfl, Nat.le_of_ble_eq_true rfl⟩ ⟨Nat.zero_le _, Nat.zero_le _⟩ dX11_mayFollow_86 (fun H locs hP hT hS => ?_)
            refine lv_if_ne (tgt := 105) hx hb dX11_mayFollow_89 (by decide) (fun c21 => ?_) (fun c21 => ?_)
            · have hf := ifF hf c21
              exact hJ105_15  H locs ls hP hS  (lv_sub hl [0, 1, 2, 3] rfl) hf
            · have hf := ifT hf c21
              refine lv_aload_n hx hb dX11_mayFollow_92 rfl (lv_at hl 0 rfl) ?_
              refine lv_aload_n hx hb dX11_mayFollow_93 rfl (lv_at hl 0 rfl) ?_
              refine mm_getr hx hb hts hown hKK hP fk11_0 (Nat.le_of_ble_eq_true rfl) lkX11_7 (kdM_lt h0 (Nat.succ_ne_zero _)) h0 (nM t12 (Nat.succ_ne_zero _)) dX11_mayFollow_94 ?_
              refine lv_iload_n hx hb dX11_mayFollow_97 rfl (lv_at hl 1 rfl) ?_
              refine mm_iald hx hb hKK hP (kdM_lt t12 (Nat.succ_ne_zero _)) t12 g19 dX11_mayFollow_98 ?_
              obtain ⟨r22, e22, hf⟩ := bd1_o hf
              refine mm_Vi (rest := []) hx hb hml hown hts hKK hP hS hA (kdM_lt h0 (Nat.succ_ne_zero _)) h0 (show vwCl[11]? = some (yX11_isHead.cls, TX11, 32) from rfl) vkX11_165 (k_X11_isHead l D ce b I L R hT x0 (I (R x0 0) x3.toNatClampNeg) h0 r22 e22) rfl hl.1 rfl (Nat.le_of_ble_eq_true rfl) ⟨rfl, rfl⟩ ⟨Nat.le_of_ble_eq_true rfl, Nat.le_of_ble_eq_true rfl⟩ ⟨Nat.zero_le _, Nat.zero_le _⟩ dX11_mayFollow_99 (fun H locs hP hT hS => ?_)
              refine lv_if_eq (tgt := 133) hx hb dX11_mayFollow_102 (by decide) (fun c23 => ?_) (fun c23 => ?_)
              · have hf := ifT hf c23
                refine lv_aload_n hx hb dX11_mayFollow_133 rfl (lv_at hl 0 rfl) ?_
                refine mm_getr hx hb hts hown hKK hP fk11_0 (Nat.le_of_ble_eq_true rfl) lkX11_7 (kdM_lt h0 (Nat.succ_ne_zero _)) h0 (nM t12 (Nat.succ_ne_zero _)) dX11_mayFollow_134 ?_
                refine lv_iload_n hx hb dX11_mayFollow_137 rfl (lv_at hl 1 rfl) ?_
                refine mm_iald hx hb hKK hP (kdM_lt t12 (Nat.succ_ne_zero _)) t12 g19 dX11_mayFollow_138 ?_
                refine lv_aload_n hx hb dX11_mayFollow_139 rfl (lv_at hl 0 rfl) ?_
                refine mm_getr hx hb hts hown hKK hP fk11_0 (Nat.le_of_ble_eq_true rfl) lkX11_7 (kdM_lt h0 (Nat.succ_ne_zero _)) h0 (nM t12 (Nat.succ_ne_zero _)) dX11_mayFollow_140 ?_
                refine lv_iload hx hb dX11_mayFollow_143 (lv_at hl 2 rfl) ?_
                refine mm_iald hx hb hKK hP (kdM_lt t12 (Nat.succ_ne_zero _)) t12 g13 dX11_mayFollow_145 ?_
                refine lv_icmp_ne (tgt := 158) hx hb dX11_mayFollow_146 (by decide) (fun c24 => ?_) (fun c24 => ?_)
                · have hf := ifF hf c24
                  refine lv_iconst (v := (0 : Int32)) hx hb dX11_mayFollow_158 (by decide) ?_
                  exact kr (0 : Int32) hf H locs ls _ dX11_mayFollow_159 rfl hP hT hS
                · have hf := ifT hf c24
                  refine lv_iinc (v := (x3 + (1 : Int32))) (lv' := [(3, .int (x3 + (1 : Int32))), (0, .ref (b + x0)), (4, .int x4), (5, .int x5)]) hx hb dX11_mayFollow_149 hl (k := 1) rfl rfl (Nat.le_of_ble_eq_true rfl) rfl (fun ls hl => ?_)
                  refine lv_iinc (v := (x4 + (1 : Int32))) (lv' := [(4, .int (x4 + (1 : Int32))), (3, .int (x3 + (1 : Int32))), (0, .ref (b + x0)), (5, .int x5)]) hx hb dX11_mayFollow_152 hl (k := 2) rfl rfl (Nat.le_of_ble_eq_true rfl) rfl (fun ls hl => ?_)
                  refine lv_goto (tgt := 60) hx hb dX11_mayFollow_155 (by decide) ?_
                  exact ih x0 (x3 + (1 : Int32)) (x4 + (1 : Int32)) x5 I L R q H locs ls hP hS hT h0 (lv_sub hl [2, 1, 0, 3] rfl) hf kx kr
              · have hf := ifF hf c23
                exact hJ105_15  H locs ls hP hS  (lv_sub hl [0, 1, 2, 3] rfl) hf
    obtain ⟨q_25, e_25, hf⟩ := bdS_o hf
    refine lp60 FU x0 ((I (R x0 17) x1.toNatClampNeg) + (1 : Int32)) (r5 + (1 : Int32)) (r5 + r10) I L R q_25 H locs ls hP hS hT h0 (lv_sub hl [3, 1, 0, 2] rfl) e_25 (fun _ hq H locs ls hP hS hl => ?_) (fun r_25 hq H locs ls pc1 hd hz hP hT hS => ?_)
    · have hf := elR0 hf (Option.some.inj hq).symm
      refine lv_iconst (v := (1 : Int32)) hx hb dX11_mayFollow_160 (by decide) ?_
      exact hret (1 : Int32) hf H locs ls _ dX11_mayFollow_161 rfl hP hT hS
    · have hf := elL1 hf (Option.some.inj hq).symm
      exact hret r_25 hf H locs ls pc1 hd hz hP hT hS
  · have hf := ifF hf c9
    refine lv_iconst (v := (0 : Int32)) hx hb dX11_mayFollow_34 (by decide) ?_
    exact hret (0 : Int32) hf H locs ls _ dX11_mayFollow_35 rfl hP hT hS
def rmX11_laysRings : Room := { frames := 0, cells := 0, slots := 0, locals := 0 }
set_option maxHeartbeats 4000000 in
set_option maxRecDepth 100000 in
theorem k_X11_laysRings (l : Launch) (D : va_G) (ce : Nat → ClassId) (b : Nat) (I : mI) (L : mL) (R : mR) (hT : WT kdM R) (x0 : Nat) (h0 : kdM x0 = 17) (o1 : mI) (hf : f_X11_laysRings x0 I R = some o1) : Met l yX11_laysRings (Cond.code yX11_laysRings cX11_laysRings 3 none :: GW) rmX11_laysRings (va_Pc [.ref (b + x0)] (PW D ce b kdM lnM 21 I L R)) (va_Qv (fun u => u = (o1, L, R)) (QW D ce b kdM lnM 21) (box b 21)) 0 0 (box b 21) := by
  refine Met.ofW (cc := cX11_laysRings) (maxL := 3) (ret := none) (by decide) rfl ?_
  intro p e s m args below meth c s₁ B hml hv
  obtain ⟨rfl, hP, hKK⟩ := hv
  have hx := B.exec
  have hb := B.bytes
  have hr := B.returns
  have hts0 := atoms_spec (ws := Cond.code yX11_laysRings cX11_laysRings 3 none :: GW) B.pre
  have hts : ∀ w ∈ GW, w.before _ s = true := fun w h => hts0 w (List.mem_cons_of_mem _ h)
  clear hts0
  have hown : s.vm.findClass RX11 = some m.cls := findClass_of_methodNamed B.named
  have hlocks := B.notSynchronized
  have hA : ∀ q, box b 21 q → box b 21 q := fun _ h => h
  have hS : va_S (box b 21) s.heap s.heap [] := va_S.rf
  have hl := lv_entry ([.ref (b + x0)]) (n := 3) (Nat.le_of_ble_eq_true rfl)
  rw [lg_entry_eq]
  generalize (lg_sl ([.ref (b + x0)]) ++ List.replicate (3 - (lg_sl ([.ref (b + x0)])).length) Slot.unset).toArray = ls at hl ⊢
  have hl : lv_has ls 3 [(0, .ref (b + x0))] := hl
  generalize ([.ref (b + x0)] : List Value).toArray = av at hts ⊢
  show W p l e rmX11_laysRings s m av below meth c s.heap [] 0 0 _ _
  obtain ⟨QQ, hQQ⟩ : ∃ z, z = MQ below (va_Qv (fun u => u = (o1, L, R)) (QW D ce b kdM lnM 21) (box b 21)) av s 0 0 (box b 21) := ⟨_, rfl⟩
  rw [← hQQ]
  have hret : ∀ (I1 : mI), some I1 = some o1 → ∀ (H1 : Heap) (locs1 : List Loc) (ls1 : Array Slot) (pc1 : Nat), decode cX11_laysRings pc1 = .ok (.return_, 1) → va_P D vwCl (wd ce b kdM lnM 21 I1 L R) H1 → WT kdM R → va_S (box b 21) s.heap H1 locs1 → W p l e rmX11_laysRings s m av below meth c H1 locs1 0 0 QQ (F0 m pc1 ls1 []) := by
    intro I1 hq H1 locs1 ls1 pc1 hd hP hT hS
    cases hq
    rw [hQQ]
    exact mm_vret hx hb hr hlocks hP hT hS hd
  unfold f_X11_laysRings at hf
  obtain ⟨H, hH⟩ : ∃ z, z = s.heap := ⟨_, rfl⟩
  obtain ⟨locs, hlo⟩ : ∃ z : List Loc, z = [] := ⟨_, rfl⟩
  have hP : va_P D vwCl (wd ce b kdM lnM 21 I L R) H := by rw [hH]; exact hP
  have hS : va_S (box b 21) s.heap H locs := by rw [hH, hlo]; exact hS
  rw [show W p l e rmX11_laysRings s m av below meth c s.heap [] 0 0 QQ = W p l e rmX11_laysRings s m av below meth c H locs 0 0 QQ by rw [hH, hlo]]
  clear hH hlo
  clear hQQ
  show W p l e rmX11_laysRings s m av below meth c H locs 0 0 QQ (F0 m 0 ls [])
  refine lv_aload_n hx hb dX11_laysRings_0 rfl (lv_at hl 0 rfl) ?_
  refine lv_iconst (v := (0 : Int32)) hx hb dX11_laysRings_1 (by decide) ?_
  refine jnE hf (fun I1 eI1 hf => ?_)
  refine mm_puti hx hb hts hown hKK hP hA hS fk11_22 (Or.inl rfl) fw11_22 lkX11_210 (kdM_lt h0 (Nat.succ_ne_zero _)) h0 rfl rfl dX11_laysRings_2 (fun H locs hP hS => ?_)
  rw [← eI1] at hP
  refine lv_iconst (v := (0 : Int32)) hx hb dX11_laysRings_5 (by decide) ?_
  refine lv_istore_n (lv' := [(1, .int (0 : Int32)), (0, .ref (b + x0))]) hx hb dX11_laysRings_6 rfl hl (Nat.le_of_ble_eq_true rfl) rfl (fun ls hl => ?_)
  have lp7 : ∀ (n : Nat) (x0 : Nat) (x1 : Int32) (I : mI) (L : mL) (R : mR) (a1 : mI) (H : Heap) (locs : List Loc) (ls : Array Slot), va_P D vwCl (wd ce b kdM lnM 21 I L R) H → va_S (box b 21) s.heap H locs → WT kdM R → kdM x0 = 17 → lv_has ls 3 [(0, .ref (b + x0)), (1, .int x1)] → f_X11_laysRings_L7 n x0 x1 I R = some a1 → (∀ (H1 : Heap) (locs1 : List Loc) (ls1 : Array Slot), va_P D vwCl (wd ce b kdM lnM 21 a1 L R) H1 → va_S (box b 21) s.heap H1 locs1 → lv_has ls1 3 [(0, .ref (b + x0))] → W p l e rmX11_laysRings s m av below meth c H1 locs1 0 0 QQ (F0 m 28 ls1 [])) → W p l e rmX11_laysRings s m av below meth c H locs 0 0 QQ (F0 m 7 ls []) := by
    intro n
    induction n with
    | zero =>
      intro x0 x1 I L R a1 H locs ls hP hS hT h0 hl hf kx
      exact absurd (show (none : Option (mI)) = some _ from hf) (by simp)
    | succ n ih =>
      intro x0 x1 I L R a1 H locs ls hP hS hT h0 hl hf kx
      rw [f_X11_laysRings_L7] at hf
      refine lv_iload_n hx hb dX11_laysRings_7 rfl (lv_at hl 1 rfl) ?_
      refine lv_aload_n hx hb dX11_laysRings_8 rfl (lv_at hl 0 rfl) ?_
      refine mm_geti hx hb hts hown hKK hP fk11_18 (Or.inl rfl) lkX11_213 (kdM_lt h0 (Nat.succ_ne_zero _)) h0 dX11_laysRings_9 ?_
      refine lv_icmp_ge (tgt := 28) hx hb dX11_laysRings_12 (by decide) (fun c2 => ?_) (fun c2 => ?_)
      · have hf := ifT hf c2
        cases hf
        exact kx H locs ls hP hS (lv_sub hl [0] rfl)
      · have hf := ifF hf c2
        refine lv_aload_n hx hb dX11_laysRings_15 rfl (lv_at hl 0 rfl) ?_
        have t3 : kdM (R x0 21) = 1 := wt hT h0 rfl
        refine mm_getr hx hb hts hown hKK hP fk11_21 (Nat.le_of_ble_eq_true rfl) lkX11_57 (kdM_lt h0 (Nat.succ_ne_zero _)) h0 (nM t3 (Nat.succ_ne_zero _)) dX11_laysRings_16 ?_
        refine lv_iload_n hx hb dX11_laysRings_19 rfl (lv_at hl 1 rfl) ?_
        refine lv_iconst (v := (-1 : Int32)) hx hb dX11_laysRings_20 (by decide) ?_
        obtain ⟨g4, hf⟩ := grd hf
        refine jnE hf (fun I5 eI5 hf => ?_)
        refine mm_iast hx hb hKK hP hA hS (kdM_lt t3 (Nat.succ_ne_zero _)) t3 g4 dX11_laysRings_21 (fun H locs hP hS => ?_)
        rw [← eI5] at hP
        refine lv_iinc (v := (x1 + (1 : Int32))) (lv' := [(1, .int (x1 + (1 : Int32))), (0, .ref (b + x0))]) hx hb dX11_laysRings_22 hl (k := 1) rfl rfl (Nat.le_of_ble_eq_true rfl) rfl (fun ls hl => ?_)
        refine lv_goto (tgt := 7) hx hb dX11_laysRings_25 (by decide) ?_
        exact ih x0 (x1 + (1 : Int32)) I5 L R a1 H locs ls hP hS hT h0 (lv_sub hl [1, 0] rfl) hf kx
  obtain ⟨I_6, e_6, hf⟩ := bd1_o hf
  refine lp7 FU x0 (0 : Int32) I1 L R I_6 H locs ls hP hS hT h0 (lv_sub hl [1, 0] rfl) e_6 (fun H locs ls hP hS hl => ?_)
  refine lv_iconst (v := (0 : Int32)) hx hb dX11_laysRings_28 (by decide) ?_
  refine lv_istore_n (lv' := [(1, .int (0 : Int32)), (0, .ref (b + x0))]) hx hb dX11_laysRings_29 rfl hl (Nat.le_of_ble_eq_true rfl) rfl (fun ls hl => ?_)
  have lp30 : ∀ (n : Nat) (x0 : Nat) (x1 : Int32) (I : mI) (L : mL) (R : mR) (a1 : mI) (H : Heap) (locs : List Loc) (ls : Array Slot), va_P D vwCl (wd ce b kdM lnM 21 I L R) H → va_S (box b 21) s.heap H locs → WT kdM R → kdM x0 = 17 → lv_has ls 3 [(0, .ref (b + x0)), (1, .int x1)] → f_X11_laysRings_L30 n x0 x1 I R = some a1 → (∀ (H1 : Heap) (locs1 : List Loc) (ls1 : Array Slot), va_P D vwCl (wd ce b kdM lnM 21 a1 L R) H1 → va_S (box b 21) s.heap H1 locs1 → lv_has ls1 3 [] → W p l e rmX11_laysRings s m av below meth c H1 locs1 0 0 QQ (F0 m 141 ls1 [])) → W p l e rmX11_laysRings s m av below meth c H locs 0 0 QQ (F0 m 30 ls []) := by
    intro n
    induction n with
    | zero =>
      intro x0 x1 I L R a1 H locs ls hP hS hT h0 hl hf kx
      exact absurd (show (none : Option (mI)) = some _ from hf) (by simp)
    | succ n ih =>
      intro x0 x1 I L R a1 H locs ls hP hS hT h0 hl hf kx
      rw [f_X11_laysRings_L30] at hf
      refine lv_iload_n hx hb dX11_laysRings_30 rfl (lv_at hl 1 rfl) ?_
      refine lv_aload_n hx hb dX11_laysRings_31 rfl (lv_at hl 0 rfl) ?_
      refine mm_geti hx hb hts hown hKK hP fk11_18 (Or.inl rfl) lkX11_213 (kdM_lt h0 (Nat.succ_ne_zero _)) h0 dX11_laysRings_32 ?_
      refine lv_icmp_ge (tgt := 141) hx hb dX11_laysRings_35 (by decide) (fun c7 => ?_) (fun c7 => ?_)
      · have hf := ifT hf c7
        cases hf
        exact kx H locs ls hP hS (lv_sub hl [] rfl)
      · have hf := ifF hf c7
        refine lv_aload_n hx hb dX11_laysRings_38 rfl (lv_at hl 0 rfl) ?_
        have t8 : kdM (R x0 21) = 1 := wt hT h0 rfl
        refine mm_getr hx hb hts hown hKK hP fk11_21 (Nat.le_of_ble_eq_true rfl) lkX11_57 (kdM_lt h0 (Nat.succ_ne_zero _)) h0 (nM t8 (Nat.succ_ne_zero _)) dX11_laysRings_39 ?_
        refine lv_iload_n hx hb dX11_laysRings_42 rfl (lv_at hl 1 rfl) ?_
        obtain ⟨g9, hf⟩ := grd hf
        refine mm_iald hx hb hKK hP (kdM_lt t8 (Nat.succ_ne_zero _)) t8 g9 dX11_laysRings_43 ?_
        refine lv_iconst (v := (-1 : Int32)) hx hb dX11_laysRings_44 (by decide) ?_
        refine jnE hf (fun j135_10 ej_10 hf => ?_)
        have hJ135_10 : ∀ (I_10 : mI) (H : Heap) (locs : List Loc) (ls : Array Slot), va_P D vwCl (wd ce b kdM lnM 21 I_10 L R) H → va_S (box b 21) s.heap H locs → lv_has ls 3 [(0, .ref (b + x0)), (1, .int x1)] → j135_10 I_10 = some a1 → W p l e rmX11_laysRings s m av below meth c H locs 0 0 QQ (F0 m 135 ls []) := by
          intro I_10 H locs ls hP hS  hl hf
          rw [ej_10] at hf
          try dsimp only at hf
          refine lv_iinc (v := (x1 + (1 : Int32))) (lv' := [(1, .int (x1 + (1 : Int32))), (0, .ref (b + x0))]) hx hb dX11_laysRings_135 hl (k := 1) rfl rfl (Nat.le_of_ble_eq_true rfl) rfl (fun ls hl => ?_)
          refine lv_goto (tgt := 30) hx hb dX11_laysRings_138 (by decide) ?_
          exact ih x0 (x1 + (1 : Int32)) I_10 L R a1 H locs ls hP hS hT h0 (lv_sub hl [1, 0] rfl) hf kx
        clear ej_10
        refine lv_icmp_ne (tgt := 135) hx hb dX11_laysRings_45 (by decide) (fun c11 => ?_) (fun c11 => ?_)
        · have hf := ifF hf c11
          exact hJ135_10 I H locs ls hP hS  (lv_sub hl [0, 1] rfl) hf
        · have hf := ifT hf c11
          refine lv_aload_n hx hb dX11_laysRings_48 rfl (lv_at hl 0 rfl) ?_
          have t12 : kdM (R x0 20) = 3 := wt hT h0 rfl
          refine mm_getr hx hb hts hown hKK hP fk11_20 (Nat.le_of_ble_eq_true rfl) lkX11_54 (kdM_lt h0 (Nat.succ_ne_zero _)) h0 (nM t12 (Nat.succ_ne_zero _)) dX11_laysRings_49 ?_
          refine lv_bipush (v := (60 : Int32)) hx hb dX11_laysRings_52 (by decide) ?_
          refine lv_iload_n hx hb dX11_laysRings_54 rfl (lv_at hl 1 rfl) ?_
          refine lv_imul hx hb dX11_laysRings_55 ?_
          refine lv_iload_n hx hb dX11_laysRings_56 rfl (lv_at hl 1 rfl) ?_
          refine lv_iadd hx hb dX11_laysRings_57 ?_
          obtain ⟨g13, hf⟩ := grd hf
          refine mm_zald hx hb hKK hP (kdM_lt t12 (Nat.succ_ne_zero _)) t12 g13 dX11_laysRings_58 ?_
          refine lv_if_eq (tgt := 135) hx hb dX11_laysRings_59 (by decide) (fun c14 => ?_) (fun c14 => ?_)
          · have hf := ifT hf c14
            exact hJ135_10 I H locs ls hP hS  (lv_sub hl [0, 1] rfl) hf
          · have hf := ifF hf c14
            refine lv_iload_n hx hb dX11_laysRings_62 rfl (lv_at hl 1 rfl) ?_
            refine lv_istore_n (lv' := [(2, .int x1), (0, .ref (b + x0)), (1, .int x1)]) hx hb dX11_laysRings_63 rfl hl (Nat.le_of_ble_eq_true rfl) rfl (fun ls hl => ?_)
            have lp64 : ∀ (n : Nat) (x0 : Nat) (x1 : Int32) (x2 : Int32) (I : mI) (L : mL) (R : mR) (a1 : mI) (H : Heap) (locs : List Loc) (ls : Array Slot), va_P D vwCl (wd ce b kdM lnM 21 I L R) H → va_S (box b 21) s.heap H locs → WT kdM R → kdM x0 = 17 → lv_has ls 3 [(0, .ref (b + x0)), (1, .int x1), (2, .int x2)] → f_X11_laysRings_L64 n x0 x1 x2 I R = some a1 → (∀ (H1 : Heap) (locs1 : List Loc) (ls1 : Array Slot), va_P D vwCl (wd ce b kdM lnM 21 a1 L R) H1 → va_S (box b 21) s.heap H1 locs1 → lv_has ls1 3 [(0, .ref (b + x0)), (1, .int x1)] → W p l e rmX11_laysRings s m av below meth c H1 locs1 0 0 QQ (F0 m 125 ls1 [])) → W p l e rmX11_laysRings s m av below meth c H locs 0 0 QQ (F0 m 64 ls []) := by
              intro n
              induction n with
              | zero =>
                intro x0 x1 x2 I L R a1 H locs ls hP hS hT h0 hl hf kx
                exact absurd (show (none : Option (mI)) = some _ from hf) (by simp)
              | succ n ih =>
                intro x0 x1 x2 I L R a1 H locs ls hP hS hT h0 hl hf kx
                rw [f_X11_laysRings_L64] at hf
                refine lv_iload_n hx hb dX11_laysRings_64 rfl (lv_at hl 2 rfl) ?_
                refine lv_aload_n hx hb dX11_laysRings_65 rfl (lv_at hl 0 rfl) ?_
                refine mm_geti hx hb hts hown hKK hP fk11_18 (Or.inl rfl) lkX11_213 (kdM_lt h0 (Nat.succ_ne_zero _)) h0 dX11_laysRings_66 ?_
                refine lv_icmp_ge (tgt := 125) hx hb dX11_laysRings_69 (by decide) (fun c15 => ?_) (fun c15 => ?_)
                · have hf := ifT hf c15
                  cases hf
                  exact kx H locs ls hP hS (lv_sub hl [0, 1] rfl)
                · have hf := ifF hf c15
                  refine lv_aload_n hx hb dX11_laysRings_72 rfl (lv_at hl 0 rfl) ?_
                  have t16 : kdM (R x0 21) = 1 := wt hT h0 rfl
                  refine mm_getr hx hb hts hown hKK hP fk11_21 (Nat.le_of_ble_eq_true rfl) lkX11_57 (kdM_lt h0 (Nat.succ_ne_zero _)) h0 (nM t16 (Nat.succ_ne_zero _)) dX11_laysRings_73 ?_
                  refine lv_iload_n hx hb dX11_laysRings_76 rfl (lv_at hl 2 rfl) ?_
                  refine lv_aload_n hx hb dX11_laysRings_77 rfl (lv_at hl 0 rfl) ?_
                  have t17 : kdM (R x0 20) = 3 := wt hT h0 rfl
                  refine mm_getr hx hb hts hown hKK hP fk11_20 (Nat.le_of_ble_eq_true rfl) lkX11_54 (kdM_lt h0 (Nat.succ_ne_zero _)) h0 (nM t17 (Nat.succ_ne_zero _)) dX11_laysRings_78 ?_
                  refine lv_bipush (v := (60 : Int32)) hx hb dX11_laysRings_81 (by decide) ?_
                  refine lv_iload_n hx hb dX11_laysRings_83 rfl (lv_at hl 1 rfl) ?_
                  refine lv_imul hx hb dX11_laysRings_84 ?_
                  refine lv_iload_n hx hb dX11_laysRings_85 rfl (lv_at hl 2 rfl) ?_
                  refine lv_iadd hx hb dX11_laysRings_86 ?_
                  obtain ⟨g18, hf⟩ := grd hf
                  refine mm_zald hx hb hKK hP (kdM_lt t17 (Nat.succ_ne_zero _)) t17 g18 dX11_laysRings_87 ?_
                  refine jnE hf (fun j118_19 ej_19 hf => ?_)
                  have hJ118_19 : ∀ (w2_19 : Int32) (H : Heap) (locs : List Loc) (ls : Array Slot), va_P D vwCl (wd ce b kdM lnM 21 I L R) H → va_S (box b 21) s.heap H locs → lv_has ls 3 [(0, .ref (b + x0)), (1, .int x1), (2, .int x2)] → j118_19 w2_19 = some a1 → W p l e rmX11_laysRings s m av below meth c H locs 0 0 QQ (F0 m 118 ls [.int w2_19, .int x2, .ref (b + (R x0 21))]) := by
                    intro w2_19 H locs ls hP hS  hl hf
                    rw [ej_19] at hf
                    try dsimp only at hf
                    obtain ⟨g20, hf⟩ := grd hf
                    refine jnE hf (fun I21 eI21 hf => ?_)
                    refine mm_iast hx hb hKK hP hA hS (kdM_lt t16 (Nat.succ_ne_zero _)) t16 g20 dX11_laysRings_118 (fun H locs hP hS => ?_)
                    rw [← eI21] at hP
                    refine lv_iinc (v := (x2 + (1 : Int32))) (lv' := [(2, .int (x2 + (1 : Int32))), (0, .ref (b + x0)), (1, .int x1)]) hx hb dX11_laysRings_119 hl (k := 2) rfl rfl (Nat.le_of_ble_eq_true rfl) rfl (fun ls hl => ?_)
                    refine lv_goto (tgt := 64) hx hb dX11_laysRings_122 (by decide) ?_
                    exact ih x0 x1 (x2 + (1 : Int32)) I21 L R a1 H locs ls hP hS hT h0 (lv_sub hl [1, 2, 0] rfl) hf kx
                  clear ej_19
                  refine jnE hf (fun j112_22 ej_22 hf => ?_)
                  have hJ112_22 : ∀ (H : Heap) (locs : List Loc) (ls : Array Slot), va_P D vwCl (wd ce b kdM lnM 21 I L R) H → va_S (box b 21) s.heap H locs → lv_has ls 3 [(0, .ref (b + x0)), (1, .int x1), (2, .int x2)] → j112_22  = some a1 → W p l e rmX11_laysRings s m av below meth c H locs 0 0 QQ (F0 m 112 ls [.int x2, .ref (b + (R x0 21))]) := by
                    intro  H locs ls hP hS  hl hf
                    rw [ej_22] at hf
                    try dsimp only at hf
                    refine lv_aload_n hx hb dX11_laysRings_112 rfl (lv_at hl 0 rfl) ?_
                    refine mm_getr hx hb hts hown hKK hP fk11_21 (Nat.le_of_ble_eq_true rfl) lkX11_57 (kdM_lt h0 (Nat.succ_ne_zero _)) h0 (nM t16 (Nat.succ_ne_zero _)) dX11_laysRings_113 ?_
                    refine lv_iload_n hx hb dX11_laysRings_116 rfl (lv_at hl 2 rfl) ?_
                    obtain ⟨g23, hf⟩ := grd hf
                    refine mm_iald hx hb hKK hP (kdM_lt t16 (Nat.succ_ne_zero _)) t16 g23 dX11_laysRings_117 ?_
                    exact hJ118_19 (I (R x0 21) x2.toNatClampNeg) H locs ls hP hS  (lv_sub hl [0, 1, 2] rfl) hf
                  clear ej_22
                  refine lv_if_eq (tgt := 112) hx hb dX11_laysRings_88 (by decide) (fun c24 => ?_) (fun c24 => ?_)
                  · have hf := ifT hf c24
                    exact hJ112_22  H locs ls hP hS  (lv_sub hl [0, 1, 2] rfl) hf
                  · have hf := ifF hf c24
                    refine lv_aload_n hx hb dX11_laysRings_91 rfl (lv_at hl 0 rfl) ?_
                    refine mm_getr hx hb hts hown hKK hP fk11_20 (Nat.le_of_ble_eq_true rfl) lkX11_54 (kdM_lt h0 (Nat.succ_ne_zero _)) h0 (nM t17 (Nat.succ_ne_zero _)) dX11_laysRings_92 ?_
                    refine lv_bipush (v := (60 : Int32)) hx hb dX11_laysRings_95 (by decide) ?_
                    refine lv_iload_n hx hb dX11_laysRings_97 rfl (lv_at hl 2 rfl) ?_
                    refine lv_imul hx hb dX11_laysRings_98 ?_
                    refine lv_iload_n hx hb dX11_laysRings_99 rfl (lv_at hl 1 rfl) ?_
                    refine lv_iadd hx hb dX11_laysRings_100 ?_
                    obtain ⟨g25, hf⟩ := grd hf
                    refine mm_zald hx hb hKK hP (kdM_lt t17 (Nat.succ_ne_zero _)) t17 g25 dX11_laysRings_101 ?_
                    refine lv_if_eq (tgt := 112) hx hb dX11_laysRings_102 (by decide) (fun c26 => ?_) (fun c26 => ?_)
                    · have hf := ifT hf c26
                      exact hJ112_22  H locs ls hP hS  (lv_sub hl [0, 1, 2] rfl) hf
                    · have hf := ifF hf c26
                      refine lv_aload_n hx hb dX11_laysRings_105 rfl (lv_at hl 0 rfl) ?_
                      refine mm_geti hx hb hts hown hKK hP fk11_22 (Or.inl rfl) lkX11_210 (kdM_lt h0 (Nat.succ_ne_zero _)) h0 dX11_laysRings_106 ?_
                      refine lv_goto (tgt := 118) hx hb dX11_laysRings_109 (by decide) ?_
                      exact hJ118_19 (I x0 22) H locs ls hP hS  (lv_sub hl [0, 1, 2] rfl) hf
            obtain ⟨I_27, e_27, hf⟩ := bd1_o hf
            refine lp64 FU x0 x1 x1 I L R I_27 H locs ls hP hS hT h0 (lv_sub hl [1, 2, 0] rfl) e_27 (fun H locs ls hP hS hl => ?_)
            refine lv_aload_n hx hb dX11_laysRings_125 rfl (lv_at hl 0 rfl) ?_
            refine lv_dup hx hb dX11_laysRings_126 rfl ?_
            refine mm_geti hx hb hts hown hKK hP fk11_22 (Or.inl rfl) lkX11_210 (kdM_lt h0 (Nat.succ_ne_zero _)) h0 dX11_laysRings_127 ?_
            refine lv_iconst (v := (1 : Int32)) hx hb dX11_laysRings_130 (by decide) ?_
            refine lv_iadd hx hb dX11_laysRings_131 ?_
            refine jnE hf (fun I28 eI28 hf => ?_)
            refine mm_puti hx hb hts hown hKK hP hA hS fk11_22 (Or.inl rfl) fw11_22 lkX11_210 (kdM_lt h0 (Nat.succ_ne_zero _)) h0 rfl rfl dX11_laysRings_132 (fun H locs hP hS => ?_)
            rw [← eI28] at hP
            exact hJ135_10 I28 H locs ls hP hS  (lv_sub hl [0, 1] rfl) hf
  obtain ⟨I_29, e_29, hf⟩ := bd1_o hf
  refine lp30 FU x0 (0 : Int32) I_6 L R I_29 H locs ls hP hS hT h0 (lv_sub hl [1, 0] rfl) e_29 (fun H locs ls hP hS hl => ?_)
  exact hret I_29 hf H locs ls _ dX11_laysRings_141 hP hT hS
def rmX11_laysCalls : Room := { frames := 4, cells := 0, slots := 0, locals := 88 }
set_option maxHeartbeats 4000000 in
set_option maxRecDepth 100000 in
theorem k_X11_laysCalls (l : Launch) (D : va_G) (ce : Nat → ClassId) (b : Nat) (I : mI) (L : mL) (R : mR) (hT : WT kdM R) (x0 : Nat) (h0 : kdM x0 = 17) (o1 : mI) (hf : f_X11_laysCalls x0 I R = some o1) : Met l yX11_laysCalls (Cond.code yX11_laysCalls cX11_laysCalls 4 none :: GW) rmX11_laysCalls (va_Pc [.ref (b + x0)] (PW D ce b kdM lnM 21 I L R)) (va_Qv (fun u => u = (o1, L, R)) (QW D ce b kdM lnM 21) (box b 21)) 0 0 (box b 21) := by
  refine Met.ofW (cc := cX11_laysCalls) (maxL := 4) (ret := none) (by decide) rfl ?_
  intro p e s m args below meth c s₁ B hml hv
  obtain ⟨rfl, hP, hKK⟩ := hv
  have hx := B.exec
  have hb := B.bytes
  have hr := B.returns
  have hts0 := atoms_spec (ws := Cond.code yX11_laysCalls cX11_laysCalls 4 none :: GW) B.pre
  have hts : ∀ w ∈ GW, w.before _ s = true := fun w h => hts0 w (List.mem_cons_of_mem _ h)
  clear hts0
  have hown : s.vm.findClass RX11 = some m.cls := findClass_of_methodNamed B.named
  have hlocks := B.notSynchronized
  have hA : ∀ q, box b 21 q → box b 21 q := fun _ h => h
  have hS : va_S (box b 21) s.heap s.heap [] := va_S.rf
  have hl := lv_entry ([.ref (b + x0)]) (n := 4) (Nat.le_of_ble_eq_true rfl)
  rw [lg_entry_eq]
  generalize (lg_sl ([.ref (b + x0)]) ++ List.replicate (4 - (lg_sl ([.ref (b + x0)])).length) Slot.unset).toArray = ls at hl ⊢
  have hl : lv_has ls 4 [(0, .ref (b + x0))] := hl
  generalize ([.ref (b + x0)] : List Value).toArray = av at hts ⊢
  show W p l e rmX11_laysCalls s m av below meth c s.heap [] 0 0 _ _
  obtain ⟨QQ, hQQ⟩ : ∃ z, z = MQ below (va_Qv (fun u => u = (o1, L, R)) (QW D ce b kdM lnM 21) (box b 21)) av s 0 0 (box b 21) := ⟨_, rfl⟩
  rw [← hQQ]
  have hret : ∀ (I1 : mI), some I1 = some o1 → ∀ (H1 : Heap) (locs1 : List Loc) (ls1 : Array Slot) (pc1 : Nat), decode cX11_laysCalls pc1 = .ok (.return_, 1) → va_P D vwCl (wd ce b kdM lnM 21 I1 L R) H1 → WT kdM R → va_S (box b 21) s.heap H1 locs1 → W p l e rmX11_laysCalls s m av below meth c H1 locs1 0 0 QQ (F0 m pc1 ls1 []) := by
    intro I1 hq H1 locs1 ls1 pc1 hd hP hT hS
    cases hq
    rw [hQQ]
    exact mm_vret hx hb hr hlocks hP hT hS hd
  unfold f_X11_laysCalls at hf
  obtain ⟨H, hH⟩ : ∃ z, z = s.heap := ⟨_, rfl⟩
  obtain ⟨locs, hlo⟩ : ∃ z : List Loc, z = [] := ⟨_, rfl⟩
  have hP : va_P D vwCl (wd ce b kdM lnM 21 I L R) H := by rw [hH]; exact hP
  have hS : va_S (box b 21) s.heap H locs := by rw [hH, hlo]; exact hS
  rw [show W p l e rmX11_laysCalls s m av below meth c s.heap [] 0 0 QQ = W p l e rmX11_laysCalls s m av below meth c H locs 0 0 QQ by rw [hH, hlo]]
  clear hH hlo
  clear hQQ
  show W p l e rmX11_laysCalls s m av below meth c H locs 0 0 QQ (F0 m 0 ls [])
  refine lv_aload_n hx hb dX11_laysCalls_0 rfl (lv_at hl 0 rfl) ?_
  refine lv_iconst (v := (0 : Int32)) hx hb dX11_laysCalls_1 (by decide) ?_
  refine jnE hf (fun I1 eI1 hf => ?_)
  refine mm_puti hx hb hts hown hKK hP hA hS fk11_18 (Or.inl rfl) fw11_18 lkX11_213 (kdM_lt h0 (Nat.succ_ne_zero _)) h0 rfl rfl dX11_laysCalls_2 (fun H locs hP hS => ?_)
  rw [← eI1] at hP
  refine lv_iconst (v := (0 : Int32)) hx hb dX11_laysCalls_5 (by decide) ?_
  refine lv_istore_n (lv' := [(1, .int (0 : Int32)), (0, .ref (b + x0))]) hx hb dX11_laysCalls_6 rfl hl (Nat.le_of_ble_eq_true rfl) rfl (fun ls hl => ?_)
  have lp7 : ∀ (n : Nat) (x0 : Nat) (x1 : Int32) (I : mI) (L : mL) (R : mR) (a1 : mI) (H : Heap) (locs : List Loc) (ls : Array Slot), va_P D vwCl (wd ce b kdM lnM 21 I L R) H → va_S (box b 21) s.heap H locs → WT kdM R → kdM x0 = 17 → lv_has ls 4 [(0, .ref (b + x0)), (1, .int x1)] → f_X11_laysCalls_L7 n x0 x1 I R = some a1 → (∀ (H1 : Heap) (locs1 : List Loc) (ls1 : Array Slot), va_P D vwCl (wd ce b kdM lnM 21 a1 L R) H1 → va_S (box b 21) s.heap H1 locs1 → lv_has ls1 4 [(0, .ref (b + x0))] → W p l e rmX11_laysCalls s m av below meth c H1 locs1 0 0 QQ (F0 m 96 ls1 [])) → W p l e rmX11_laysCalls s m av below meth c H locs 0 0 QQ (F0 m 7 ls []) := by
    intro n
    induction n with
    | zero =>
      intro x0 x1 I L R a1 H locs ls hP hS hT h0 hl hf kx
      exact absurd (show (none : Option (mI)) = some _ from hf) (by simp)
    | succ n ih =>
      intro x0 x1 I L R a1 H locs ls hP hS hT h0 hl hf kx
      rw [f_X11_laysCalls_L7] at hf
      refine lv_iload_n hx hb dX11_laysCalls_7 rfl (lv_at hl 1 rfl) ?_
      refine lv_aload_n hx hb dX11_laysCalls_8 rfl (lv_at hl 0 rfl) ?_
      have t2 : kdM (R x0 0) = 1 := wt hT h0 rfl
      refine mm_getr hx hb hts hown hKK hP fk11_0 (Nat.le_of_ble_eq_true rfl) lkX11_7 (kdM_lt h0 (Nat.succ_ne_zero _)) h0 (nM t2 (Nat.succ_ne_zero _)) dX11_laysCalls_9 ?_
      refine lv_iconst (v := (0 : Int32)) hx hb dX11_laysCalls_12 (by decide) ?_
      obtain ⟨g3, hf⟩ := grd hf
      refine mm_iald hx hb hKK hP (kdM_lt t2 (Nat.succ_ne_zero _)) t2 g3 dX11_laysCalls_13 ?_
      refine lv_icmp_ge (tgt := 96) hx hb dX11_laysCalls_14 (by decide) (fun c4 => ?_) (fun c4 => ?_)
      · have hf := ifT hf c4
        cases hf
        exact kx H locs ls hP hS (lv_sub hl [0] rfl)
      · have hf := ifF hf c4
        refine lv_iconst (v := (0 : Int32)) hx hb dX11_laysCalls_17 (by decide) ?_
        refine lv_istore_n (lv' := [(2, .int (0 : Int32)), (0, .ref (b + x0)), (1, .int x1)]) hx hb dX11_laysCalls_18 rfl hl (Nat.le_of_ble_eq_true rfl) rfl (fun ls hl => ?_)
        have lp19 : ∀ (n : Nat) (x0 : Nat) (x1 : Int32) (x2 : Int32) (I : mI) (L : mL) (R : mR) (a1 : mI) (H : Heap) (locs : List Loc) (ls : Array Slot), va_P D vwCl (wd ce b kdM lnM 21 I L R) H → va_S (box b 21) s.heap H locs → WT kdM R → kdM x0 = 17 → lv_has ls 4 [(0, .ref (b + x0)), (1, .int x1), (2, .int x2)] → f_X11_laysCalls_L19 n x0 x1 x2 I R = some a1 → (∀ (H1 : Heap) (locs1 : List Loc) (ls1 : Array Slot), va_P D vwCl (wd ce b kdM lnM 21 a1 L R) H1 → va_S (box b 21) s.heap H1 locs1 → lv_has ls1 4 [(0, .ref (b + x0)), (1, .int x1)] → W p l e rmX11_laysCalls s m av below meth c H1 locs1 0 0 QQ (F0 m 90 ls1 [])) → W p l e rmX11_laysCalls s m av below meth c H locs 0 0 QQ (F0 m 19 ls []) := by
          intro n
          induction n with
          | zero =>
            intro x0 x1 x2 I L R a1 H locs ls hP hS hT h0 hl hf kx
            exact absurd (show (none : Option (mI)) = some _ from hf) (by simp)
          | succ n ih =>
            intro x0 x1 x2 I L R a1 H locs ls hP hS hT h0 hl hf kx
            rw [f_X11_laysCalls_L19] at hf
            refine lv_iload_n hx hb dX11_laysCalls_19 rfl (lv_at hl 2 rfl) ?_
            refine lv_aload_n hx hb dX11_laysCalls_20 rfl (lv_at hl 0 rfl) ?_
            have t5 : kdM (R x0 0) = 1 := wt hT h0 rfl
            refine mm_getr hx hb hts hown hKK hP fk11_0 (Nat.le_of_ble_eq_true rfl) lkX11_7 (kdM_lt h0 (Nat.succ_ne_zero _)) h0 (nM t5 (Nat.succ_ne_zero _)) dX11_laysCalls_21 ?_
            refine lv_iload_n hx hb dX11_laysCalls_24 rfl (lv_at hl 1 rfl) ?_
            obtain ⟨r6, e6, hf⟩ := bd1_o hf
            refine mm_Si (rest := [.int x2]) hx hb hml hown hts hKK hP hS hA skX11_162 (k_X11_rightLong l D ce b I L R hT (R x0 0) x1 t5 r6 e6) rfl hl.1 rfl (Nat.le_of_ble_eq_true rfl) ⟨rfl, rfl⟩ ⟨Nat.le_of_ble_eq_true rfl, Nat.le_of_ble_eq_true rfl⟩ ⟨Nat.zero_le _, Nat.zero_le _⟩ dX11_laysCalls_25 (fun H locs hP hT hS => ?_)
            refine lv_icmp_ge (tgt := 90) hx hb dX11_laysCalls_28 (by decide) (fun c7 => ?_) (fun c7 => ?_)
            · have hf := ifT hf c7
              cases hf
              exact kx H locs ls hP hS (lv_sub hl [0, 1] rfl)
            · have hf := ifF hf c7
              refine lv_aload_n hx hb dX11_laysCalls_31 rfl (lv_at hl 0 rfl) ?_
              refine lv_aload_n hx hb dX11_laysCalls_32 rfl (lv_at hl 0 rfl) ?_
              refine mm_getr hx hb hts hown hKK hP fk11_0 (Nat.le_of_ble_eq_true rfl) lkX11_7 (kdM_lt h0 (Nat.succ_ne_zero _)) h0 (nM t5 (Nat.succ_ne_zero _)) dX11_laysCalls_33 ?_
              refine lv_iload_n hx hb dX11_laysCalls_36 rfl (lv_at hl 1 rfl) ?_
              obtain ⟨r8, e8, hf⟩ := bd1_o hf
              refine mm_Si (rest := [.ref (b + (R x0 0)), .ref (b + x0)]) hx hb hml hown hts hKK hP hS hA skX11_127 (k_X11_rightOf l D ce b I L R hT x1  r8 e8) rfl hl.1 rfl (Nat.le_of_ble_eq_true rfl) ⟨rfl, rfl⟩ ⟨Nat.le_of_ble_eq_true rfl, Nat.le_of_ble_eq_true rfl⟩ ⟨Nat.zero_le _, Nat.zero_le _⟩ dX11_laysCalls_37 (fun H locs hP hT hS => ?_)
              refine lv_iload_n hx hb dX11_laysCalls_40 rfl (lv_at hl 2 rfl) ?_
              refine lv_iadd hx hb dX11_laysCalls_41 ?_
              obtain ⟨g9, hf⟩ := grd hf
              refine mm_iald hx hb hKK hP (kdM_lt t5 (Nat.succ_ne_zero _)) t5 g9 dX11_laysCalls_42 ?_
              obtain ⟨r10, e10, hf⟩ := bd1_o hf
              refine mm_Vi (rest := []) hx hb hml hown hts hKK hP hS hA (kdM_lt h0 (Nat.succ_ne_zero _)) h0 (show vwCl[11]? = some (yX11_isHead.cls, TX11, 32) from rfl) vkX11_165 (k_X11_isHead l D ce b I L R hT x0 (I (R x0 0) ((r8 + x2)).toNatClampNeg) h0 r10 e10) rfl hl.1 rfl (Nat.le_of_ble_eq_true rfl) ⟨rfl, rfl⟩ ⟨Nat.le_of_ble_eq_true rfl, Nat.le_of_ble_eq_true rfl⟩ ⟨Nat.zero_le _, Nat.zero_le _⟩ dX11_laysCalls_43 (fun H locs hP hT hS => ?_)
              refine jnE hf (fun j84_11 ej_11 hf => ?_)
              have hJ84_11 : ∀ (I_11 : mI) (H : Heap) (locs : List Loc) (ls : Array Slot), va_P D vwCl (wd ce b kdM lnM 21 I_11 L R) H → va_S (box b 21) s.heap H locs → lv_has ls 4 [(0, .ref (b + x0)), (1, .int x1), (2, .int x2)] → j84_11 I_11 = some a1 → W p l e rmX11_laysCalls s m av below meth c H locs 0 0 QQ (F0 m 84 ls []) := by
                intro I_11 H locs ls hP hS  hl hf
                rw [ej_11] at hf
                try dsimp only at hf
                refine lv_iinc (v := (x2 + (1 : Int32))) (lv' := [(2, .int (x2 + (1 : Int32))), (0, .ref (b + x0)), (1, .int x1)]) hx hb dX11_laysCalls_84 hl (k := 2) rfl rfl (Nat.le_of_ble_eq_true rfl) rfl (fun ls hl => ?_)
                refine lv_goto (tgt := 19) hx hb dX11_laysCalls_87 (by decide) ?_
                exact ih x0 x1 (x2 + (1 : Int32)) I_11 L R a1 H locs ls hP hS hT h0 (lv_sub hl [1, 2, 0] rfl) hf kx
              clear ej_11
              refine lv_if_eq (tgt := 84) hx hb dX11_laysCalls_46 (by decide) (fun c12 => ?_) (fun c12 => ?_)
              · have hf := ifT hf c12
                exact hJ84_11 I H locs ls hP hS  (lv_sub hl [0, 1, 2] rfl) hf
              · have hf := ifF hf c12
                refine lv_aload_n hx hb dX11_laysCalls_49 rfl (lv_at hl 0 rfl) ?_
                have t13 : kdM (R x0 16) = 1 := wt hT h0 rfl
                refine mm_getr hx hb hts hown hKK hP fk11_16 (Nat.le_of_ble_eq_true rfl) lkX11_44 (kdM_lt h0 (Nat.succ_ne_zero _)) h0 (nM t13 (Nat.succ_ne_zero _)) dX11_laysCalls_50 ?_
                refine lv_aload_n hx hb dX11_laysCalls_53 rfl (lv_at hl 0 rfl) ?_
                refine mm_geti hx hb hts hown hKK hP fk11_18 (Or.inl rfl) lkX11_213 (kdM_lt h0 (Nat.succ_ne_zero _)) h0 dX11_laysCalls_54 ?_
                refine lv_iload_n hx hb dX11_laysCalls_57 rfl (lv_at hl 1 rfl) ?_
                obtain ⟨g14, hf⟩ := grd hf
                refine jnE hf (fun I15 eI15 hf => ?_)
                refine mm_iast hx hb hKK hP hA hS (kdM_lt t13 (Nat.succ_ne_zero _)) t13 g14 dX11_laysCalls_58 (fun H locs hP hS => ?_)
                rw [← eI15] at hP
                refine lv_aload_n hx hb dX11_laysCalls_59 rfl (lv_at hl 0 rfl) ?_
                have t16 : kdM (R x0 17) = 1 := wt hT h0 rfl
                refine mm_getr hx hb hts hown hKK hP fk11_17 (Nat.le_of_ble_eq_true rfl) lkX11_47 (kdM_lt h0 (Nat.succ_ne_zero _)) h0 (nM t16 (Nat.succ_ne_zero _)) dX11_laysCalls_60 ?_
                refine lv_aload_n hx hb dX11_laysCalls_63 rfl (lv_at hl 0 rfl) ?_
                refine mm_geti hx hb hts hown hKK hP fk11_18 (Or.inl rfl) lkX11_213 (kdM_lt h0 (Nat.succ_ne_zero _)) h0 dX11_laysCalls_64 ?_
                refine lv_iload_n hx hb dX11_laysCalls_67 rfl (lv_at hl 1 rfl) ?_
                obtain ⟨r17, e17, hf⟩ := bd1_o hf
                refine mm_Si (rest := [.int (I15 x0 18), .ref (b + (R x0 17))]) hx hb hml hown hts hKK hP hS hA skX11_127 (k_X11_rightOf l D ce b I15 L R hT x1  r17 e17) rfl hl.1 rfl (Nat.le_of_ble_eq_true rfl) ⟨rfl, rfl⟩ ⟨Nat.le_of_ble_eq_true rfl, Nat.le_of_ble_eq_true rfl⟩ ⟨Nat.zero_le _, Nat.zero_le _⟩ dX11_laysCalls_68 (fun H locs hP hT hS => ?_)
                refine lv_iload_n hx hb dX11_laysCalls_71 rfl (lv_at hl 2 rfl) ?_
                refine lv_iadd hx hb dX11_laysCalls_72 ?_
                obtain ⟨g18, hf⟩ := grd hf
                refine jnE hf (fun I19 eI19 hf => ?_)
                refine mm_iast hx hb hKK hP hA hS (kdM_lt t16 (Nat.succ_ne_zero _)) t16 g18 dX11_laysCalls_73 (fun H locs hP hS => ?_)
                rw [← eI19] at hP
                refine lv_aload_n hx hb dX11_laysCalls_74 rfl (lv_at hl 0 rfl) ?_
                refine lv_dup hx hb dX11_laysCalls_75 rfl ?_
                refine mm_geti hx hb hts hown hKK hP fk11_18 (Or.inl rfl) lkX11_213 (kdM_lt h0 (Nat.succ_ne_zero _)) h0 dX11_laysCalls_76 ?_
                refine lv_iconst (v := (1 : Int32)) hx hb dX11_laysCalls_79 (by decide) ?_
                refine lv_iadd hx hb dX11_laysCalls_80 ?_
                refine jnE hf (fun I20 eI20 hf => ?_)
                refine mm_puti hx hb hts hown hKK hP hA hS fk11_18 (Or.inl rfl) fw11_18 lkX11_213 (kdM_lt h0 (Nat.succ_ne_zero _)) h0 rfl rfl dX11_laysCalls_81 (fun H locs hP hS => ?_)
                rw [← eI20] at hP
                exact hJ84_11 I20 H locs ls hP hS  (lv_sub hl [0, 1, 2] rfl) hf
        obtain ⟨I_21, e_21, hf⟩ := bd1_o hf
        refine lp19 FU x0 x1 (0 : Int32) I L R I_21 H locs ls hP hS hT h0 (lv_sub hl [1, 2, 0] rfl) e_21 (fun H locs ls hP hS hl => ?_)
        refine lv_iinc (v := (x1 + (1 : Int32))) (lv' := [(1, .int (x1 + (1 : Int32))), (0, .ref (b + x0))]) hx hb dX11_laysCalls_90 hl (k := 1) rfl rfl (Nat.le_of_ble_eq_true rfl) rfl (fun ls hl => ?_)
        refine lv_goto (tgt := 7) hx hb dX11_laysCalls_93 (by decide) ?_
        exact ih x0 (x1 + (1 : Int32)) I_21 L R a1 H locs ls hP hS hT h0 (lv_sub hl [1, 0] rfl) hf kx
  obtain ⟨I_22, e_22, hf⟩ := bd1_o hf
  refine lp7 FU x0 (0 : Int32) I1 L R I_22 H locs ls hP hS hT h0 (lv_sub hl [1, 0] rfl) e_22 (fun H locs ls hP hS hl => ?_)
  refine lv_iconst (v := (0 : Int32)) hx hb dX11_laysCalls_96 (by decide) ?_
  refine lv_istore_n (lv' := [(1, .int (0 : Int32)), (0, .ref (b + x0))]) hx hb dX11_laysCalls_97 rfl hl (Nat.le_of_ble_eq_true rfl) rfl (fun ls hl => ?_)
  have lp98 : ∀ (n : Nat) (x0 : Nat) (x1 : Int32) (I : mI) (L : mL) (R : mR) (a1 : mI) (H : Heap) (locs : List Loc) (ls : Array Slot), va_P D vwCl (wd ce b kdM lnM 21 I L R) H → va_S (box b 21) s.heap H locs → WT kdM R → kdM x0 = 17 → lv_has ls 4 [(0, .ref (b + x0)), (1, .int x1)] → f_X11_laysCalls_L98 n x0 x1 I R = some a1 → (∀ (H1 : Heap) (locs1 : List Loc) (ls1 : Array Slot), va_P D vwCl (wd ce b kdM lnM 21 a1 L R) H1 → va_S (box b 21) s.heap H1 locs1 → lv_has ls1 4 [(0, .ref (b + x0))] → W p l e rmX11_laysCalls s m av below meth c H1 locs1 0 0 QQ (F0 m 167 ls1 [])) → W p l e rmX11_laysCalls s m av below meth c H locs 0 0 QQ (F0 m 98 ls []) := by
    intro n
    induction n with
    | zero =>
      intro x0 x1 I L R a1 H locs ls hP hS hT h0 hl hf kx
      exact absurd (show (none : Option (mI)) = some _ from hf) (by simp)
    | succ n ih =>
      intro x0 x1 I L R a1 H locs ls hP hS hT h0 hl hf kx
      rw [f_X11_laysCalls_L98] at hf
      refine lv_iload_n hx hb dX11_laysCalls_98 rfl (lv_at hl 1 rfl) ?_
      refine lv_aload_n hx hb dX11_laysCalls_99 rfl (lv_at hl 0 rfl) ?_
      refine mm_geti hx hb hts hown hKK hP fk11_18 (Or.inl rfl) lkX11_213 (kdM_lt h0 (Nat.succ_ne_zero _)) h0 dX11_laysCalls_100 ?_
      refine lv_icmp_ge (tgt := 167) hx hb dX11_laysCalls_103 (by decide) (fun c23 => ?_) (fun c23 => ?_)
      · have hf := ifT hf c23
        cases hf
        exact kx H locs ls hP hS (lv_sub hl [0] rfl)
      · have hf := ifF hf c23
        refine lv_iconst (v := (0 : Int32)) hx hb dX11_laysCalls_106 (by decide) ?_
        refine lv_istore_n (lv' := [(2, .int (0 : Int32)), (0, .ref (b + x0)), (1, .int x1)]) hx hb dX11_laysCalls_107 rfl hl (Nat.le_of_ble_eq_true rfl) rfl (fun ls hl => ?_)
        have lp108 : ∀ (n : Nat) (x0 : Nat) (x1 : Int32) (x2 : Int32) (I : mI) (L : mL) (R : mR) (a1 : mI) (H : Heap) (locs : List Loc) (ls : Array Slot), va_P D vwCl (wd ce b kdM lnM 21 I L R) H → va_S (box b 21) s.heap H locs → WT kdM R → kdM x0 = 17 → lv_has ls 4 [(0, .ref (b + x0)), (1, .int x1), (2, .int x2)] → f_X11_laysCalls_L108 n x0 x1 x2 I R = some a1 → (∀ (H1 : Heap) (locs1 : List Loc) (ls1 : Array Slot), va_P D vwCl (wd ce b kdM lnM 21 a1 L R) H1 → va_S (box b 21) s.heap H1 locs1 → lv_has ls1 4 [(0, .ref (b + x0)), (1, .int x1)] → W p l e rmX11_laysCalls s m av below meth c H1 locs1 0 0 QQ (F0 m 161 ls1 [])) → W p l e rmX11_laysCalls s m av below meth c H locs 0 0 QQ (F0 m 108 ls []) := by
          intro n
          induction n with
          | zero =>
            intro x0 x1 x2 I L R a1 H locs ls hP hS hT h0 hl hf kx
            exact absurd (show (none : Option (mI)) = some _ from hf) (by simp)
          | succ n ih =>
            intro x0 x1 x2 I L R a1 H locs ls hP hS hT h0 hl hf kx
            rw [f_X11_laysCalls_L108] at hf
            refine lv_iload_n hx hb dX11_laysCalls_108 rfl (lv_at hl 2 rfl) ?_
            refine lv_aload_n hx hb dX11_laysCalls_109 rfl (lv_at hl 0 rfl) ?_
            refine mm_geti hx hb hts hown hKK hP fk11_18 (Or.inl rfl) lkX11_213 (kdM_lt h0 (Nat.succ_ne_zero _)) h0 dX11_laysCalls_110 ?_
            refine lv_icmp_ge (tgt := 161) hx hb dX11_laysCalls_113 (by decide) (fun c24 => ?_) (fun c24 => ?_)
            · have hf := ifT hf c24
              cases hf
              exact kx H locs ls hP hS (lv_sub hl [0, 1] rfl)
            · have hf := ifF hf c24
              refine lv_aload_n hx hb dX11_laysCalls_116 rfl (lv_at hl 0 rfl) ?_
              have t25 : kdM (R x0 19) = 3 := wt hT h0 rfl
              refine mm_getr hx hb hts hown hKK hP fk11_19 (Nat.le_of_ble_eq_true rfl) lkX11_50 (kdM_lt h0 (Nat.succ_ne_zero _)) h0 (nM t25 (Nat.succ_ne_zero _)) dX11_laysCalls_117 ?_
              refine lv_bipush (v := (60 : Int32)) hx hb dX11_laysCalls_120 (by decide) ?_
              refine lv_iload_n hx hb dX11_laysCalls_122 rfl (lv_at hl 1 rfl) ?_
              refine lv_imul hx hb dX11_laysCalls_123 ?_
              refine lv_iload_n hx hb dX11_laysCalls_124 rfl (lv_at hl 2 rfl) ?_
              refine lv_iadd hx hb dX11_laysCalls_125 ?_
              refine lv_aload_n hx hb dX11_laysCalls_126 rfl (lv_at hl 0 rfl) ?_
              refine lv_iload_n hx hb dX11_laysCalls_127 rfl (lv_at hl 1 rfl) ?_
              refine lv_iload_n hx hb dX11_laysCalls_128 rfl (lv_at hl 2 rfl) ?_
              obtain ⟨r26, e26, hf⟩ := bd1_o hf
              refine mm_Vi (rest := [.int (((60 : Int32) * x1) + x2), .ref (b + (R x0 19))]) hx hb hml hown hts hKK hP hS hA (kdM_lt h0 (Nat.succ_ne_zero _)) h0 (show vwCl[11]? = some (yX11_mayFollow.cls, TX11, 32) from rfl) vkX11_216 (k_X11_mayFollow l D ce b I L R hT x0 x1 x2 h0 r26 e26) rfl hl.1 rfl (Nat.le_of_ble_eq_true rfl) ⟨rfl, rfl⟩ ⟨Nat.le_of_ble_eq_true rfl, Nat.le_of_ble_eq_true rfl⟩ ⟨Nat.zero_le _, Nat.zero_le _⟩ dX11_laysCalls_129 (fun H locs hP hT hS => ?_)
              obtain ⟨g27, hf⟩ := grd hf
              refine jnE hf (fun I28 eI28 hf => ?_)
              refine mm_zast hx hb hKK hP hA hS (kdM_lt t25 (Nat.succ_ne_zero _)) t25 g27 dX11_laysCalls_132 (fun H locs hP hS => ?_)
              rw [← eI28] at hP
              refine lv_aload_n hx hb dX11_laysCalls_133 rfl (lv_at hl 0 rfl) ?_
              have t29 : kdM (R x0 20) = 3 := wt hT h0 rfl
              refine mm_getr hx hb hts hown hKK hP fk11_20 (Nat.le_of_ble_eq_true rfl) lkX11_54 (kdM_lt h0 (Nat.succ_ne_zero _)) h0 (nM t29 (Nat.succ_ne_zero _)) dX11_laysCalls_134 ?_
              refine lv_bipush (v := (60 : Int32)) hx hb dX11_laysCalls_137 (by decide) ?_
              refine lv_iload_n hx hb dX11_laysCalls_139 rfl (lv_at hl 1 rfl) ?_
              refine lv_imul hx hb dX11_laysCalls_140 ?_
              refine lv_iload_n hx hb dX11_laysCalls_141 rfl (lv_at hl 2 rfl) ?_
              refine lv_iadd hx hb dX11_laysCalls_142 ?_
              refine lv_aload_n hx hb dX11_laysCalls_143 rfl (lv_at hl 0 rfl) ?_
              refine mm_getr hx hb hts hown hKK hP fk11_19 (Nat.le_of_ble_eq_true rfl) lkX11_50 (kdM_lt h0 (Nat.succ_ne_zero _)) h0 (nM t25 (Nat.succ_ne_zero _)) dX11_laysCalls_144 ?_
              refine lv_bipush (v := (60 : Int32)) hx hb dX11_laysCalls_147 (by decide) ?_
              refine lv_iload_n hx hb dX11_laysCalls_149 rfl (lv_at hl 1 rfl) ?_
              refine lv_imul hx hb dX11_laysCalls_150 ?_
              refine lv_iload_n hx hb dX11_laysCalls_151 rfl (lv_at hl 2 rfl) ?_
              refine lv_iadd hx hb dX11_laysCalls_152 ?_
              refine mm_zald hx hb hKK hP (kdM_lt t25 (Nat.succ_ne_zero _)) t25 g27 dX11_laysCalls_153 ?_
              obtain ⟨g30, hf⟩ := grd hf
              refine jnE hf (fun I31 eI31 hf => ?_)
              refine mm_zast hx hb hKK hP hA hS (kdM_lt t29 (Nat.succ_ne_zero _)) t29 g30 dX11_laysCalls_154 (fun H locs hP hS => ?_)
              rw [← eI31] at hP
              refine lv_iinc (v := (x2 + (1 : Int32))) (lv' := [(2, .int (x2 + (1 : Int32))), (0, .ref (b + x0)), (1, .int x1)]) hx hb dX11_laysCalls_155 hl (k := 2) rfl rfl (Nat.le_of_ble_eq_true rfl) rfl (fun ls hl => ?_)
              refine lv_goto (tgt := 108) hx hb dX11_laysCalls_158 (by decide) ?_
              exact ih x0 x1 (x2 + (1 : Int32)) I31 L R a1 H locs ls hP hS hT h0 (lv_sub hl [1, 2, 0] rfl) hf kx
        obtain ⟨I_32, e_32, hf⟩ := bd1_o hf
        refine lp108 FU x0 x1 (0 : Int32) I L R I_32 H locs ls hP hS hT h0 (lv_sub hl [1, 2, 0] rfl) e_32 (fun H locs ls hP hS hl => ?_)
        refine lv_iinc (v := (x1 + (1 : Int32))) (lv' := [(1, .int (x1 + (1 : Int32))), (0, .ref (b + x0))]) hx hb dX11_laysCalls_161 hl (k := 1) rfl rfl (Nat.le_of_ble_eq_true rfl) rfl (fun ls hl => ?_)
        refine lv_goto (tgt := 98) hx hb dX11_laysCalls_164 (by decide) ?_
        exact ih x0 (x1 + (1 : Int32)) I_32 L R a1 H locs ls hP hS hT h0 (lv_sub hl [1, 0] rfl) hf kx
  obtain ⟨I_33, e_33, hf⟩ := bd1_o hf
  refine lp98 FU x0 (0 : Int32) I_22 L R I_33 H locs ls hP hS hT h0 (lv_sub hl [1, 0] rfl) e_33 (fun H locs ls hP hS hl => ?_)
  refine lv_iconst (v := (0 : Int32)) hx hb dX11_laysCalls_167 (by decide) ?_
  refine lv_istore_n (lv' := [(1, .int (0 : Int32)), (0, .ref (b + x0))]) hx hb dX11_laysCalls_168 rfl hl (Nat.le_of_ble_eq_true rfl) rfl (fun ls hl => ?_)
  have lp169 : ∀ (n : Nat) (x0 : Nat) (x1 : Int32) (I : mI) (L : mL) (R : mR) (a1 : mI) (H : Heap) (locs : List Loc) (ls : Array Slot), va_P D vwCl (wd ce b kdM lnM 21 I L R) H → va_S (box b 21) s.heap H locs → WT kdM R → kdM x0 = 17 → lv_has ls 4 [(0, .ref (b + x0)), (1, .int x1)] → f_X11_laysCalls_L169 n x0 x1 I R = some a1 → (∀ (H1 : Heap) (locs1 : List Loc) (ls1 : Array Slot), va_P D vwCl (wd ce b kdM lnM 21 a1 L R) H1 → va_S (box b 21) s.heap H1 locs1 → lv_has ls1 4 [(0, .ref (b + x0))] → W p l e rmX11_laysCalls s m av below meth c H1 locs1 0 0 QQ (F0 m 273 ls1 [])) → W p l e rmX11_laysCalls s m av below meth c H locs 0 0 QQ (F0 m 169 ls []) := by
    intro n
    induction n with
    | zero =>
      intro x0 x1 I L R a1 H locs ls hP hS hT h0 hl hf kx
      exact absurd (show (none : Option (mI)) = some _ from hf) (by simp)
    | succ n ih =>
      intro x0 x1 I L R a1 H locs ls hP hS hT h0 hl hf kx
      rw [f_X11_laysCalls_L169] at hf
      refine lv_iload_n hx hb dX11_laysCalls_169 rfl (lv_at hl 1 rfl) ?_
      refine lv_aload_n hx hb dX11_laysCalls_170 rfl (lv_at hl 0 rfl) ?_
      refine mm_geti hx hb hts hown hKK hP fk11_18 (Or.inl rfl) lkX11_213 (kdM_lt h0 (Nat.succ_ne_zero _)) h0 dX11_laysCalls_171 ?_
      refine lv_icmp_ge (tgt := 273) hx hb dX11_laysCalls_174 (by decide) (fun c34 => ?_) (fun c34 => ?_)
      · have hf := ifT hf c34
        cases hf
        exact kx H locs ls hP hS (lv_sub hl [0] rfl)
      · have hf := ifF hf c34
        refine lv_iconst (v := (0 : Int32)) hx hb dX11_laysCalls_177 (by decide) ?_
        refine lv_istore_n (lv' := [(2, .int (0 : Int32)), (0, .ref (b + x0)), (1, .int x1)]) hx hb dX11_laysCalls_178 rfl hl (Nat.le_of_ble_eq_true rfl) rfl (fun ls hl => ?_)
        have lp179 : ∀ (n : Nat) (x0 : Nat) (x1 : Int32) (x2 : Int32) (I : mI) (L : mL) (R : mR) (a1 : mI) (H : Heap) (locs : List Loc) (ls : Array Slot), va_P D vwCl (wd ce b kdM lnM 21 I L R) H → va_S (box b 21) s.heap H locs → WT kdM R → kdM x0 = 17 → lv_has ls 4 [(0, .ref (b + x0)), (1, .int x1), (2, .int x2)] → f_X11_laysCalls_L179 n x0 x1 x2 I R = some a1 → (∀ (H1 : Heap) (locs1 : List Loc) (ls1 : Array Slot), va_P D vwCl (wd ce b kdM lnM 21 a1 L R) H1 → va_S (box b 21) s.heap H1 locs1 → lv_has ls1 4 [(0, .ref (b + x0)), (1, .int x1)] → W p l e rmX11_laysCalls s m av below meth c H1 locs1 0 0 QQ (F0 m 267 ls1 [])) → W p l e rmX11_laysCalls s m av below meth c H locs 0 0 QQ (F0 m 179 ls []) := by
          intro n
          induction n with
          | zero =>
            intro x0 x1 x2 I L R a1 H locs ls hP hS hT h0 hl hf kx
            exact absurd (show (none : Option (mI)) = some _ from hf) (by simp)
          | succ n ih =>
            intro x0 x1 x2 I L R a1 H locs ls hP hS hT h0 hl hf kx
            rw [f_X11_laysCalls_L179] at hf
            refine lv_iload_n hx hb dX11_laysCalls_179 rfl (lv_at hl 2 rfl) ?_
            refine lv_aload_n hx hb dX11_laysCalls_180 rfl (lv_at hl 0 rfl) ?_
            refine mm_geti hx hb hts hown hKK hP fk11_18 (Or.inl rfl) lkX11_213 (kdM_lt h0 (Nat.succ_ne_zero _)) h0 dX11_laysCalls_181 ?_
            refine lv_icmp_ge (tgt := 267) hx hb dX11_laysCalls_184 (by decide) (fun c35 => ?_) (fun c35 => ?_)
            · have hf := ifT hf c35
              cases hf
              exact kx H locs ls hP hS (lv_sub hl [0, 1] rfl)
            · have hf := ifF hf c35
              refine lv_iconst (v := (0 : Int32)) hx hb dX11_laysCalls_187 (by decide) ?_
              refine lv_istore_n (lv' := [(3, .int (0 : Int32)), (0, .ref (b + x0)), (1, .int x1), (2, .int x2)]) hx hb dX11_laysCalls_188 rfl hl (Nat.le_of_ble_eq_true rfl) rfl (fun ls hl => ?_)
              have lp189 : ∀ (n : Nat) (x0 : Nat) (x1 : Int32) (x2 : Int32) (x3 : Int32) (I : mI) (L : mL) (R : mR) (a1 : mI) (H : Heap) (locs : List Loc) (ls : Array Slot), va_P D vwCl (wd ce b kdM lnM 21 I L R) H → va_S (box b 21) s.heap H locs → WT kdM R → kdM x0 = 17 → lv_has ls 4 [(0, .ref (b + x0)), (1, .int x1), (2, .int x2), (3, .int x3)] → f_X11_laysCalls_L189 n x0 x1 x2 x3 I R = some a1 → (∀ (H1 : Heap) (locs1 : List Loc) (ls1 : Array Slot), va_P D vwCl (wd ce b kdM lnM 21 a1 L R) H1 → va_S (box b 21) s.heap H1 locs1 → lv_has ls1 4 [(0, .ref (b + x0)), (1, .int x1), (2, .int x2)] → W p l e rmX11_laysCalls s m av below meth c H1 locs1 0 0 QQ (F0 m 261 ls1 [])) → W p l e rmX11_laysCalls s m av below meth c H locs 0 0 QQ (F0 m 189 ls []) := by
                intro n
                induction n with
                | zero =>
                  intro x0 x1 x2 x3 I L R a1 H locs ls hP hS hT h0 hl hf kx
                  exact absurd (show (none : Option (mI)) = some _ from hf) (by simp)
                | succ n ih =>
                  intro x0 x1 x2 x3 I L R a1 H locs ls hP hS hT h0 hl hf kx
                  rw [f_X11_laysCalls_L189] at hf
                  refine lv_iload_n hx hb dX11_laysCalls_189 rfl (lv_at hl 3 rfl) ?_
                  refine lv_aload_n hx hb dX11_laysCalls_190 rfl (lv_at hl 0 rfl) ?_
                  refine mm_geti hx hb hts hown hKK hP fk11_18 (Or.inl rfl) lkX11_213 (kdM_lt h0 (Nat.succ_ne_zero _)) h0 dX11_laysCalls_191 ?_
                  refine lv_icmp_ge (tgt := 261) hx hb dX11_laysCalls_194 (by decide) (fun c36 => ?_) (fun c36 => ?_)
                  · have hf := ifT hf c36
                    cases hf
                    exact kx H locs ls hP hS (lv_sub hl [0, 1, 2] rfl)
                  · have hf := ifF hf c36
                    refine lv_aload_n hx hb dX11_laysCalls_197 rfl (lv_at hl 0 rfl) ?_
                    have t37 : kdM (R x0 20) = 3 := wt hT h0 rfl
                    refine mm_getr hx hb hts hown hKK hP fk11_20 (Nat.le_of_ble_eq_true rfl) lkX11_54 (kdM_lt h0 (Nat.succ_ne_zero _)) h0 (nM t37 (Nat.succ_ne_zero _)) dX11_laysCalls_198 ?_
                    refine lv_bipush (v := (60 : Int32)) hx hb dX11_laysCalls_201 (by decide) ?_
                    refine lv_iload_n hx hb dX11_laysCalls_203 rfl (lv_at hl 2 rfl) ?_
                    refine lv_imul hx hb dX11_laysCalls_204 ?_
                    refine lv_iload_n hx hb dX11_laysCalls_205 rfl (lv_at hl 1 rfl) ?_
                    refine lv_iadd hx hb dX11_laysCalls_206 ?_
                    obtain ⟨g38, hf⟩ := grd hf
                    refine mm_zald hx hb hKK hP (kdM_lt t37 (Nat.succ_ne_zero _)) t37 g38 dX11_laysCalls_207 ?_
                    refine lv_if_eq (tgt := 261) hx hb dX11_laysCalls_208 (by decide) (fun c39 => ?_) (fun c39 => ?_)
                    · have hf := ifT hf c39
                      cases hf
                      exact kx H locs ls hP hS (lv_sub hl [0, 1, 2] rfl)
                    · have hf := ifF hf c39
                      refine lv_aload_n hx hb dX11_laysCalls_211 rfl (lv_at hl 0 rfl) ?_
                      refine mm_getr hx hb hts hown hKK hP fk11_20 (Nat.le_of_ble_eq_true rfl) lkX11_54 (kdM_lt h0 (Nat.succ_ne_zero _)) h0 (nM t37 (Nat.succ_ne_zero _)) dX11_laysCalls_212 ?_
                      refine lv_bipush (v := (60 : Int32)) hx hb dX11_laysCalls_215 (by decide) ?_
                      refine lv_iload_n hx hb dX11_laysCalls_217 rfl (lv_at hl 2 rfl) ?_
                      refine lv_imul hx hb dX11_laysCalls_218 ?_
                      refine lv_iload_n hx hb dX11_laysCalls_219 rfl (lv_at hl 3 rfl) ?_
                      refine lv_iadd hx hb dX11_laysCalls_220 ?_
                      refine lv_aload_n hx hb dX11_laysCalls_221 rfl (lv_at hl 0 rfl) ?_
                      refine mm_getr hx hb hts hown hKK hP fk11_20 (Nat.le_of_ble_eq_true rfl) lkX11_54 (kdM_lt h0 (Nat.succ_ne_zero _)) h0 (nM t37 (Nat.succ_ne_zero _)) dX11_laysCalls_222 ?_
                      refine lv_bipush (v := (60 : Int32)) hx hb dX11_laysCalls_225 (by decide) ?_
                      refine lv_iload_n hx hb dX11_laysCalls_227 rfl (lv_at hl 2 rfl) ?_
                      refine lv_imul hx hb dX11_laysCalls_228 ?_
                      refine lv_iload_n hx hb dX11_laysCalls_229 rfl (lv_at hl 3 rfl) ?_
                      refine lv_iadd hx hb dX11_laysCalls_230 ?_
                      obtain ⟨g40, hf⟩ := grd hf
                      refine mm_zald hx hb hKK hP (kdM_lt t37 (Nat.succ_ne_zero _)) t37 g40 dX11_laysCalls_231 ?_
                      refine jnE hf (fun j254_41 ej_41 hf => ?_)
                      have hJ254_41 : ∀ (w2_41 : Int32) (H : Heap) (locs : List Loc) (ls : Array Slot), va_P D vwCl (wd ce b kdM lnM 21 I L R) H → va_S (box b 21) s.heap H locs → lv_has ls 4 [(0, .ref (b + x0)), (1, .int x1), (2, .int x2), (3, .int x3)] → j254_41 w2_41 = some a1 → W p l e rmX11_laysCalls s m av below meth c H locs 0 0 QQ (F0 m 254 ls [.int w2_41, .int (((60 : Int32) * x2) + x3), .ref (b + (R x0 20))]) := by
                        intro w2_41 H locs ls hP hS  hl hf
                        rw [ej_41] at hf
                        try dsimp only at hf
                        refine jnE hf (fun I42 eI42 hf => ?_)
                        refine mm_zast hx hb hKK hP hA hS (kdM_lt t37 (Nat.succ_ne_zero _)) t37 g40 dX11_laysCalls_254 (fun H locs hP hS => ?_)
                        rw [← eI42] at hP
                        refine lv_iinc (v := (x3 + (1 : Int32))) (lv' := [(3, .int (x3 + (1 : Int32))), (0, .ref (b + x0)), (1, .int x1), (2, .int x2)]) hx hb dX11_laysCalls_255 hl (k := 3) rfl rfl (Nat.le_of_ble_eq_true rfl) rfl (fun ls hl => ?_)
                        refine lv_goto (tgt := 189) hx hb dX11_laysCalls_258 (by decide) ?_
                        exact ih x0 x1 x2 (x3 + (1 : Int32)) I42 L R a1 H locs ls hP hS hT h0 (lv_sub hl [1, 2, 3, 0] rfl) hf kx
                      clear ej_41
                      refine jnE hf (fun j249_43 ej_43 hf => ?_)
                      have hJ249_43 : ∀ (H : Heap) (locs : List Loc) (ls : Array Slot), va_P D vwCl (wd ce b kdM lnM 21 I L R) H → va_S (box b 21) s.heap H locs → lv_has ls 4 [(0, .ref (b + x0)), (1, .int x1), (2, .int x2), (3, .int x3)] → j249_43  = some a1 → W p l e rmX11_laysCalls s m av below meth c H locs 0 0 QQ (F0 m 249 ls [.int (((60 : Int32) * x2) + x3), .ref (b + (R x0 20))]) := by
                        intro  H locs ls hP hS  hl hf
                        rw [ej_43] at hf
                        try dsimp only at hf
                        refine lv_iconst (v := (1 : Int32)) hx hb dX11_laysCalls_249 (by decide) ?_
                        refine lv_goto (tgt := 254) hx hb dX11_laysCalls_250 (by decide) ?_
                        exact hJ254_41 (1 : Int32) H locs ls hP hS  (lv_sub hl [0, 1, 2, 3] rfl) hf
                      clear ej_43
                      refine lv_if_ne (tgt := 249) hx hb dX11_laysCalls_232 (by decide) (fun c44 => ?_) (fun c44 => ?_)
                      · have hf := ifF hf c44
                        exact hJ249_43  H locs ls hP hS  (lv_sub hl [0, 1, 2, 3] rfl) hf
                      · have hf := ifT hf c44
                        refine lv_aload_n hx hb dX11_laysCalls_235 rfl (lv_at hl 0 rfl) ?_
                        refine mm_getr hx hb hts hown hKK hP fk11_20 (Nat.le_of_ble_eq_true rfl) lkX11_54 (kdM_lt h0 (Nat.succ_ne_zero _)) h0 (nM t37 (Nat.succ_ne_zero _)) dX11_laysCalls_236 ?_
                        refine lv_bipush (v := (60 : Int32)) hx hb dX11_laysCalls_239 (by decide) ?_
                        refine lv_iload_n hx hb dX11_laysCalls_241 rfl (lv_at hl 1 rfl) ?_
                        refine lv_imul hx hb dX11_laysCalls_242 ?_
                        refine lv_iload_n hx hb dX11_laysCalls_243 rfl (lv_at hl 3 rfl) ?_
                        refine lv_iadd hx hb dX11_laysCalls_244 ?_
                        obtain ⟨g45, hf⟩ := grd hf
                        refine mm_zald hx hb hKK hP (kdM_lt t37 (Nat.succ_ne_zero _)) t37 g45 dX11_laysCalls_245 ?_
                        refine lv_if_eq (tgt := 253) hx hb dX11_laysCalls_246 (by decide) (fun c46 => ?_) (fun c46 => ?_)
                        · have hf := ifT hf c46
                          refine lv_iconst (v := (0 : Int32)) hx hb dX11_laysCalls_253 (by decide) ?_
                          exact hJ254_41 (0 : Int32) H locs ls hP hS  (lv_sub hl [0, 1, 2, 3] rfl) hf
                        · have hf := ifF hf c46
                          exact hJ249_43  H locs ls hP hS  (lv_sub hl [0, 1, 2, 3] rfl) hf
              obtain ⟨I_47, e_47, hf⟩ := bd1_o hf
              refine lp189 FU x0 x1 x2 (0 : Int32) I L R I_47 H locs ls hP hS hT h0 (lv_sub hl [1, 2, 3, 0] rfl) e_47 (fun H locs ls hP hS hl => ?_)
              refine lv_iinc (v := (x2 + (1 : Int32))) (lv' := [(2, .int (x2 + (1 : Int32))), (0, .ref (b + x0)), (1, .int x1)]) hx hb dX11_laysCalls_261 hl (k := 2) rfl rfl (Nat.le_of_ble_eq_true rfl) rfl (fun ls hl => ?_)
              refine lv_goto (tgt := 179) hx hb dX11_laysCalls_264 (by decide) ?_
              exact ih x0 x1 (x2 + (1 : Int32)) I_47 L R a1 H locs ls hP hS hT h0 (lv_sub hl [1, 2, 0] rfl) hf kx
        obtain ⟨I_48, e_48, hf⟩ := bd1_o hf
        refine lp179 FU x0 x1 (0 : Int32) I L R I_48 H locs ls hP hS hT h0 (lv_sub hl [1, 2, 0] rfl) e_48 (fun H locs ls hP hS hl => ?_)
        refine lv_iinc (v := (x1 + (1 : Int32))) (lv' := [(1, .int (x1 + (1 : Int32))), (0, .ref (b + x0))]) hx hb dX11_laysCalls_267 hl (k := 1) rfl rfl (Nat.le_of_ble_eq_true rfl) rfl (fun ls hl => ?_)
        refine lv_goto (tgt := 169) hx hb dX11_laysCalls_270 (by decide) ?_
        exact ih x0 (x1 + (1 : Int32)) I_48 L R a1 H locs ls hP hS hT h0 (lv_sub hl [1, 0] rfl) hf kx
  obtain ⟨I_49, e_49, hf⟩ := bd1_o hf
  refine lp169 FU x0 (0 : Int32) I_33 L R I_49 H locs ls hP hS hT h0 (lv_sub hl [1, 0] rfl) e_49 (fun H locs ls hP hS hl => ?_)
  refine lv_aload_n hx hb dX11_laysCalls_273 rfl (lv_at hl 0 rfl) ?_
  obtain ⟨I50, e50, hf⟩ := bd1_o hf
  refine mm_Vv (rest := []) hx hb hml hown hts hKK hP hS hA (kdM_lt h0 (Nat.succ_ne_zero _)) h0 (show vwCl[11]? = some (yX11_laysRings.cls, TX11, 32) from rfl) vkX11_219 (k_X11_laysRings l D ce b I_49 L R hT x0 h0 I50 e50) rfl hl.1 rfl (Nat.le_of_ble_eq_true rfl) ⟨rfl, rfl⟩ ⟨Nat.le_of_ble_eq_true rfl, Nat.le_of_ble_eq_true rfl⟩ ⟨Nat.zero_le _, Nat.zero_le _⟩ dX11_laysCalls_274 (fun H locs hP hT hS => ?_)
  exact hret I50 hf H locs ls _ dX11_laysCalls_277 hP hT hS
def rmX11_isLighter : Room := { frames := 4, cells := 0, slots := 0, locals := 101 }
set_option maxHeartbeats 4000000 in
set_option maxRecDepth 100000 in
theorem k_X11_isLighter (l : Launch) (D : va_G) (ce : Nat → ClassId) (b : Nat) (I : mI) (L : mL) (R : mR) (hT : WT kdM R) (x0 : Nat) (x1 : Int32) (h0 : kdM x0 = 17) (o1 : Int32) (o2 : mL) (hf : f_X11_isLighter x0 x1 I L R = some (o1, o2)) : Met l yX11_isLighter (Cond.code yX11_isLighter cX11_isLighter 5 (some .boolean) :: GW) rmX11_isLighter (va_Pc [.ref (b + x0), .int x1] (PW D ce b kdM lnM 21 I L R)) (va_Qi (fun r u => r = o1 ∧ u = (I, o2, R)) (QW D ce b kdM lnM 21) (box b 21)) 0 0 (box b 21) := by
  refine Met.ofW (cc := cX11_isLighter) (maxL := 5) (ret := (some .boolean)) (by decide) rfl ?_
  intro p e s m args below meth c s₁ B hml hv
  obtain ⟨rfl, hP, hKK⟩ := hv
  have hx := B.exec
  have hb := B.bytes
  have hr := B.returns
  have hts0 := atoms_spec (ws := Cond.code yX11_isLighter cX11_isLighter 5 (some .boolean) :: GW) B.pre
  have hts : ∀ w ∈ GW, w.before _ s = true := fun w h => hts0 w (List.mem_cons_of_mem _ h)
  clear hts0
  have hown : s.vm.findClass RX11 = some m.cls := findClass_of_methodNamed B.named
  have hlocks := B.notSynchronized
  have hA : ∀ q, box b 21 q → box b 21 q := fun _ h => h
  have hS : va_S (box b 21) s.heap s.heap [] := va_S.rf
  have hl := lv_entry ([.ref (b + x0), .int x1]) (n := 5) (Nat.le_of_ble_eq_true rfl)
  rw [lg_entry_eq]
  generalize (lg_sl ([.ref (b + x0), .int x1]) ++ List.replicate (5 - (lg_sl ([.ref (b + x0), .int x1])).length) Slot.unset).toArray = ls at hl ⊢
  have hl : lv_has ls 5 [(0, .ref (b + x0)), (1, .int x1)] := hl
  generalize ([.ref (b + x0), .int x1] : List Value).toArray = av at hts ⊢
  show W p l e rmX11_isLighter s m av below meth c s.heap [] 0 0 _ _
  obtain ⟨QQ, hQQ⟩ : ∃ z, z = MQ below (va_Qi (fun r u => r = o1 ∧ u = (I, o2, R)) (QW D ce b kdM lnM 21) (box b 21)) av s 0 0 (box b 21) := ⟨_, rfl⟩
  rw [← hQQ]
  have hret : ∀ (r : Int32) (L1 : mL), some (r, L1) = some (o1, o2) → ∀ (H1 : Heap) (locs1 : List Loc) (ls1 : Array Slot) (pc1 : Nat), decode cX11_isLighter pc1 = .ok (.ireturn, 1) → zb r = true → va_P D vwCl (wd ce b kdM lnM 21 I L1 R) H1 → WT kdM R → va_S (box b 21) s.heap H1 locs1 → W p l e rmX11_isLighter s m av below meth c H1 locs1 0 0 QQ (F0 m pc1 ls1 [.int r]) := by
    intro r L1 hq H1 locs1 ls1 pc1 hd hz hP hT hS
    cases hq
    rw [hQQ]
    exact mm_zret hx hb hr hlocks hz hP hT hS hd
  unfold f_X11_isLighter at hf
  obtain ⟨H, hH⟩ : ∃ z, z = s.heap := ⟨_, rfl⟩
  obtain ⟨locs, hlo⟩ : ∃ z : List Loc, z = [] := ⟨_, rfl⟩
  have hP : va_P D vwCl (wd ce b kdM lnM 21 I L R) H := by rw [hH]; exact hP
  have hS : va_S (box b 21) s.heap H locs := by rw [hH, hlo]; exact hS
  rw [show W p l e rmX11_isLighter s m av below meth c s.heap [] 0 0 QQ = W p l e rmX11_isLighter s m av below meth c H locs 0 0 QQ by rw [hH, hlo]]
  clear hH hlo
  clear hQQ
  show W p l e rmX11_isLighter s m av below meth c H locs 0 0 QQ (F0 m 0 ls [])
  refine lv_aload_n hx hb dX11_isLighter_0 rfl (lv_at hl 0 rfl) ?_
  refine lv_iconst (v := (1 : Int32)) hx hb dX11_isLighter_1 (by decide) ?_
  obtain ⟨r1, L1, e1, hf⟩ := bd2_o hf
  refine mm_Vi (rest := []) hx hb hml hown hts hKK hP hS hA (kdM_lt h0 (Nat.succ_ne_zero _)) h0 (show vwCl[11]? = some (yX11_areAll.cls, TX11, 32) from rfl) vkX11_198 (k_X11_areAll l D ce b I L R hT x0 (1 : Int32) h0 r1 L1 e1) rfl hl.1 rfl (Nat.le_of_ble_eq_true rfl) ⟨rfl, rfl⟩ ⟨Nat.le_of_ble_eq_true rfl, Nat.le_of_ble_eq_true rfl⟩ ⟨Nat.zero_le _, Nat.zero_le _⟩ dX11_isLighter_2 (fun H locs hP hT hS => ?_)
  refine lv_istore_n (lv' := [(2, .int r1), (0, .ref (b + x0)), (1, .int x1)]) hx hb dX11_isLighter_5 rfl hl (Nat.le_of_ble_eq_true rfl) rfl (fun ls hl => ?_)
  refine lv_iconst (v := (0 : Int32)) hx hb dX11_isLighter_6 (by decide) ?_
  refine lv_istore_n (lv' := [(3, .int (0 : Int32)), (2, .int r1), (0, .ref (b + x0)), (1, .int x1)]) hx hb dX11_isLighter_7 rfl hl (Nat.le_of_ble_eq_true rfl) rfl (fun ls hl => ?_)
  have lp8 : ∀ (n : Nat) (x0 : Nat) (x1 : Int32) (x2 : Int32) (x3 : Int32) (I : mI) (L : mL) (R : mR) (a1 : Int32) (a2 : mL) (H : Heap) (locs : List Loc) (ls : Array Slot), va_P D vwCl (wd ce b kdM lnM 21 I L R) H → va_S (box b 21) s.heap H locs → WT kdM R → kdM x0 = 17 → lv_has ls 5 [(0, .ref (b + x0)), (1, .int x1), (2, .int x2), (3, .int x3)] → f_X11_isLighter_L8 n x0 x1 x2 x3 I L R = some (a1, a2) → (∀ (H1 : Heap) (locs1 : List Loc) (ls1 : Array Slot), va_P D vwCl (wd ce b kdM lnM 21 I a2 R) H1 → va_S (box b 21) s.heap H1 locs1 → lv_has ls1 5 [(2, .int a1)] → W p l e rmX11_isLighter s m av below meth c H1 locs1 0 0 QQ (F0 m 91 ls1 [])) → W p l e rmX11_isLighter s m av below meth c H locs 0 0 QQ (F0 m 8 ls []) := by
    intro n
    induction n with
    | zero =>
      intro x0 x1 x2 x3 I L R a1 a2 H locs ls hP hS hT h0 hl hf kx
      exact absurd (show (none : Option (Int32 × mL)) = some _ from hf) (by simp)
    | succ n ih =>
      intro x0 x1 x2 x3 I L R a1 a2 H locs ls hP hS hT h0 hl hf kx
      rw [f_X11_isLighter_L8] at hf
      refine lv_iload_n hx hb dX11_isLighter_8 rfl (lv_at hl 3 rfl) ?_
      refine lv_aload_n hx hb dX11_isLighter_9 rfl (lv_at hl 0 rfl) ?_
      refine mm_geti hx hb hts hown hKK hP fk11_18 (Or.inl rfl) lkX11_213 (kdM_lt h0 (Nat.succ_ne_zero _)) h0 dX11_isLighter_10 ?_
      refine lv_icmp_ge (tgt := 91) hx hb dX11_isLighter_13 (by decide) (fun c2 => ?_) (fun c2 => ?_)
      · have hf := ifT hf c2
        cases hf
        exact kx H locs ls hP hS (lv_sub hl [2] rfl)
      · have hf := ifF hf c2
        refine lv_iload_n hx hb dX11_isLighter_16 rfl (lv_at hl 2 rfl) ?_
        refine lv_if_eq (tgt := 91) hx hb dX11_isLighter_17 (by decide) (fun c3 => ?_) (fun c3 => ?_)
        · have hf := ifT hf c3
          cases hf
          exact kx H locs ls hP hS (lv_sub hl [2] rfl)
        · have hf := ifF hf c3
          refine lv_aload_n hx hb dX11_isLighter_20 rfl (lv_at hl 0 rfl) ?_
          have t4 : kdM (R x0 16) = 1 := wt hT h0 rfl
          refine mm_getr hx hb hts hown hKK hP fk11_16 (Nat.le_of_ble_eq_true rfl) lkX11_44 (kdM_lt h0 (Nat.succ_ne_zero _)) h0 (nM t4 (Nat.succ_ne_zero _)) dX11_isLighter_21 ?_
          refine lv_iload_n hx hb dX11_isLighter_24 rfl (lv_at hl 3 rfl) ?_
          obtain ⟨g5, hf⟩ := grd hf
          refine mm_iald hx hb hKK hP (kdM_lt t4 (Nat.succ_ne_zero _)) t4 g5 dX11_isLighter_25 ?_
          refine lv_istore (lv' := [(4, .int (I (R x0 16) x3.toNatClampNeg)), (0, .ref (b + x0)), (1, .int x1), (2, .int x2), (3, .int x3)]) hx hb dX11_isLighter_26 hl (Nat.le_of_ble_eq_true rfl) rfl (fun ls hl => ?_)
          refine lv_aload_n hx hb dX11_isLighter_28 rfl (lv_at hl 1 rfl) ?_
          have t6 : kdM (R x0 21) = 1 := wt hT h0 rfl
          refine mm_getr hx hb hts hown hKK hP fk11_21 (Nat.le_of_ble_eq_true rfl) lkX11_57 (kdM_lt h0 (Nat.succ_ne_zero _)) h0 (nM t6 (Nat.succ_ne_zero _)) dX11_isLighter_29 ?_
          refine lv_iload_n hx hb dX11_isLighter_32 rfl (lv_at hl 4 rfl) ?_
          obtain ⟨g7, hf⟩ := grd hf
          refine mm_iald hx hb hKK hP (kdM_lt t6 (Nat.succ_ne_zero _)) t6 g7 dX11_isLighter_33 ?_
          refine lv_iload_n hx hb dX11_isLighter_34 rfl (lv_at hl 2 rfl) ?_
          refine jnE hf (fun j84_8 ej_8 hf => ?_)
          have hJ84_8 : ∀ (w0_8 : Int32) (L_8 : mL) (H : Heap) (locs : List Loc) (ls : Array Slot), va_P D vwCl (wd ce b kdM lnM 21 I L_8 R) H → va_S (box b 21) s.heap H locs → lv_has ls 5 [(0, .ref (b + x0)), (1, .int x1), (3, .int x3)] → j84_8 w0_8 L_8 = some (a1, a2) → W p l e rmX11_isLighter s m av below meth c H locs 0 0 QQ (F0 m 84 ls [.int w0_8]) := by
            intro w0_8 L_8 H locs ls hP hS  hl hf
            rw [ej_8] at hf
            try dsimp only at hf
            refine lv_istore_n (lv' := [(2, .int w0_8), (0, .ref (b + x0)), (1, .int x1), (3, .int x3)]) hx hb dX11_isLighter_84 rfl hl (Nat.le_of_ble_eq_true rfl) rfl (fun ls hl => ?_)
            refine lv_iinc (v := (x3 + (1 : Int32))) (lv' := [(3, .int (x3 + (1 : Int32))), (2, .int w0_8), (0, .ref (b + x0)), (1, .int x1)]) hx hb dX11_isLighter_85 hl (k := 3) rfl rfl (Nat.le_of_ble_eq_true rfl) rfl (fun ls hl => ?_)
            refine lv_goto (tgt := 8) hx hb dX11_isLighter_88 (by decide) ?_
            exact ih x0 x1 w0_8 (x3 + (1 : Int32)) I L_8 R a1 a2 H locs ls hP hS hT h0 (lv_sub hl [2, 3, 1, 0] rfl) hf kx
          clear ej_8
          refine jnE hf (fun j79_9 ej_9 hf => ?_)
          have hJ79_9 : ∀ (L_9 : mL) (H : Heap) (locs : List Loc) (ls : Array Slot), va_P D vwCl (wd ce b kdM lnM 21 I L_9 R) H → va_S (box b 21) s.heap H locs → lv_has ls 5 [(0, .ref (b + x0)), (1, .int x1), (3, .int x3)] → j79_9 L_9 = some (a1, a2) → W p l e rmX11_isLighter s m av below meth c H locs 0 0 QQ (F0 m 79 ls []) := by
            intro L_9 H locs ls hP hS  hl hf
            rw [ej_9] at hf
            try dsimp only at hf
            refine lv_iconst (v := (1 : Int32)) hx hb dX11_isLighter_79 (by decide) ?_
            refine lv_goto (tgt := 84) hx hb dX11_isLighter_80 (by decide) ?_
            exact hJ84_8 (1 : Int32) L_9 H locs ls hP hS  (lv_sub hl [0, 1, 2] rfl) hf
          clear ej_9
          refine lv_icmp_ne (tgt := 79) hx hb dX11_isLighter_35 (by decide) (fun c10 => ?_) (fun c10 => ?_)
          · have hf := ifF hf c10
            exact hJ79_9 L H locs ls hP hS  (lv_sub hl [1, 2, 4] rfl) hf
          · have hf := ifT hf c10
            refine lv_aload_n hx hb dX11_isLighter_38 rfl (lv_at hl 1 rfl) ?_
            refine lv_iload hx hb dX11_isLighter_39 (lv_at hl 0 rfl) ?_
            obtain ⟨r11, e11, hf⟩ := bd1_o hf
            refine mm_Si (rest := [.ref (b + x0)]) hx hb hml hown hts hKK hP hS hA skX11_117 (k_X11_leftOf l D ce b I L R hT (I (R x0 16) x3.toNatClampNeg)  r11 e11) rfl hl.1 rfl (Nat.le_of_ble_eq_true rfl) ⟨rfl, rfl⟩ ⟨Nat.le_of_ble_eq_true rfl, Nat.le_of_ble_eq_true rfl⟩ ⟨Nat.zero_le _, Nat.zero_le _⟩ dX11_isLighter_41 (fun H locs hP hT hS => ?_)
            refine lv_aload_n hx hb dX11_isLighter_44 rfl (lv_at hl 1 rfl) ?_
            have t12 : kdM (R x0 0) = 1 := wt hT h0 rfl
            refine mm_getr hx hb hts hown hKK hP fk11_0 (Nat.le_of_ble_eq_true rfl) lkX11_7 (kdM_lt h0 (Nat.succ_ne_zero _)) h0 (nM t12 (Nat.succ_ne_zero _)) dX11_isLighter_45 ?_
            refine lv_iload hx hb dX11_isLighter_48 (lv_at hl 0 rfl) ?_
            obtain ⟨r13, e13, hf⟩ := bd1_o hf
            refine mm_Si (rest := [.int r11, .ref (b + x0)]) hx hb hml hown hts hKK hP hS hA skX11_158 (k_X11_leftLong l D ce b I L R hT (R x0 0) (I (R x0 16) x3.toNatClampNeg) t12 r13 e13) rfl hl.1 rfl (Nat.le_of_ble_eq_true rfl) ⟨rfl, rfl⟩ ⟨Nat.le_of_ble_eq_true rfl, Nat.le_of_ble_eq_true rfl⟩ ⟨Nat.zero_le _, Nat.zero_le _⟩ dX11_isLighter_50 (fun H locs hP hT hS => ?_)
            refine lv_aload_n hx hb dX11_isLighter_53 rfl (lv_at hl 1 rfl) ?_
            have t14 : kdM (R x0 17) = 1 := wt hT h0 rfl
            refine mm_getr hx hb hts hown hKK hP fk11_17 (Nat.le_of_ble_eq_true rfl) lkX11_47 (kdM_lt h0 (Nat.succ_ne_zero _)) h0 (nM t14 (Nat.succ_ne_zero _)) dX11_isLighter_54 ?_
            refine lv_iload_n hx hb dX11_isLighter_57 rfl (lv_at hl 4 rfl) ?_
            obtain ⟨g15, hf⟩ := grd hf
            refine mm_iald hx hb hKK hP (kdM_lt t14 (Nat.succ_ne_zero _)) t14 g15 dX11_isLighter_58 ?_
            refine lv_aload_n hx hb dX11_isLighter_59 rfl (lv_at hl 1 rfl) ?_
            refine mm_getr hx hb hts hown hKK hP fk11_0 (Nat.le_of_ble_eq_true rfl) lkX11_7 (kdM_lt h0 (Nat.succ_ne_zero _)) h0 (nM t12 (Nat.succ_ne_zero _)) dX11_isLighter_60 ?_
            refine lv_aload_n hx hb dX11_isLighter_63 rfl (lv_at hl 1 rfl) ?_
            refine mm_getr hx hb hts hown hKK hP fk11_17 (Nat.le_of_ble_eq_true rfl) lkX11_47 (kdM_lt h0 (Nat.succ_ne_zero _)) h0 (nM t14 (Nat.succ_ne_zero _)) dX11_isLighter_64 ?_
            refine lv_iload_n hx hb dX11_isLighter_67 rfl (lv_at hl 4 rfl) ?_
            refine mm_iald hx hb hKK hP (kdM_lt t14 (Nat.succ_ne_zero _)) t14 g15 dX11_isLighter_68 ?_
            obtain ⟨r16, e16, hf⟩ := bd1_o hf
            refine mm_Si (rest := [.int (I (R x0 17) x3.toNatClampNeg), .int r13, .int r11, .ref (b + x0)]) hx hb hml hown hts hKK hP hS hA skX11_207 (k_X11_longAt l D ce b I L R hT (R x0 0) (I (R x0 17) x3.toNatClampNeg) t12 r16 e16) rfl hl.1 rfl (Nat.le_of_ble_eq_true rfl) ⟨rfl, rfl⟩ ⟨Nat.le_of_ble_eq_true rfl, Nat.le_of_ble_eq_true rfl⟩ ⟨Nat.zero_le _, Nat.zero_le _⟩ dX11_isLighter_69 (fun H locs hP hT hS => ?_)
            obtain ⟨r17, L17, e17, hf⟩ := bd2_o hf
            refine mm_Vi (rest := []) hx hb hml hown hts hKK hP hS hA (kdM_lt h0 (Nat.succ_ne_zero _)) h0 (show vwCl[11]? = some (yX11_compares.cls, TX11, 32) from rfl) vkX11_187 (k_X11_compares l D ce b I L R hT x0 r11 r13 (I (R x0 17) x3.toNatClampNeg) r16 h0 r17 L17 e17) rfl hl.1 rfl (Nat.le_of_ble_eq_true rfl) ⟨rfl, rfl⟩ ⟨Nat.le_of_ble_eq_true rfl, Nat.le_of_ble_eq_true rfl⟩ ⟨Nat.zero_le _, Nat.zero_le _⟩ dX11_isLighter_72 (fun H locs hP hT hS => ?_)
            refine lv_iconst (v := (2 : Int32)) hx hb dX11_isLighter_75 (by decide) ?_
            refine lv_icmp_ne (tgt := 83) hx hb dX11_isLighter_76 (by decide) (fun c18 => ?_) (fun c18 => ?_)
            · have hf := ifF hf c18
              refine lv_iconst (v := (0 : Int32)) hx hb dX11_isLighter_83 (by decide) ?_
              exact hJ84_8 (0 : Int32) L17 H locs ls hP hS  (lv_sub hl [1, 2, 4] rfl) hf
            · have hf := ifT hf c18
              exact hJ79_9 L17 H locs ls hP hS  (lv_sub hl [1, 2, 4] rfl) hf
  obtain ⟨y2_19, L_19, e_19, hf⟩ := bd2_o hf
  refine lp8 FU x0 x1 r1 (0 : Int32) I L1 R y2_19 L_19 H locs ls hP hS hT h0 (lv_sub hl [2, 3, 1, 0] rfl) e_19 (fun H locs ls hP hS hl => ?_)
  refine lv_iload_n hx hb dX11_isLighter_91 rfl (lv_at hl 0 rfl) ?_
  obtain ⟨g20, hf⟩ := grd hf
  exact hret y2_19 L_19 hf H locs ls _ dX11_isLighter_92 g20 hP hT hS
def rmX11_lighterOf : Room := { frames := 5, cells := 0, slots := 0, locals := 125 }
set_option maxHeartbeats 4000000 in
set_option maxRecDepth 100000 in
theorem k_X11_lighterOf (l : Launch) (D : va_G) (ce : Nat → ClassId) (b : Nat) (I : mI) (L : mL) (R : mR) (hT : WT kdM R) (x0 : Nat) (x1 : Int32) (h0 : kdM x0 = 17) (o1 : Int32) (o2 : mI) (o3 : mL) (hf : f_X11_lighterOf x0 x1 I L R = some (o1, o2, o3)) : Met l yX11_lighterOf (Cond.code yX11_lighterOf cX11_lighterOf 3 (some .int) :: GW) rmX11_lighterOf (va_Pc [.ref (b + x0), .int x1] (PW D ce b kdM lnM 21 I L R)) (va_Qi (fun r u => r = o1 ∧ u = (o2, o3, R)) (QW D ce b kdM lnM 21) (box b 21)) 0 0 (box b 21) := by
  refine Met.ofW (cc := cX11_lighterOf) (maxL := 3) (ret := (some .int)) (by decide) rfl ?_
  intro p e s m args below meth c s₁ B hml hv
  obtain ⟨rfl, hP, hKK⟩ := hv
  have hx := B.exec
  have hb := B.bytes
  have hr := B.returns
  have hts0 := atoms_spec (ws := Cond.code yX11_lighterOf cX11_lighterOf 3 (some .int) :: GW) B.pre
  have hts : ∀ w ∈ GW, w.before _ s = true := fun w h => hts0 w (List.mem_cons_of_mem _ h)
  clear hts0
  have hown : s.vm.findClass RX11 = some m.cls := findClass_of_methodNamed B.named
  have hlocks := B.notSynchronized
  have hA : ∀ q, box b 21 q → box b 21 q := fun _ h => h
  have hS : va_S (box b 21) s.heap s.heap [] := va_S.rf
  have hl := lv_entry ([.ref (b + x0), .int x1]) (n := 3) (Nat.le_of_ble_eq_true rfl)
  rw [lg_entry_eq]
  generalize (lg_sl ([.ref (b + x0), .int x1]) ++ List.replicate (3 - (lg_sl ([.ref (b + x0), .int x1])).length) Slot.unset).toArray = ls at hl ⊢
  have hl : lv_has ls 3 [(0, .ref (b + x0)), (1, .int x1)] := hl
  generalize ([.ref (b + x0), .int x1] : List Value).toArray = av at hts ⊢
  show W p l e rmX11_lighterOf s m av below meth c s.heap [] 0 0 _ _
  obtain ⟨QQ, hQQ⟩ : ∃ z, z = MQ below (va_Qi (fun r u => r = o1 ∧ u = (o2, o3, R)) (QW D ce b kdM lnM 21) (box b 21)) av s 0 0 (box b 21) := ⟨_, rfl⟩
  rw [← hQQ]
  have hret : ∀ (r : Int32) (I1 : mI) (L1 : mL), some (r, I1, L1) = some (o1, o2, o3) → ∀ (H1 : Heap) (locs1 : List Loc) (ls1 : Array Slot) (pc1 : Nat), decode cX11_lighterOf pc1 = .ok (.ireturn, 1) → va_P D vwCl (wd ce b kdM lnM 21 I1 L1 R) H1 → WT kdM R → va_S (box b 21) s.heap H1 locs1 → W p l e rmX11_lighterOf s m av below meth c H1 locs1 0 0 QQ (F0 m pc1 ls1 [.int r]) := by
    intro r I1 L1 hq H1 locs1 ls1 pc1 hd hP hT hS
    cases hq
    rw [hQQ]
    exact mm_iret hx hb hr hlocks hP hT hS hd
  unfold f_X11_lighterOf at hf
  obtain ⟨H, hH⟩ : ∃ z, z = s.heap := ⟨_, rfl⟩
  obtain ⟨locs, hlo⟩ : ∃ z : List Loc, z = [] := ⟨_, rfl⟩
  have hP : va_P D vwCl (wd ce b kdM lnM 21 I L R) H := by rw [hH]; exact hP
  have hS : va_S (box b 21) s.heap H locs := by rw [hH, hlo]; exact hS
  rw [show W p l e rmX11_lighterOf s m av below meth c s.heap [] 0 0 QQ = W p l e rmX11_lighterOf s m av below meth c H locs 0 0 QQ by rw [hH, hlo]]
  clear hH hlo
  clear hQQ
  show W p l e rmX11_lighterOf s m av below meth c H locs 0 0 QQ (F0 m 0 ls [])
  refine lv_aload_n hx hb dX11_lighterOf_0 rfl (lv_at hl 0 rfl) ?_
  refine lv_iconst (v := (0 : Int32)) hx hb dX11_lighterOf_1 (by decide) ?_
  refine lv_bipush (v := (9 : Int32)) hx hb dX11_lighterOf_2 (by decide) ?_
  obtain ⟨r1, I1, e1, hf⟩ := bd2_o hf
  refine mm_Vi (rest := []) hx hb hml hown hts hKK hP hS hA (kdM_lt h0 (Nat.succ_ne_zero _)) h0 (show vwCl[11]? = some (yX11_laysFigures.cls, TX11, 32) from rfl) vkX11_194 (k_X11_laysFigures l D ce b I L R hT x0 (0 : Int32) (9 : Int32) h0 r1 I1 e1) rfl hl.1 rfl (Nat.le_of_ble_eq_true rfl) ⟨rfl, rfl⟩ ⟨Nat.le_of_ble_eq_true rfl, Nat.le_of_ble_eq_true rfl⟩ ⟨Nat.zero_le _, Nat.zero_le _⟩ dX11_lighterOf_4 (fun H locs hP hT hS => ?_)
  refine lv_istore_n (lv' := [(2, .int r1), (0, .ref (b + x0)), (1, .int x1)]) hx hb dX11_lighterOf_7 rfl hl (Nat.le_of_ble_eq_true rfl) rfl (fun ls hl => ?_)
  have lp8 : ∀ (n : Nat) (x0 : Nat) (x1 : Int32) (x2 : Int32) (I : mI) (L : mL) (R : mR) (q : (Int32 × mI × mL) ⊕ (mI × mL)) (H : Heap) (locs : List Loc) (ls : Array Slot), va_P D vwCl (wd ce b kdM lnM 21 I L R) H → va_S (box b 21) s.heap H locs → WT kdM R → kdM x0 = 17 → lv_has ls 3 [(0, .ref (b + x0)), (1, .int x1), (2, .int x2)] → f_X11_lighterOf_L8 n x0 x1 x2 I L R = some q → (∀ (I1 : mI) (L1 : mL), some (Sum.inr (I1, L1)) = some q → ∀ (H1 : Heap) (locs1 : List Loc) (ls1 : Array Slot), va_P D vwCl (wd ce b kdM lnM 21 I1 L1 R) H1 → va_S (box b 21) s.heap H1 locs1 → lv_has ls1 3 [] → W p l e rmX11_lighterOf s m av below meth c H1 locs1 0 0 QQ (F0 m 35 ls1 [])) → (∀ (r : Int32) (I1 : mI) (L1 : mL), some (Sum.inl (r, I1, L1)) = some q → ∀ (H1 : Heap) (locs1 : List Loc) (ls1 : Array Slot) (pc1 : Nat), decode cX11_lighterOf pc1 = .ok (.ireturn, 1) → va_P D vwCl (wd ce b kdM lnM 21 I1 L1 R) H1 → WT kdM R → va_S (box b 21) s.heap H1 locs1 → W p l e rmX11_lighterOf s m av below meth c H1 locs1 0 0 QQ (F0 m pc1 ls1 [.int r])) → W p l e rmX11_lighterOf s m av below meth c H locs 0 0 QQ (F0 m 8 ls []) := by
    intro n
    induction n with
    | zero =>
      intro x0 x1 x2 I L R q H locs ls hP hS hT h0 hl hf kx kr
      exact absurd (show (none : Option ((Int32 × mI × mL) ⊕ (mI × mL))) = some _ from hf) (by simp)
    | succ n ih =>
      intro x0 x1 x2 I L R q H locs ls hP hS hT h0 hl hf kx kr
      rw [f_X11_lighterOf_L8] at hf
      refine lv_iload_n hx hb dX11_lighterOf_8 rfl (lv_at hl 2 rfl) ?_
      refine lv_if_eq (tgt := 35) hx hb dX11_lighterOf_9 (by decide) (fun c2 => ?_) (fun c2 => ?_)
      · have hf := ifT hf c2
        exact kx I L hf H locs ls hP hS (lv_sub hl [] rfl)
      · have hf := ifF hf c2
        refine lv_aload_n hx hb dX11_lighterOf_12 rfl (lv_at hl 0 rfl) ?_
        refine lv_iload_n hx hb dX11_lighterOf_13 rfl (lv_at hl 1 rfl) ?_
        obtain ⟨r3, L3, e3, hf⟩ := bd2_o hf
        refine mm_Vi (rest := []) hx hb hml hown hts hKK hP hS hA (kdM_lt h0 (Nat.succ_ne_zero _)) h0 (show vwCl[11]? = some (yX11_isLighter.cls, TX11, 32) from rfl) vkX11_222 (k_X11_isLighter l D ce b I L R hT x0 x1 h0 r3 L3 e3) rfl hl.1 rfl (Nat.le_of_ble_eq_true rfl) ⟨rfl, rfl⟩ ⟨Nat.le_of_ble_eq_true rfl, Nat.le_of_ble_eq_true rfl⟩ ⟨Nat.zero_le _, Nat.zero_le _⟩ dX11_lighterOf_14 (fun H locs hP hT hS => ?_)
        refine lv_if_eq (tgt := 25) hx hb dX11_lighterOf_17 (by decide) (fun c4 => ?_) (fun c4 => ?_)
        · have hf := ifT hf c4
          refine lv_aload_n hx hb dX11_lighterOf_25 rfl (lv_at hl 0 rfl) ?_
          refine lv_iconst (v := (0 : Int32)) hx hb dX11_lighterOf_26 (by decide) ?_
          refine lv_iconst (v := (2 : Int32)) hx hb dX11_lighterOf_27 (by decide) ?_
          obtain ⟨r5, I5, e5, hf⟩ := bd2_o hf
          refine mm_Vi (rest := []) hx hb hml hown hts hKK hP hS hA (kdM_lt h0 (Nat.succ_ne_zero _)) h0 (show vwCl[11]? = some (yX11_goesOn.cls, TX11, 32) from rfl) vkX11_204 (k_X11_goesOn l D ce b I L3 R hT x0 (0 : Int32) (2 : Int32) h0 r5 I5 e5) rfl hl.1 rfl (Nat.le_of_ble_eq_true rfl) ⟨rfl, rfl⟩ ⟨Nat.le_of_ble_eq_true rfl, Nat.le_of_ble_eq_true rfl⟩ ⟨Nat.zero_le _, Nat.zero_le _⟩ dX11_lighterOf_28 (fun H locs hP hT hS => ?_)
          refine lv_istore_n (lv' := [(2, .int r5), (0, .ref (b + x0)), (1, .int x1)]) hx hb dX11_lighterOf_31 rfl hl (Nat.le_of_ble_eq_true rfl) rfl (fun ls hl => ?_)
          refine lv_goto (tgt := 8) hx hb dX11_lighterOf_32 (by decide) ?_
          exact ih x0 x1 r5 I5 L3 R q H locs ls hP hS hT h0 (lv_sub hl [1, 2, 0] rfl) hf kx kr
        · have hf := ifF hf c4
          refine lv_aload_n hx hb dX11_lighterOf_20 rfl (lv_at hl 0 rfl) ?_
          obtain ⟨r6, e6, hf⟩ := bd1_o hf
          refine mm_Vi (rest := []) hx hb hml hown hts hKK hP hS hA (kdM_lt h0 (Nat.succ_ne_zero _)) h0 (show vwCl[11]? = some (yX11_numberOf.cls, TX11, 32) from rfl) vkX11_201 (k_X11_numberOf l D ce b I L3 R hT x0 h0 r6 e6) rfl hl.1 rfl (Nat.le_of_ble_eq_true rfl) ⟨rfl, rfl⟩ ⟨Nat.le_of_ble_eq_true rfl, Nat.le_of_ble_eq_true rfl⟩ ⟨Nat.zero_le _, Nat.zero_le _⟩ dX11_lighterOf_21 (fun H locs hP hT hS => ?_)
          exact kr r6 I L3 hf H locs ls _ dX11_lighterOf_24 hP hT hS
  obtain ⟨q_7, e_7, hf⟩ := bdS_o hf
  refine lp8 FU x0 x1 r1 I1 L R q_7 H locs ls hP hS hT h0 (lv_sub hl [1, 2, 0] rfl) e_7 (fun I_7 L_7 hq H locs ls hP hS hl => ?_) (fun r_7 I_7 L_7 hq H locs ls pc1 hd hP hT hS => ?_)
  · have hf := elR2 hf (Option.some.inj hq).symm
    refine lv_iconst (v := (-1 : Int32)) hx hb dX11_lighterOf_35 (by decide) ?_
    exact hret (-1 : Int32) I_7 L_7 hf H locs ls _ dX11_lighterOf_36 hP hT hS
  · have hf := elL3 hf (Option.some.inj hq).symm
    exact hret r_7 I_7 L_7 hf H locs ls pc1 hd hP hT hS
def rmX11_callsTold : Room := { frames := 6, cells := 0, slots := 0, locals := 147 }
set_option maxHeartbeats 4000000 in
set_option maxRecDepth 100000 in
theorem k_X11_callsTold (l : Launch) (D : va_G) (ce : Nat → ClassId) (b : Nat) (I : mI) (L : mL) (R : mR) (hT : WT kdM R) (x0 : Nat) (x1 : Int32) (h0 : kdM x0 = 17) (o1 : Int32) (o2 : mI) (o3 : mL) (hf : f_X11_callsTold x0 x1 I L R = some (o1, o2, o3)) : Met l yX11_callsTold (Cond.code yX11_callsTold cX11_callsTold 4 (some .int) :: GW) rmX11_callsTold (va_Pc [.ref (b + x0), .int x1] (PW D ce b kdM lnM 21 I L R)) (va_Qi (fun r u => r = o1 ∧ u = (o2, o3, R)) (QW D ce b kdM lnM 21) (box b 21)) 0 0 (box b 21) := by
  refine Met.ofW (cc := cX11_callsTold) (maxL := 4) (ret := (some .int)) (by decide) rfl ?_
  intro p e s m args below meth c s₁ B hml hv
  obtain ⟨rfl, hP, hKK⟩ := hv
  have hx := B.exec
  have hb := B.bytes
  have hr := B.returns
  have hts0 := atoms_spec (ws := Cond.code yX11_callsTold cX11_callsTold 4 (some .int) :: GW) B.pre
  have hts : ∀ w ∈ GW, w.before _ s = true := fun w h => hts0 w (List.mem_cons_of_mem _ h)
  clear hts0
  have hown : s.vm.findClass RX11 = some m.cls := findClass_of_methodNamed B.named
  have hlocks := B.notSynchronized
  have hA : ∀ q, box b 21 q → box b 21 q := fun _ h => h
  have hS : va_S (box b 21) s.heap s.heap [] := va_S.rf
  have hl := lv_entry ([.ref (b + x0), .int x1]) (n := 4) (Nat.le_of_ble_eq_true rfl)
  rw [lg_entry_eq]
  generalize (lg_sl ([.ref (b + x0), .int x1]) ++ List.replicate (4 - (lg_sl ([.ref (b + x0), .int x1])).length) Slot.unset).toArray = ls at hl ⊢
  have hl : lv_has ls 4 [(0, .ref (b + x0)), (1, .int x1)] := hl
  generalize ([.ref (b + x0), .int x1] : List Value).toArray = av at hts ⊢
  show W p l e rmX11_callsTold s m av below meth c s.heap [] 0 0 _ _
  obtain ⟨QQ, hQQ⟩ : ∃ z, z = MQ below (va_Qi (fun r u => r = o1 ∧ u = (o2, o3, R)) (QW D ce b kdM lnM 21) (box b 21)) av s 0 0 (box b 21) := ⟨_, rfl⟩
  rw [← hQQ]
  have hret : ∀ (r : Int32) (I1 : mI) (L1 : mL), some (r, I1, L1) = some (o1, o2, o3) → ∀ (H1 : Heap) (locs1 : List Loc) (ls1 : Array Slot) (pc1 : Nat), decode cX11_callsTold pc1 = .ok (.ireturn, 1) → va_P D vwCl (wd ce b kdM lnM 21 I1 L1 R) H1 → WT kdM R → va_S (box b 21) s.heap H1 locs1 → W p l e rmX11_callsTold s m av below meth c H1 locs1 0 0 QQ (F0 m pc1 ls1 [.int r]) := by
    intro r I1 L1 hq H1 locs1 ls1 pc1 hd hP hT hS
    cases hq
    rw [hQQ]
    exact mm_iret hx hb hr hlocks hP hT hS hd
  unfold f_X11_callsTold at hf
  obtain ⟨H, hH⟩ : ∃ z, z = s.heap := ⟨_, rfl⟩
  obtain ⟨locs, hlo⟩ : ∃ z : List Loc, z = [] := ⟨_, rfl⟩
  have hP : va_P D vwCl (wd ce b kdM lnM 21 I L R) H := by rw [hH]; exact hP
  have hS : va_S (box b 21) s.heap H locs := by rw [hH, hlo]; exact hS
  rw [show W p l e rmX11_callsTold s m av below meth c s.heap [] 0 0 QQ = W p l e rmX11_callsTold s m av below meth c H locs 0 0 QQ by rw [hH, hlo]]
  clear hH hlo
  clear hQQ
  show W p l e rmX11_callsTold s m av below meth c H locs 0 0 QQ (F0 m 0 ls [])
  refine lv_iload_n hx hb dX11_callsTold_0 rfl (lv_at hl 1 rfl) ?_
  refine lv_iconst (v := (2 : Int32)) hx hb dX11_callsTold_1 (by decide) ?_
  refine lv_icmp_ge (tgt := 21) hx hb dX11_callsTold_2 (by decide) (fun c1 => ?_) (fun c1 => ?_)
  · have hf := ifT hf c1
    refine lv_iconst (v := (1 : Int32)) hx hb dX11_callsTold_21 (by decide) ?_
    refine lv_istore_n (lv' := [(2, .int (1 : Int32)), (0, .ref (b + x0)), (1, .int x1)]) hx hb dX11_callsTold_22 rfl hl (Nat.le_of_ble_eq_true rfl) rfl (fun ls hl => ?_)
    refine lv_iconst (v := (0 : Int32)) hx hb dX11_callsTold_23 (by decide) ?_
    refine lv_istore_n (lv' := [(3, .int (0 : Int32)), (2, .int (1 : Int32)), (0, .ref (b + x0)), (1, .int x1)]) hx hb dX11_callsTold_24 rfl hl (Nat.le_of_ble_eq_true rfl) rfl (fun ls hl => ?_)
    have lp25 : ∀ (n : Nat) (x0 : Nat) (x2 : Int32) (x3 : Int32) (I : mI) (L : mL) (R : mR) (a1 : Int32) (a2 : mI) (a3 : mL) (H : Heap) (locs : List Loc) (ls : Array Slot), va_P D vwCl (wd ce b kdM lnM 21 I L R) H → va_S (box b 21) s.heap H locs → WT kdM R → kdM x0 = 17 → lv_has ls 4 [(0, .ref (b + x0)), (2, .int x2), (3, .int x3)] → f_X11_callsTold_L25 n x0 x2 x3 I L R = some (a1, a2, a3) → (∀ (H1 : Heap) (locs1 : List Loc) (ls1 : Array Slot), va_P D vwCl (wd ce b kdM lnM 21 a2 a3 R) H1 → va_S (box b 21) s.heap H1 locs1 → lv_has ls1 4 [(2, .int a1)] → W p l e rmX11_callsTold s m av below meth c H1 locs1 0 0 QQ (F0 m 58 ls1 [])) → W p l e rmX11_callsTold s m av below meth c H locs 0 0 QQ (F0 m 25 ls []) := by
      intro n
      induction n with
      | zero =>
        intro x0 x2 x3 I L R a1 a2 a3 H locs ls hP hS hT h0 hl hf kx
        exact absurd (show (none : Option (Int32 × mI × mL)) = some _ from hf) (by simp)
      | succ n ih =>
        intro x0 x2 x3 I L R a1 a2 a3 H locs ls hP hS hT h0 hl hf kx
        rw [f_X11_callsTold_L25] at hf
        refine lv_iload_n hx hb dX11_callsTold_25 rfl (lv_at hl 2 rfl) ?_
        refine lv_aload_n hx hb dX11_callsTold_26 rfl (lv_at hl 0 rfl) ?_
        refine mm_geti hx hb hts hown hKK hP fk11_22 (Or.inl rfl) lkX11_210 (kdM_lt h0 (Nat.succ_ne_zero _)) h0 dX11_callsTold_27 ?_
        refine lv_icmp_ge (tgt := 58) hx hb dX11_callsTold_30 (by decide) (fun c2 => ?_) (fun c2 => ?_)
        · have hf := ifT hf c2
          cases hf
          exact kx H locs ls hP hS (lv_sub hl [1] rfl)
        · have hf := ifF hf c2
          refine lv_iload_n hx hb dX11_callsTold_33 rfl (lv_at hl 1 rfl) ?_
          refine lv_if_eq (tgt := 58) hx hb dX11_callsTold_34 (by decide) (fun c3 => ?_) (fun c3 => ?_)
          · have hf := ifT hf c3
            cases hf
            exact kx H locs ls hP hS (lv_sub hl [1] rfl)
          · have hf := ifF hf c3
            refine lv_aload_n hx hb dX11_callsTold_37 rfl (lv_at hl 0 rfl) ?_
            refine lv_iload_n hx hb dX11_callsTold_38 rfl (lv_at hl 2 rfl) ?_
            obtain ⟨r4, I4, L4, e4, hf⟩ := bd3_o hf
            refine mm_Vi (rest := []) hx hb hml hown hts hKK hP hS hA (kdM_lt h0 (Nat.succ_ne_zero _)) h0 (show vwCl[11]? = some (yX11_lighterOf.cls, TX11, 32) from rfl) vkX11_225 (k_X11_lighterOf l D ce b I L R hT x0 x3 h0 r4 I4 L4 e4) rfl hl.1 rfl (Nat.le_of_ble_eq_true rfl) ⟨rfl, rfl⟩ ⟨Nat.le_of_ble_eq_true rfl, Nat.le_of_ble_eq_true rfl⟩ ⟨Nat.zero_le _, Nat.zero_le _⟩ dX11_callsTold_39 (fun H locs hP hT hS => ?_)
            refine lv_iconst (v := (-1 : Int32)) hx hb dX11_callsTold_42 (by decide) ?_
            refine jnE hf (fun j51_5 ej_5 hf => ?_)
            have hJ51_5 : ∀ (w0_5 : Int32) (H : Heap) (locs : List Loc) (ls : Array Slot), va_P D vwCl (wd ce b kdM lnM 21 I4 L4 R) H → va_S (box b 21) s.heap H locs → lv_has ls 4 [(0, .ref (b + x0)), (3, .int x3)] → j51_5 w0_5 = some (a1, a2, a3) → W p l e rmX11_callsTold s m av below meth c H locs 0 0 QQ (F0 m 51 ls [.int w0_5]) := by
              intro w0_5 H locs ls hP hS  hl hf
              rw [ej_5] at hf
              try dsimp only at hf
              refine lv_istore_n (lv' := [(2, .int w0_5), (0, .ref (b + x0)), (3, .int x3)]) hx hb dX11_callsTold_51 rfl hl (Nat.le_of_ble_eq_true rfl) rfl (fun ls hl => ?_)
              refine lv_iinc (v := (x3 + (1 : Int32))) (lv' := [(3, .int (x3 + (1 : Int32))), (2, .int w0_5), (0, .ref (b + x0))]) hx hb dX11_callsTold_52 hl (k := 2) rfl rfl (Nat.le_of_ble_eq_true rfl) rfl (fun ls hl => ?_)
              refine lv_goto (tgt := 25) hx hb dX11_callsTold_55 (by decide) ?_
              exact ih x0 w0_5 (x3 + (1 : Int32)) I4 L4 R a1 a2 a3 H locs ls hP hS hT h0 (lv_sub hl [2, 1, 0] rfl) hf kx
            clear ej_5
            refine lv_icmp_eq (tgt := 50) hx hb dX11_callsTold_43 (by decide) (fun c6 => ?_) (fun c6 => ?_)
            · have hf := ifT hf c6
              refine lv_iconst (v := (0 : Int32)) hx hb dX11_callsTold_50 (by decide) ?_
              exact hJ51_5 (0 : Int32) H locs ls hP hS  (lv_sub hl [0, 2] rfl) hf
            · have hf := ifF hf c6
              refine lv_iconst (v := (1 : Int32)) hx hb dX11_callsTold_46 (by decide) ?_
              refine lv_goto (tgt := 51) hx hb dX11_callsTold_47 (by decide) ?_
              exact hJ51_5 (1 : Int32) H locs ls hP hS  (lv_sub hl [0, 2] rfl) hf
    obtain ⟨y2_7, I_7, L_7, e_7, hf⟩ := bd3_o hf
    refine lp25 FU x0 (1 : Int32) (0 : Int32) I L R y2_7 I_7 L_7 H locs ls hP hS hT h0 (lv_sub hl [2, 1, 0] rfl) e_7 (fun H locs ls hP hS hl => ?_)
    refine lv_iload_n hx hb dX11_callsTold_58 rfl (lv_at hl 0 rfl) ?_
    refine lv_if_eq (tgt := 66) hx hb dX11_callsTold_59 (by decide) (fun c8 => ?_) (fun c8 => ?_)
    · have hf := ifT hf c8
      refine lv_iconst (v := (0 : Int32)) hx hb dX11_callsTold_66 (by decide) ?_
      exact hret (0 : Int32) I_7 L_7 hf H locs ls _ dX11_callsTold_67 hP hT hS
    · have hf := ifF hf c8
      refine lv_iconst (v := (1 : Int32)) hx hb dX11_callsTold_62 (by decide) ?_
      refine lv_goto (tgt := 67) hx hb dX11_callsTold_63 (by decide) ?_
      exact hret (1 : Int32) I_7 L_7 hf H locs ls _ dX11_callsTold_67 hP hT hS
  · have hf := ifF hf c1
    refine lv_iload_n hx hb dX11_callsTold_5 rfl (lv_at hl 1 rfl) ?_
    refine lv_if_ne (tgt := 16) hx hb dX11_callsTold_6 (by decide) (fun c9 => ?_) (fun c9 => ?_)
    · have hf := ifF hf c9
      refine lv_aload_n hx hb dX11_callsTold_16 rfl (lv_at hl 0 rfl) ?_
      refine mm_geti hx hb hts hown hKK hP fk11_22 (Or.inl rfl) lkX11_210 (kdM_lt h0 (Nat.succ_ne_zero _)) h0 dX11_callsTold_17 ?_
      exact hret (I x0 22) I L hf H locs ls _ dX11_callsTold_20 hP hT hS
    · have hf := ifT hf c9
      refine lv_aload_n hx hb dX11_callsTold_9 rfl (lv_at hl 0 rfl) ?_
      refine mm_geti hx hb hts hown hKK hP fk11_18 (Or.inl rfl) lkX11_213 (kdM_lt h0 (Nat.succ_ne_zero _)) h0 dX11_callsTold_10 ?_
      refine lv_goto (tgt := 20) hx hb dX11_callsTold_13 (by decide) ?_
      exact hret (I x0 18) I L hf H locs ls _ dX11_callsTold_20 hP hT hS
