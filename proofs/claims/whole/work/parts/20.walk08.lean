def rmX11_type : Room := { frames := 1, cells := 0, slots := 0, locals := 22 }
set_option maxHeartbeats 4000000 in
set_option maxRecDepth 100000 in
theorem k_X11_type (l : Launch) (D : va_G) (ce : Nat → ClassId) (b : Nat) (I : mI) (L : mL) (R : mR) (hT : WT kdM R) (x0 : Nat) (x1 : Int32) (h0 : kdM x0 = 17) (o1 : Int32) (o2 : mI) (hf : f_X11_type x0 x1 I R = some (o1, o2)) : Met l yX11_type (Cond.code yX11_type cX11_type 2 (some .int) :: GW) rmX11_type (va_Pc [.ref (b + x0), .int x1] (PW D ce b kdM lnM 21 I L R)) (va_Qi (fun r u => r = o1 ∧ u = (o2, L, R)) (QW D ce b kdM lnM 21) (box b 21)) 0 0 (box b 21) := by
  refine Met.ofW (cc := cX11_type) (maxL := 2) (ret := (some .int)) (by decide) rfl ?_
  intro p e s m args below meth c s₁ B hml hv
  obtain ⟨rfl, hP, hKK⟩ := hv
  have hx := B.exec
  have hb := B.bytes
  have hr := B.returns
  have hts0 := atoms_spec (ws := Cond.code yX11_type cX11_type 2 (some .int) :: GW) B.pre
  have hts : ∀ w ∈ GW, w.before _ s = true := fun w h => hts0 w (List.mem_cons_of_mem _ h)
  clear hts0
  have hown : s.vm.findClass RX11 = some m.cls := findClass_of_methodNamed B.named
  have hlocks := B.notSynchronized
  have hA : ∀ q, box b 21 q → box b 21 q := fun _ h => h
  have hS : va_S (box b 21) s.heap s.heap [] := va_S.rf
  have hl := lv_entry ([.ref (b + x0), .int x1]) (n := 2) (Nat.le_of_ble_eq_true rfl)
  rw [lg_entry_eq]
  generalize (lg_sl ([.ref (b + x0), .int x1]) ++ List.replicate (2 - (lg_sl ([.ref (b + x0), .int x1])).length) Slot.unset).toArray = ls at hl ⊢
  have hl : lv_has ls 2 [(0, .ref (b + x0)), (1, .int x1)] := hl
  generalize ([.ref (b + x0), .int x1] : List Value).toArray = av at hts ⊢
  show W p l e rmX11_type s m av below meth c s.heap [] 0 0 _ _
  obtain ⟨QQ, hQQ⟩ : ∃ z, z = MQ below (va_Qi (fun r u => r = o1 ∧ u = (o2, L, R)) (QW D ce b kdM lnM 21) (box b 21)) av s 0 0 (box b 21) := ⟨_, rfl⟩
  rw [← hQQ]
  have hret : ∀ (r : Int32) (I1 : mI), some (r, I1) = some (o1, o2) → ∀ (H1 : Heap) (locs1 : List Loc) (ls1 : Array Slot) (pc1 : Nat), decode cX11_type pc1 = .ok (.ireturn, 1) → va_P D vwCl (wd ce b kdM lnM 21 I1 L R) H1 → WT kdM R → va_S (box b 21) s.heap H1 locs1 → W p l e rmX11_type s m av below meth c H1 locs1 0 0 QQ (F0 m pc1 ls1 [.int r]) := by
    intro r I1 hq H1 locs1 ls1 pc1 hd hP hT hS
    cases hq
    rw [hQQ]
    exact mm_iret hx hb hr hlocks hP hT hS hd
  unfold f_X11_type at hf
  obtain ⟨H, hH⟩ : ∃ z, z = s.heap := ⟨_, rfl⟩
  obtain ⟨locs, hlo⟩ : ∃ z : List Loc, z = [] := ⟨_, rfl⟩
  have hP : va_P D vwCl (wd ce b kdM lnM 21 I L R) H := by rw [hH]; exact hP
  have hS : va_S (box b 21) s.heap H locs := by rw [hH, hlo]; exact hS
  rw [show W p l e rmX11_type s m av below meth c s.heap [] 0 0 QQ = W p l e rmX11_type s m av below meth c H locs 0 0 QQ by rw [hH, hlo]]
  clear hH hlo
  clear hQQ
  show W p l e rmX11_type s m av below meth c H locs 0 0 QQ (F0 m 0 ls [])
  refine lv_iload_n hx hb dX11_type_0 rfl (lv_at hl 1 rfl) ?_
  refine lv_iconst (v := (0 : Int32)) hx hb dX11_type_1 (by decide) ?_
  refine lv_bipush (v := (127 : Int32)) hx hb dX11_type_2 (by decide) ?_
  obtain ⟨r1, e1, hf⟩ := bd1_o hf
  refine mm_Si (rest := []) hx hb hml hown hts hKK hP hS hA skX11_96 (k_X11_in l D ce b I L R hT x1 (0 : Int32) (127 : Int32)  r1 e1) rfl hl.1 rfl (Nat.le_of_ble_eq_true rfl) ⟨rfl, rfl⟩ ⟨Nat.le_of_ble_eq_true rfl, Nat.le_of_ble_eq_true rfl⟩ ⟨Nat.zero_le _, Nat.zero_le _⟩ dX11_type_4 (fun H locs hP hT hS => ?_)
  refine lv_if_ne (tgt := 17) hx hb dX11_type_7 (by decide) (fun c2 => ?_) (fun c2 => ?_)
  · have hf := ifF hf c2
    refine lv_aload_n hx hb dX11_type_17 rfl (lv_at hl 0 rfl) ?_
    refine mm_geti hx hb hts hown hKK hP fk11_6 (Or.inl rfl) lkX11_93 (kdM_lt h0 (Nat.succ_ne_zero _)) h0 dX11_type_18 ?_
    refine lv_bipush (v := (120 : Int32)) hx hb dX11_type_21 (by decide) ?_
    refine lv_icmp_ne (tgt := 33) hx hb dX11_type_23 (by decide) (fun c3 => ?_) (fun c3 => ?_)
    · have hf := ifF hf c3
      refine lv_aload_n hx hb dX11_type_33 rfl (lv_at hl 0 rfl) ?_
      have t4 : kdM (R x0 5) = 1 := wt hT h0 rfl
      refine mm_getr hx hb hts hown hKK hP fk11_5 (Nat.le_of_ble_eq_true rfl) lkX11_22 (kdM_lt h0 (Nat.succ_ne_zero _)) h0 (nM t4 (Nat.succ_ne_zero _)) dX11_type_34 ?_
      refine lv_aload_n hx hb dX11_type_37 rfl (lv_at hl 0 rfl) ?_
      refine mm_geti hx hb hts hown hKK hP fk11_6 (Or.inl rfl) lkX11_93 (kdM_lt h0 (Nat.succ_ne_zero _)) h0 dX11_type_38 ?_
      refine lv_iload_n hx hb dX11_type_41 rfl (lv_at hl 1 rfl) ?_
      obtain ⟨g5, hf⟩ := grd hf
      refine jnE hf (fun I6 eI6 hf => ?_)
      refine mm_iast hx hb hKK hP hA hS (kdM_lt t4 (Nat.succ_ne_zero _)) t4 g5 dX11_type_42 (fun H locs hP hS => ?_)
      rw [← eI6] at hP
      refine lv_aload_n hx hb dX11_type_43 rfl (lv_at hl 0 rfl) ?_
      refine lv_dup hx hb dX11_type_44 rfl ?_
      refine mm_geti hx hb hts hown hKK hP fk11_6 (Or.inl rfl) lkX11_93 (kdM_lt h0 (Nat.succ_ne_zero _)) h0 dX11_type_45 ?_
      refine lv_iconst (v := (1 : Int32)) hx hb dX11_type_48 (by decide) ?_
      refine lv_iadd hx hb dX11_type_49 ?_
      refine jnE hf (fun I7 eI7 hf => ?_)
      refine mm_puti hx hb hts hown hKK hP hA hS fk11_6 (Or.inl rfl) fw11_6 lkX11_93 (kdM_lt h0 (Nat.succ_ne_zero _)) h0 rfl rfl dX11_type_50 (fun H locs hP hS => ?_)
      rw [← eI7] at hP
      refine lv_aload_n hx hb dX11_type_53 rfl (lv_at hl 0 rfl) ?_
      refine mm_geti hx hb hts hown hKK hP fk11_6 (Or.inl rfl) lkX11_93 (kdM_lt h0 (Nat.succ_ne_zero _)) h0 dX11_type_54 ?_
      exact hret (I7 x0 6) I7 hf H locs ls _ dX11_type_57 hP hT hS
    · have hf := ifT hf c3
      refine lv_aload_n hx hb dX11_type_26 rfl (lv_at hl 0 rfl) ?_
      refine lv_bipush (v := (-4 : Int32)) hx hb dX11_type_27 (by decide) ?_
      obtain ⟨r8, I8, e8, hf⟩ := bd2_o hf
      refine mm_Vi (rest := []) hx hb hml hown hts hKK hP hS hA (kdM_lt h0 (Nat.succ_ne_zero _)) h0 (show vwCl[11]? = some (yX11_refuses.cls, TX11, 32) from rfl) vkX11_80 (k_X11_refuses l D ce b I L R hT x0 (-4 : Int32) h0 r8 I8 e8) rfl hl.1 rfl (Nat.le_of_ble_eq_true rfl) ⟨rfl, rfl⟩ ⟨Nat.le_of_ble_eq_true rfl, Nat.le_of_ble_eq_true rfl⟩ ⟨Nat.zero_le _, Nat.zero_le _⟩ dX11_type_29 (fun H locs hP hT hS => ?_)
      exact hret r8 I8 hf H locs ls _ dX11_type_32 hP hT hS
  · have hf := ifT hf c2
    refine lv_aload_n hx hb dX11_type_10 rfl (lv_at hl 0 rfl) ?_
    refine lv_bipush (v := (-2 : Int32)) hx hb dX11_type_11 (by decide) ?_
    obtain ⟨r9, I9, e9, hf⟩ := bd2_o hf
    refine mm_Vi (rest := []) hx hb hml hown hts hKK hP hS hA (kdM_lt h0 (Nat.succ_ne_zero _)) h0 (show vwCl[11]? = some (yX11_refuses.cls, TX11, 32) from rfl) vkX11_80 (k_X11_refuses l D ce b I L R hT x0 (-2 : Int32) h0 r9 I9 e9) rfl hl.1 rfl (Nat.le_of_ble_eq_true rfl) ⟨rfl, rfl⟩ ⟨Nat.le_of_ble_eq_true rfl, Nat.le_of_ble_eq_true rfl⟩ ⟨Nat.zero_le _, Nat.zero_le _⟩ dX11_type_13 (fun H locs hP hT hS => ?_)
    exact hret r9 I9 hf H locs ls _ dX11_type_16 hP hT hS
def rmX11_clear : Room := { frames := 0, cells := 0, slots := 0, locals := 0 }
set_option maxHeartbeats 4000000 in
set_option maxRecDepth 100000 in
theorem k_X11_clear (l : Launch) (D : va_G) (ce : Nat → ClassId) (b : Nat) (I : mI) (L : mL) (R : mR) (hT : WT kdM R) (x0 : Nat) (h0 : kdM x0 = 17) (o1 : Int32) (o2 : mI) (hf : f_X11_clear x0 I = some (o1, o2)) : Met l yX11_clear (Cond.code yX11_clear cX11_clear 2 (some .int) :: GW) rmX11_clear (va_Pc [.ref (b + x0)] (PW D ce b kdM lnM 21 I L R)) (va_Qi (fun r u => r = o1 ∧ u = (o2, L, R)) (QW D ce b kdM lnM 21) (box b 21)) 0 0 (box b 21) := by
  refine Met.ofW (cc := cX11_clear) (maxL := 2) (ret := (some .int)) (by decide) rfl ?_
  intro p e s m args below meth c s₁ B hml hv
  obtain ⟨rfl, hP, hKK⟩ := hv
  have hx := B.exec
  have hb := B.bytes
  have hr := B.returns
  have hts0 := atoms_spec (ws := Cond.code yX11_clear cX11_clear 2 (some .int) :: GW) B.pre
  have hts : ∀ w ∈ GW, w.before _ s = true := fun w h => hts0 w (List.mem_cons_of_mem _ h)
  clear hts0
  have hown : s.vm.findClass RX11 = some m.cls := findClass_of_methodNamed B.named
  have hlocks := B.notSynchronized
  have hA : ∀ q, box b 21 q → box b 21 q := fun _ h => h
  have hS : va_S (box b 21) s.heap s.heap [] := va_S.rf
  have hl := lv_entry ([.ref (b + x0)]) (n := 2) (Nat.le_of_ble_eq_true rfl)
  rw [lg_entry_eq]
  generalize (lg_sl ([.ref (b + x0)]) ++ List.replicate (2 - (lg_sl ([.ref (b + x0)])).length) Slot.unset).toArray = ls at hl ⊢
  have hl : lv_has ls 2 [(0, .ref (b + x0))] := hl
  generalize ([.ref (b + x0)] : List Value).toArray = av at hts ⊢
  show W p l e rmX11_clear s m av below meth c s.heap [] 0 0 _ _
  obtain ⟨QQ, hQQ⟩ : ∃ z, z = MQ below (va_Qi (fun r u => r = o1 ∧ u = (o2, L, R)) (QW D ce b kdM lnM 21) (box b 21)) av s 0 0 (box b 21) := ⟨_, rfl⟩
  rw [← hQQ]
  have hret : ∀ (r : Int32) (I1 : mI), some (r, I1) = some (o1, o2) → ∀ (H1 : Heap) (locs1 : List Loc) (ls1 : Array Slot) (pc1 : Nat), decode cX11_clear pc1 = .ok (.ireturn, 1) → va_P D vwCl (wd ce b kdM lnM 21 I1 L R) H1 → WT kdM R → va_S (box b 21) s.heap H1 locs1 → W p l e rmX11_clear s m av below meth c H1 locs1 0 0 QQ (F0 m pc1 ls1 [.int r]) := by
    intro r I1 hq H1 locs1 ls1 pc1 hd hP hT hS
    cases hq
    rw [hQQ]
    exact mm_iret hx hb hr hlocks hP hT hS hd
  unfold f_X11_clear at hf
  obtain ⟨H, hH⟩ : ∃ z, z = s.heap := ⟨_, rfl⟩
  obtain ⟨locs, hlo⟩ : ∃ z : List Loc, z = [] := ⟨_, rfl⟩
  have hP : va_P D vwCl (wd ce b kdM lnM 21 I L R) H := by rw [hH]; exact hP
  have hS : va_S (box b 21) s.heap H locs := by rw [hH, hlo]; exact hS
  rw [show W p l e rmX11_clear s m av below meth c s.heap [] 0 0 QQ = W p l e rmX11_clear s m av below meth c H locs 0 0 QQ by rw [hH, hlo]]
  clear hH hlo
  clear hQQ
  show W p l e rmX11_clear s m av below meth c H locs 0 0 QQ (F0 m 0 ls [])
  refine lv_aload_n hx hb dX11_clear_0 rfl (lv_at hl 0 rfl) ?_
  refine mm_geti hx hb hts hown hKK hP fk11_6 (Or.inl rfl) lkX11_93 (kdM_lt h0 (Nat.succ_ne_zero _)) h0 dX11_clear_1 ?_
  refine lv_istore_n (lv' := [(1, .int (I x0 6)), (0, .ref (b + x0))]) hx hb dX11_clear_4 rfl hl (Nat.le_of_ble_eq_true rfl) rfl (fun ls hl => ?_)
  refine lv_aload_n hx hb dX11_clear_5 rfl (lv_at hl 1 rfl) ?_
  refine lv_iconst (v := (0 : Int32)) hx hb dX11_clear_6 (by decide) ?_
  refine jnE hf (fun I1 eI1 hf => ?_)
  refine mm_puti hx hb hts hown hKK hP hA hS fk11_6 (Or.inl rfl) fw11_6 lkX11_93 (kdM_lt h0 (Nat.succ_ne_zero _)) h0 rfl rfl dX11_clear_7 (fun H locs hP hS => ?_)
  rw [← eI1] at hP
  refine lv_iload_n hx hb dX11_clear_10 rfl (lv_at hl 0 rfl) ?_
  exact hret (I x0 6) I1 hf H locs ls _ dX11_clear_11 hP hT hS
def rmX11_reads : Room := { frames := 5, cells := 0, slots := 0, locals := 112 }
set_option maxHeartbeats 4000000 in
set_option maxRecDepth 100000 in
theorem k_X11_reads (l : Launch) (D : va_G) (ce : Nat → ClassId) (b : Nat) (I : mI) (L : mL) (R : mR) (hT : WT kdM R) (x0 : Nat) (h0 : kdM x0 = 17) (o1 : Int32) (o2 : mI) (hf : f_X11_reads x0 I R = some (o1, o2)) : Met l yX11_reads (Cond.code yX11_reads cX11_reads 2 (some .int) :: GW) rmX11_reads (va_Pc [.ref (b + x0)] (PW D ce b kdM lnM 21 I L R)) (va_Qi (fun r u => r = o1 ∧ u = (o2, L, R)) (QW D ce b kdM lnM 21) (box b 21)) 0 0 (box b 21) := by
  refine Met.ofW (cc := cX11_reads) (maxL := 2) (ret := (some .int)) (by decide) rfl ?_
  intro p e s m args below meth c s₁ B hml hv
  obtain ⟨rfl, hP, hKK⟩ := hv
  have hx := B.exec
  have hb := B.bytes
  have hr := B.returns
  have hts0 := atoms_spec (ws := Cond.code yX11_reads cX11_reads 2 (some .int) :: GW) B.pre
  have hts : ∀ w ∈ GW, w.before _ s = true := fun w h => hts0 w (List.mem_cons_of_mem _ h)
  clear hts0
  have hown : s.vm.findClass RX11 = some m.cls := findClass_of_methodNamed B.named
  have hlocks := B.notSynchronized
  have hA : ∀ q, box b 21 q → box b 21 q := fun _ h => h
  have hS : va_S (box b 21) s.heap s.heap [] := va_S.rf
  have hl := lv_entry ([.ref (b + x0)]) (n := 2) (Nat.le_of_ble_eq_true rfl)
  rw [lg_entry_eq]
  generalize (lg_sl ([.ref (b + x0)]) ++ List.replicate (2 - (lg_sl ([.ref (b + x0)])).length) Slot.unset).toArray = ls at hl ⊢
  have hl : lv_has ls 2 [(0, .ref (b + x0))] := hl
  generalize ([.ref (b + x0)] : List Value).toArray = av at hts ⊢
  show W p l e rmX11_reads s m av below meth c s.heap [] 0 0 _ _
  obtain ⟨QQ, hQQ⟩ : ∃ z, z = MQ below (va_Qi (fun r u => r = o1 ∧ u = (o2, L, R)) (QW D ce b kdM lnM 21) (box b 21)) av s 0 0 (box b 21) := ⟨_, rfl⟩
  rw [← hQQ]
  have hret : ∀ (r : Int32) (I1 : mI), some (r, I1) = some (o1, o2) → ∀ (H1 : Heap) (locs1 : List Loc) (ls1 : Array Slot) (pc1 : Nat), decode cX11_reads pc1 = .ok (.ireturn, 1) → va_P D vwCl (wd ce b kdM lnM 21 I1 L R) H1 → WT kdM R → va_S (box b 21) s.heap H1 locs1 → W p l e rmX11_reads s m av below meth c H1 locs1 0 0 QQ (F0 m pc1 ls1 [.int r]) := by
    intro r I1 hq H1 locs1 ls1 pc1 hd hP hT hS
    cases hq
    rw [hQQ]
    exact mm_iret hx hb hr hlocks hP hT hS hd
  unfold f_X11_reads at hf
  obtain ⟨H, hH⟩ : ∃ z, z = s.heap := ⟨_, rfl⟩
  obtain ⟨locs, hlo⟩ : ∃ z : List Loc, z = [] := ⟨_, rfl⟩
  have hP : va_P D vwCl (wd ce b kdM lnM 21 I L R) H := by rw [hH]; exact hP
  have hS : va_S (box b 21) s.heap H locs := by rw [hH, hlo]; exact hS
  rw [show W p l e rmX11_reads s m av below meth c s.heap [] 0 0 QQ = W p l e rmX11_reads s m av below meth c H locs 0 0 QQ by rw [hH, hlo]]
  clear hH hlo
  clear hQQ
  show W p l e rmX11_reads s m av below meth c H locs 0 0 QQ (F0 m 0 ls [])
  refine lv_aload_n hx hb dX11_reads_0 rfl (lv_at hl 0 rfl) ?_
  obtain ⟨r1, I1, e1, hf⟩ := bd2_o hf
  refine mm_Vi (rest := []) hx hb hml hown hts hKK hP hS hA (kdM_lt h0 (Nat.succ_ne_zero _)) h0 (show vwCl[11]? = some (yX11_readsRules.cls, TX11, 32) from rfl) vkX11_138 (k_X11_readsRules l D ce b I L R hT x0 h0 r1 I1 e1) rfl hl.1 rfl (Nat.le_of_ble_eq_true rfl) ⟨rfl, rfl⟩ ⟨Nat.le_of_ble_eq_true rfl, Nat.le_of_ble_eq_true rfl⟩ ⟨Nat.zero_le _, Nat.zero_le _⟩ dX11_reads_1 (fun H locs hP hT hS => ?_)
  refine lv_istore_n (lv' := [(1, .int r1), (0, .ref (b + x0))]) hx hb dX11_reads_4 rfl hl (Nat.le_of_ble_eq_true rfl) rfl (fun ls hl => ?_)
  refine lv_iload_n hx hb dX11_reads_5 rfl (lv_at hl 0 rfl) ?_
  refine lv_iconst (v := (-1 : Int32)) hx hb dX11_reads_6 (by decide) ?_
  refine lv_icmp_eq (tgt := 15) hx hb dX11_reads_7 (by decide) (fun c2 => ?_) (fun c2 => ?_)
  · have hf := ifT hf c2
    refine lv_aload_n hx hb dX11_reads_15 rfl (lv_at hl 1 rfl) ?_
    obtain ⟨I3, e3, hf⟩ := bd1_o hf
    refine mm_Vv (rest := []) hx hb hml hown hts hKK hP hS hA (kdM_lt h0 (Nat.succ_ne_zero _)) h0 (show vwCl[11]? = some (yX11_remembers.cls, TX11, 32) from rfl) vkX11_142 (k_X11_remembers l D ce b I1 L R hT x0 h0 I3 e3) rfl hl.1 rfl (Nat.le_of_ble_eq_true rfl) ⟨rfl, rfl⟩ ⟨Nat.le_of_ble_eq_true rfl, Nat.le_of_ble_eq_true rfl⟩ ⟨Nat.zero_le _, Nat.zero_le _⟩ dX11_reads_16 (fun H locs hP hT hS => ?_)
    refine lv_aload_n hx hb dX11_reads_19 rfl (lv_at hl 1 rfl) ?_
    have t4 : kdM (R x0 1) = 1 := wt hT h0 rfl
    refine mm_getr hx hb hts hown hKK hP fk11_1 (Nat.le_of_ble_eq_true rfl) lkX11_13 (kdM_lt h0 (Nat.succ_ne_zero _)) h0 (nM t4 (Nat.succ_ne_zero _)) dX11_reads_20 ?_
    refine lv_iconst (v := (0 : Int32)) hx hb dX11_reads_23 (by decide) ?_
    refine lv_aload_n hx hb dX11_reads_24 rfl (lv_at hl 1 rfl) ?_
    have t5 : kdM (R x0 0) = 1 := wt hT h0 rfl
    refine mm_getr hx hb hts hown hKK hP fk11_0 (Nat.le_of_ble_eq_true rfl) lkX11_7 (kdM_lt h0 (Nat.succ_ne_zero _)) h0 (nM t5 (Nat.succ_ne_zero _)) dX11_reads_25 ?_
    refine lv_iconst (v := (0 : Int32)) hx hb dX11_reads_28 (by decide) ?_
    obtain ⟨I6, e6, hf⟩ := bd1_o hf
    refine mm_Sv (rest := []) hx hb hml hown hts hKK hP hS hA skX11_76 (k_X11_copies l D ce b I3 L R hT (R x0 1) (0 : Int32) (R x0 0) (0 : Int32) t4 t5 I6 e6) rfl hl.1 rfl (Nat.le_of_ble_eq_true rfl) ⟨rfl, rfl⟩ ⟨Nat.le_of_ble_eq_true rfl, Nat.le_of_ble_eq_true rfl⟩ ⟨Nat.zero_le _, Nat.zero_le _⟩ dX11_reads_29 (fun H locs hP hT hS => ?_)
    refine lv_aload_n hx hb dX11_reads_32 rfl (lv_at hl 1 rfl) ?_
    refine mm_getr hx hb hts hown hKK hP fk11_0 (Nat.le_of_ble_eq_true rfl) lkX11_7 (kdM_lt h0 (Nat.succ_ne_zero _)) h0 (nM t5 (Nat.succ_ne_zero _)) dX11_reads_33 ?_
    refine lv_iconst (v := (0 : Int32)) hx hb dX11_reads_36 (by decide) ?_
    obtain ⟨g7, hf⟩ := grd hf
    refine mm_iald hx hb hKK hP (kdM_lt t5 (Nat.succ_ne_zero _)) t5 g7 dX11_reads_37 ?_
    exact hret (I6 (R x0 0) ((0 : Int32)).toNatClampNeg) I6 hf H locs ls _ dX11_reads_38 hP hT hS
  · have hf := ifF hf c2
    refine lv_bipush (v := (-10 : Int32)) hx hb dX11_reads_10 (by decide) ?_
    refine lv_iload_n hx hb dX11_reads_12 rfl (lv_at hl 0 rfl) ?_
    refine lv_isub hx hb dX11_reads_13 ?_
    exact hret ((-10 : Int32) - r1) I1 hf H locs ls _ dX11_reads_14 hP hT hS
def rmX11_term : Room := { frames := 4, cells := 0, slots := 0, locals := 89 }
set_option maxHeartbeats 4000000 in
set_option maxRecDepth 100000 in
theorem k_X11_term (l : Launch) (D : va_G) (ce : Nat → ClassId) (b : Nat) (I : mI) (L : mL) (R : mR) (hT : WT kdM R) (x0 : Nat) (h0 : kdM x0 = 17) (o1 : Int32) (o2 : mI) (hf : f_X11_term x0 I R = some (o1, o2)) : Met l yX11_term (Cond.code yX11_term cX11_term 2 (some .int) :: GW) rmX11_term (va_Pc [.ref (b + x0)] (PW D ce b kdM lnM 21 I L R)) (va_Qi (fun r u => r = o1 ∧ u = (o2, L, R)) (QW D ce b kdM lnM 21) (box b 21)) 0 0 (box b 21) := by
  refine Met.ofW (cc := cX11_term) (maxL := 2) (ret := (some .int)) (by decide) rfl ?_
  intro p e s m args below meth c s₁ B hml hv
  obtain ⟨rfl, hP, hKK⟩ := hv
  have hx := B.exec
  have hb := B.bytes
  have hr := B.returns
  have hts0 := atoms_spec (ws := Cond.code yX11_term cX11_term 2 (some .int) :: GW) B.pre
  have hts : ∀ w ∈ GW, w.before _ s = true := fun w h => hts0 w (List.mem_cons_of_mem _ h)
  clear hts0
  have hown : s.vm.findClass RX11 = some m.cls := findClass_of_methodNamed B.named
  have hlocks := B.notSynchronized
  have hA : ∀ q, box b 21 q → box b 21 q := fun _ h => h
  have hS : va_S (box b 21) s.heap s.heap [] := va_S.rf
  have hl := lv_entry ([.ref (b + x0)]) (n := 2) (Nat.le_of_ble_eq_true rfl)
  rw [lg_entry_eq]
  generalize (lg_sl ([.ref (b + x0)]) ++ List.replicate (2 - (lg_sl ([.ref (b + x0)])).length) Slot.unset).toArray = ls at hl ⊢
  have hl : lv_has ls 2 [(0, .ref (b + x0))] := hl
  generalize ([.ref (b + x0)] : List Value).toArray = av at hts ⊢
  show W p l e rmX11_term s m av below meth c s.heap [] 0 0 _ _
  obtain ⟨QQ, hQQ⟩ : ∃ z, z = MQ below (va_Qi (fun r u => r = o1 ∧ u = (o2, L, R)) (QW D ce b kdM lnM 21) (box b 21)) av s 0 0 (box b 21) := ⟨_, rfl⟩
  rw [← hQQ]
  have hret : ∀ (r : Int32) (I1 : mI), some (r, I1) = some (o1, o2) → ∀ (H1 : Heap) (locs1 : List Loc) (ls1 : Array Slot) (pc1 : Nat), decode cX11_term pc1 = .ok (.ireturn, 1) → va_P D vwCl (wd ce b kdM lnM 21 I1 L R) H1 → WT kdM R → va_S (box b 21) s.heap H1 locs1 → W p l e rmX11_term s m av below meth c H1 locs1 0 0 QQ (F0 m pc1 ls1 [.int r]) := by
    intro r I1 hq H1 locs1 ls1 pc1 hd hP hT hS
    cases hq
    rw [hQQ]
    exact mm_iret hx hb hr hlocks hP hT hS hd
  unfold f_X11_term at hf
  obtain ⟨H, hH⟩ : ∃ z, z = s.heap := ⟨_, rfl⟩
  obtain ⟨locs, hlo⟩ : ∃ z : List Loc, z = [] := ⟨_, rfl⟩
  have hP : va_P D vwCl (wd ce b kdM lnM 21 I L R) H := by rw [hH]; exact hP
  have hS : va_S (box b 21) s.heap H locs := by rw [hH, hlo]; exact hS
  rw [show W p l e rmX11_term s m av below meth c s.heap [] 0 0 QQ = W p l e rmX11_term s m av below meth c H locs 0 0 QQ by rw [hH, hlo]]
  clear hH hlo
  clear hQQ
  show W p l e rmX11_term s m av below meth c H locs 0 0 QQ (F0 m 0 ls [])
  refine lv_aload_n hx hb dX11_term_0 rfl (lv_at hl 0 rfl) ?_
  obtain ⟨r1, I1, e1, hf⟩ := bd2_o hf
  refine mm_Vi (rest := []) hx hb hml hown hts hKK hP hS hA (kdM_lt h0 (Nat.succ_ne_zero _)) h0 (show vwCl[11]? = some (yX11_readsTerm.cls, TX11, 32) from rfl) vkX11_145 (k_X11_readsTerm l D ce b I L R hT x0 h0 r1 I1 e1) rfl hl.1 rfl (Nat.le_of_ble_eq_true rfl) ⟨rfl, rfl⟩ ⟨Nat.le_of_ble_eq_true rfl, Nat.le_of_ble_eq_true rfl⟩ ⟨Nat.zero_le _, Nat.zero_le _⟩ dX11_term_1 (fun H locs hP hT hS => ?_)
  refine lv_istore_n (lv' := [(1, .int r1), (0, .ref (b + x0))]) hx hb dX11_term_4 rfl hl (Nat.le_of_ble_eq_true rfl) rfl (fun ls hl => ?_)
  refine lv_iload_n hx hb dX11_term_5 rfl (lv_at hl 0 rfl) ?_
  refine lv_iconst (v := (-1 : Int32)) hx hb dX11_term_6 (by decide) ?_
  refine lv_icmp_eq (tgt := 15) hx hb dX11_term_7 (by decide) (fun c2 => ?_) (fun c2 => ?_)
  · have hf := ifT hf c2
    refine lv_aload_n hx hb dX11_term_15 rfl (lv_at hl 1 rfl) ?_
    obtain ⟨I3, e3, hf⟩ := bd1_o hf
    refine mm_Vv (rest := []) hx hb hml hown hts hKK hP hS hA (kdM_lt h0 (Nat.succ_ne_zero _)) h0 (show vwCl[11]? = some (yX11_remembers.cls, TX11, 32) from rfl) vkX11_142 (k_X11_remembers l D ce b I1 L R hT x0 h0 I3 e3) rfl hl.1 rfl (Nat.le_of_ble_eq_true rfl) ⟨rfl, rfl⟩ ⟨Nat.le_of_ble_eq_true rfl, Nat.le_of_ble_eq_true rfl⟩ ⟨Nat.zero_le _, Nat.zero_le _⟩ dX11_term_16 (fun H locs hP hT hS => ?_)
    refine lv_aload_n hx hb dX11_term_19 rfl (lv_at hl 1 rfl) ?_
    have t4 : kdM (R x0 1) = 1 := wt hT h0 rfl
    refine mm_getr hx hb hts hown hKK hP fk11_1 (Nat.le_of_ble_eq_true rfl) lkX11_13 (kdM_lt h0 (Nat.succ_ne_zero _)) h0 (nM t4 (Nat.succ_ne_zero _)) dX11_term_20 ?_
    refine lv_iconst (v := (0 : Int32)) hx hb dX11_term_23 (by decide) ?_
    refine lv_aload_n hx hb dX11_term_24 rfl (lv_at hl 1 rfl) ?_
    have t5 : kdM (R x0 0) = 1 := wt hT h0 rfl
    refine mm_getr hx hb hts hown hKK hP fk11_0 (Nat.le_of_ble_eq_true rfl) lkX11_7 (kdM_lt h0 (Nat.succ_ne_zero _)) h0 (nM t5 (Nat.succ_ne_zero _)) dX11_term_25 ?_
    refine lv_iconst (v := (0 : Int32)) hx hb dX11_term_28 (by decide) ?_
    obtain ⟨I6, e6, hf⟩ := bd1_o hf
    refine mm_Sv (rest := []) hx hb hml hown hts hKK hP hS hA skX11_76 (k_X11_copies l D ce b I3 L R hT (R x0 1) (0 : Int32) (R x0 0) (0 : Int32) t4 t5 I6 e6) rfl hl.1 rfl (Nat.le_of_ble_eq_true rfl) ⟨rfl, rfl⟩ ⟨Nat.le_of_ble_eq_true rfl, Nat.le_of_ble_eq_true rfl⟩ ⟨Nat.zero_le _, Nat.zero_le _⟩ dX11_term_29 (fun H locs hP hT hS => ?_)
    refine lv_aload_n hx hb dX11_term_32 rfl (lv_at hl 1 rfl) ?_
    refine mm_getr hx hb hts hown hKK hP fk11_0 (Nat.le_of_ble_eq_true rfl) lkX11_7 (kdM_lt h0 (Nat.succ_ne_zero _)) h0 (nM t5 (Nat.succ_ne_zero _)) dX11_term_33 ?_
    refine lv_sipush (v := (131 : Int32)) hx hb dX11_term_36 (by decide) ?_
    obtain ⟨g7, hf⟩ := grd hf
    refine mm_iald hx hb hKK hP (kdM_lt t5 (Nat.succ_ne_zero _)) t5 g7 dX11_term_39 ?_
    exact hret (I6 (R x0 0) ((131 : Int32)).toNatClampNeg) I6 hf H locs ls _ dX11_term_40 hP hT hS
  · have hf := ifF hf c2
    refine lv_bipush (v := (-10 : Int32)) hx hb dX11_term_10 (by decide) ?_
    refine lv_iload_n hx hb dX11_term_12 rfl (lv_at hl 0 rfl) ?_
    refine lv_isub hx hb dX11_term_13 ?_
    exact hret ((-10 : Int32) - r1) I1 hf H locs ls _ dX11_term_14 hP hT hS
def rmX11_isRule : Room := { frames := 1, cells := 0, slots := 0, locals := 22 }
set_option maxHeartbeats 4000000 in
set_option maxRecDepth 100000 in
theorem k_X11_isRule (l : Launch) (D : va_G) (ce : Nat → ClassId) (b : Nat) (I : mI) (L : mL) (R : mR) (hT : WT kdM R) (x0 : Nat) (x1 : Int32) (h0 : kdM x0 = 17) (o1 : Int32) (hf : f_X11_isRule x0 x1 I R = some o1) : Met l yX11_isRule (Cond.code yX11_isRule cX11_isRule 2 (some .boolean) :: GW) rmX11_isRule (va_Pc [.ref (b + x0), .int x1] (PW D ce b kdM lnM 21 I L R)) (va_Qi (fun r u => r = o1 ∧ u = (I, L, R)) (QW D ce b kdM lnM 21) (box b 21)) 0 0 (box b 21) := by
  refine Met.ofW (cc := cX11_isRule) (maxL := 2) (ret := (some .boolean)) (by decide) rfl ?_
  intro p e s m args below meth c s₁ B hml hv
  obtain ⟨rfl, hP, hKK⟩ := hv
  have hx := B.exec
  have hb := B.bytes
  have hr := B.returns
  have hts0 := atoms_spec (ws := Cond.code yX11_isRule cX11_isRule 2 (some .boolean) :: GW) B.pre
  have hts : ∀ w ∈ GW, w.before _ s = true := fun w h => hts0 w (List.mem_cons_of_mem _ h)
  clear hts0
  have hown : s.vm.findClass RX11 = some m.cls := findClass_of_methodNamed B.named
  have hlocks := B.notSynchronized
  have hA : ∀ q, box b 21 q → box b 21 q := fun _ h => h
  have hS : va_S (box b 21) s.heap s.heap [] := va_S.rf
  have hl := lv_entry ([.ref (b + x0), .int x1]) (n := 2) (Nat.le_of_ble_eq_true rfl)
  rw [lg_entry_eq]
  generalize (lg_sl ([.ref (b + x0), .int x1]) ++ List.replicate (2 - (lg_sl ([.ref (b + x0), .int x1])).length) Slot.unset).toArray = ls at hl ⊢
  have hl : lv_has ls 2 [(0, .ref (b + x0)), (1, .int x1)] := hl
  generalize ([.ref (b + x0), .int x1] : List Value).toArray = av at hts ⊢
  show W p l e rmX11_isRule s m av below meth c s.heap [] 0 0 _ _
  obtain ⟨QQ, hQQ⟩ : ∃ z, z = MQ below (va_Qi (fun r u => r = o1 ∧ u = (I, L, R)) (QW D ce b kdM lnM 21) (box b 21)) av s 0 0 (box b 21) := ⟨_, rfl⟩
  rw [← hQQ]
  have hret : ∀ (r : Int32), some r = some o1 → ∀ (H1 : Heap) (locs1 : List Loc) (ls1 : Array Slot) (pc1 : Nat), decode cX11_isRule pc1 = .ok (.ireturn, 1) → zb r = true → va_P D vwCl (wd ce b kdM lnM 21 I L R) H1 → WT kdM R → va_S (box b 21) s.heap H1 locs1 → W p l e rmX11_isRule s m av below meth c H1 locs1 0 0 QQ (F0 m pc1 ls1 [.int r]) := by
    intro r hq H1 locs1 ls1 pc1 hd hz hP hT hS
    cases hq
    rw [hQQ]
    exact mm_zret hx hb hr hlocks hz hP hT hS hd
  unfold f_X11_isRule at hf
  obtain ⟨H, hH⟩ : ∃ z, z = s.heap := ⟨_, rfl⟩
  obtain ⟨locs, hlo⟩ : ∃ z : List Loc, z = [] := ⟨_, rfl⟩
  have hP : va_P D vwCl (wd ce b kdM lnM 21 I L R) H := by rw [hH]; exact hP
  have hS : va_S (box b 21) s.heap H locs := by rw [hH, hlo]; exact hS
  rw [show W p l e rmX11_isRule s m av below meth c s.heap [] 0 0 QQ = W p l e rmX11_isRule s m av below meth c H locs 0 0 QQ by rw [hH, hlo]]
  clear hH hlo
  clear hQQ
  show W p l e rmX11_isRule s m av below meth c H locs 0 0 QQ (F0 m 0 ls [])
  refine lv_iload_n hx hb dX11_isRule_0 rfl (lv_at hl 1 rfl) ?_
  refine lv_iconst (v := (0 : Int32)) hx hb dX11_isRule_1 (by decide) ?_
  refine lv_aload_n hx hb dX11_isRule_2 rfl (lv_at hl 0 rfl) ?_
  have t1 : kdM (R x0 0) = 1 := wt hT h0 rfl
  refine mm_getr hx hb hts hown hKK hP fk11_0 (Nat.le_of_ble_eq_true rfl) lkX11_7 (kdM_lt h0 (Nat.succ_ne_zero _)) h0 (nM t1 (Nat.succ_ne_zero _)) dX11_isRule_3 ?_
  refine lv_iconst (v := (0 : Int32)) hx hb dX11_isRule_6 (by decide) ?_
  obtain ⟨g2, hf⟩ := grd hf
  refine mm_iald hx hb hKK hP (kdM_lt t1 (Nat.succ_ne_zero _)) t1 g2 dX11_isRule_7 ?_
  refine lv_iconst (v := (1 : Int32)) hx hb dX11_isRule_8 (by decide) ?_
  refine lv_isub hx hb dX11_isRule_9 ?_
  obtain ⟨r3, e3, hf⟩ := bd1_o hf
  refine mm_Si (rest := []) hx hb hml hown hts hKK hP hS hA skX11_96 (k_X11_in l D ce b I L R hT x1 (0 : Int32) ((I (R x0 0) ((0 : Int32)).toNatClampNeg) - (1 : Int32))  r3 e3) rfl hl.1 rfl (Nat.le_of_ble_eq_true rfl) ⟨rfl, rfl⟩ ⟨Nat.le_of_ble_eq_true rfl, Nat.le_of_ble_eq_true rfl⟩ ⟨Nat.zero_le _, Nat.zero_le _⟩ dX11_isRule_10 (fun H locs hP hT hS => ?_)
  obtain ⟨g4, hf⟩ := grd hf
  exact hret r3 hf H locs ls _ dX11_isRule_13 g4 hP hT hS
def rmX11_movesRule : Room := { frames := 0, cells := 0, slots := 0, locals := 0 }
set_option maxHeartbeats 4000000 in
set_option maxRecDepth 100000 in
theorem k_X11_movesRule (l : Launch) (D : va_G) (ce : Nat → ClassId) (b : Nat) (I : mI) (L : mL) (R : mR) (hT : WT kdM R) (x0 : Nat) (x1 : Int32) (x2 : Int32) (h0 : kdM x0 = 17) (o1 : mI) (hf : f_X11_movesRule x0 x1 x2 I R = some o1) : Met l yX11_movesRule (Cond.code yX11_movesRule cX11_movesRule 4 none :: GW) rmX11_movesRule (va_Pc [.ref (b + x0), .int x1, .int x2] (PW D ce b kdM lnM 21 I L R)) (va_Qv (fun u => u = (o1, L, R)) (QW D ce b kdM lnM 21) (box b 21)) 0 0 (box b 21) := by
  refine Met.ofW (cc := cX11_movesRule) (maxL := 4) (ret := none) (by decide) rfl ?_
  intro p e s m args below meth c s₁ B hml hv
  obtain ⟨rfl, hP, hKK⟩ := hv
  have hx := B.exec
  have hb := B.bytes
  have hr := B.returns
  have hts0 := atoms_spec (ws := Cond.code yX11_movesRule cX11_movesRule 4 none :: GW) B.pre
  have hts : ∀ w ∈ GW, w.before _ s = true := fun w h => hts0 w (List.mem_cons_of_mem _ h)
  clear hts0
  have hown : s.vm.findClass RX11 = some m.cls := findClass_of_methodNamed B.named
  have hlocks := B.notSynchronized
  have hA : ∀ q, box b 21 q → box b 21 q := fun _ h => h
  have hS : va_S (box b 21) s.heap s.heap [] := va_S.rf
  have hl := lv_entry ([.ref (b + x0), .int x1, .int x2]) (n := 4) (Nat.le_of_ble_eq_true rfl)
  rw [lg_entry_eq]
  generalize (lg_sl ([.ref (b + x0), .int x1, .int x2]) ++ List.replicate (4 - (lg_sl ([.ref (b + x0), .int x1, .int x2])).length) Slot.unset).toArray = ls at hl ⊢
  have hl : lv_has ls 4 [(0, .ref (b + x0)), (1, .int x1), (2, .int x2)] := hl
  generalize ([.ref (b + x0), .int x1, .int x2] : List Value).toArray = av at hts ⊢
  show W p l e rmX11_movesRule s m av below meth c s.heap [] 0 0 _ _
  obtain ⟨QQ, hQQ⟩ : ∃ z, z = MQ below (va_Qv (fun u => u = (o1, L, R)) (QW D ce b kdM lnM 21) (box b 21)) av s 0 0 (box b 21) := ⟨_, rfl⟩
  rw [← hQQ]
  have hret : ∀ (I1 : mI), some I1 = some o1 → ∀ (H1 : Heap) (locs1 : List Loc) (ls1 : Array Slot) (pc1 : Nat), decode cX11_movesRule pc1 = .ok (.return_, 1) → va_P D vwCl (wd ce b kdM lnM 21 I1 L R) H1 → WT kdM R → va_S (box b 21) s.heap H1 locs1 → W p l e rmX11_movesRule s m av below meth c H1 locs1 0 0 QQ (F0 m pc1 ls1 []) := by
    intro I1 hq H1 locs1 ls1 pc1 hd hP hT hS
    cases hq
    rw [hQQ]
    exact mm_vret hx hb hr hlocks hP hT hS hd
  unfold f_X11_movesRule at hf
  obtain ⟨H, hH⟩ : ∃ z, z = s.heap := ⟨_, rfl⟩
  obtain ⟨locs, hlo⟩ : ∃ z : List Loc, z = [] := ⟨_, rfl⟩
  have hP : va_P D vwCl (wd ce b kdM lnM 21 I L R) H := by rw [hH]; exact hP
  have hS : va_S (box b 21) s.heap H locs := by rw [hH, hlo]; exact hS
  rw [show W p l e rmX11_movesRule s m av below meth c s.heap [] 0 0 QQ = W p l e rmX11_movesRule s m av below meth c H locs 0 0 QQ by rw [hH, hlo]]
  clear hH hlo
  clear hQQ
  show W p l e rmX11_movesRule s m av below meth c H locs 0 0 QQ (F0 m 0 ls [])
  refine lv_iconst (v := (0 : Int32)) hx hb dX11_movesRule_0 (by decide) ?_
  refine lv_istore_n (lv' := [(3, .int (0 : Int32)), (0, .ref (b + x0)), (1, .int x1), (2, .int x2)]) hx hb dX11_movesRule_1 rfl hl (Nat.le_of_ble_eq_true rfl) rfl (fun ls hl => ?_)
  have lp2 : ∀ (n : Nat) (x0 : Nat) (x1 : Int32) (x2 : Int32) (x3 : Int32) (I : mI) (L : mL) (R : mR) (a1 : mI) (H : Heap) (locs : List Loc) (ls : Array Slot), va_P D vwCl (wd ce b kdM lnM 21 I L R) H → va_S (box b 21) s.heap H locs → WT kdM R → kdM x0 = 17 → lv_has ls 4 [(0, .ref (b + x0)), (1, .int x1), (2, .int x2), (3, .int x3)] → f_X11_movesRule_L2 n x0 x1 x2 x3 I R = some a1 → (∀ (H1 : Heap) (locs1 : List Loc) (ls1 : Array Slot), va_P D vwCl (wd ce b kdM lnM 21 a1 L R) H1 → va_S (box b 21) s.heap H1 locs1 → lv_has ls1 4 [] → W p l e rmX11_movesRule s m av below meth c H1 locs1 0 0 QQ (F0 m 40 ls1 [])) → W p l e rmX11_movesRule s m av below meth c H locs 0 0 QQ (F0 m 2 ls []) := by
    intro n
    induction n with
    | zero =>
      intro x0 x1 x2 x3 I L R a1 H locs ls hP hS hT h0 hl hf kx
      exact absurd (show (none : Option (mI)) = some _ from hf) (by simp)
    | succ n ih =>
      intro x0 x1 x2 x3 I L R a1 H locs ls hP hS hT h0 hl hf kx
      rw [f_X11_movesRule_L2] at hf
      refine lv_iload_n hx hb dX11_movesRule_2 rfl (lv_at hl 3 rfl) ?_
      refine lv_bipush (v := (26 : Int32)) hx hb dX11_movesRule_3 (by decide) ?_
      refine lv_icmp_ge (tgt := 40) hx hb dX11_movesRule_5 (by decide) (fun c1 => ?_) (fun c1 => ?_)
      · have hf := ifT hf c1
        cases hf
        exact kx H locs ls hP hS (lv_sub hl [] rfl)
      · have hf := ifF hf c1
        refine lv_aload_n hx hb dX11_movesRule_8 rfl (lv_at hl 0 rfl) ?_
        have t2 : kdM (R x0 0) = 1 := wt hT h0 rfl
        refine mm_getr hx hb hts hown hKK hP fk11_0 (Nat.le_of_ble_eq_true rfl) lkX11_7 (kdM_lt h0 (Nat.succ_ne_zero _)) h0 (nM t2 (Nat.succ_ne_zero _)) dX11_movesRule_9 ?_
        refine lv_iconst (v := (1 : Int32)) hx hb dX11_movesRule_12 (by decide) ?_
        refine lv_bipush (v := (26 : Int32)) hx hb dX11_movesRule_13 (by decide) ?_
        refine lv_iload_n hx hb dX11_movesRule_15 rfl (lv_at hl 2 rfl) ?_
        refine lv_imul hx hb dX11_movesRule_16 ?_
        refine lv_iadd hx hb dX11_movesRule_17 ?_
        refine lv_iload_n hx hb dX11_movesRule_18 rfl (lv_at hl 3 rfl) ?_
        refine lv_iadd hx hb dX11_movesRule_19 ?_
        refine lv_aload_n hx hb dX11_movesRule_20 rfl (lv_at hl 0 rfl) ?_
        refine mm_getr hx hb hts hown hKK hP fk11_0 (Nat.le_of_ble_eq_true rfl) lkX11_7 (kdM_lt h0 (Nat.succ_ne_zero _)) h0 (nM t2 (Nat.succ_ne_zero _)) dX11_movesRule_21 ?_
        refine lv_iconst (v := (1 : Int32)) hx hb dX11_movesRule_24 (by decide) ?_
        refine lv_bipush (v := (26 : Int32)) hx hb dX11_movesRule_25 (by decide) ?_
        refine lv_iload_n hx hb dX11_movesRule_27 rfl (lv_at hl 1 rfl) ?_
        refine lv_imul hx hb dX11_movesRule_28 ?_
        refine lv_iadd hx hb dX11_movesRule_29 ?_
        refine lv_iload_n hx hb dX11_movesRule_30 rfl (lv_at hl 3 rfl) ?_
        refine lv_iadd hx hb dX11_movesRule_31 ?_
        obtain ⟨g3, hf⟩ := grd hf
        refine mm_iald hx hb hKK hP (kdM_lt t2 (Nat.succ_ne_zero _)) t2 g3 dX11_movesRule_32 ?_
        obtain ⟨g4, hf⟩ := grd hf
        refine jnE hf (fun I5 eI5 hf => ?_)
        refine mm_iast hx hb hKK hP hA hS (kdM_lt t2 (Nat.succ_ne_zero _)) t2 g4 dX11_movesRule_33 (fun H locs hP hS => ?_)
        rw [← eI5] at hP
        refine lv_iinc (v := (x3 + (1 : Int32))) (lv' := [(3, .int (x3 + (1 : Int32))), (0, .ref (b + x0)), (1, .int x1), (2, .int x2)]) hx hb dX11_movesRule_34 hl (k := 3) rfl rfl (Nat.le_of_ble_eq_true rfl) rfl (fun ls hl => ?_)
        refine lv_goto (tgt := 2) hx hb dX11_movesRule_37 (by decide) ?_
        exact ih x0 x1 x2 (x3 + (1 : Int32)) I5 L R a1 H locs ls hP hS hT h0 (lv_sub hl [1, 2, 3, 0] rfl) hf kx
  obtain ⟨I_6, e_6, hf⟩ := bd1_o hf
  refine lp2 FU x0 x1 x2 (0 : Int32) I L R I_6 H locs ls hP hS hT h0 (lv_sub hl [1, 2, 3, 0] rfl) e_6 (fun H locs ls hP hS hl => ?_)
  exact hret I_6 hf H locs ls _ dX11_movesRule_40 hP hT hS
def rmX11_drops : Room := { frames := 2, cells := 0, slots := 0, locals := 45 }
set_option maxHeartbeats 4000000 in
set_option maxRecDepth 100000 in
theorem k_X11_drops (l : Launch) (D : va_G) (ce : Nat → ClassId) (b : Nat) (I : mI) (L : mL) (R : mR) (hT : WT kdM R) (x0 : Nat) (x1 : Int32) (h0 : kdM x0 = 17) (o1 : Int32) (o2 : mI) (hf : f_X11_drops x0 x1 I R = some (o1, o2)) : Met l yX11_drops (Cond.code yX11_drops cX11_drops 3 (some .int) :: GW) rmX11_drops (va_Pc [.ref (b + x0), .int x1] (PW D ce b kdM lnM 21 I L R)) (va_Qi (fun r u => r = o1 ∧ u = (o2, L, R)) (QW D ce b kdM lnM 21) (box b 21)) 0 0 (box b 21) := by
  refine Met.ofW (cc := cX11_drops) (maxL := 3) (ret := (some .int)) (by decide) rfl ?_
  intro p e s m args below meth c s₁ B hml hv
  obtain ⟨rfl, hP, hKK⟩ := hv
  have hx := B.exec
  have hb := B.bytes
  have hr := B.returns
  have hts0 := atoms_spec (ws := Cond.code yX11_drops cX11_drops 3 (some .int) :: GW) B.pre
  have hts : ∀ w ∈ GW, w.before _ s = true := fun w h => hts0 w (List.mem_cons_of_mem _ h)
  clear hts0
  have hown : s.vm.findClass RX11 = some m.cls := findClass_of_methodNamed B.named
  have hlocks := B.notSynchronized
  have hA : ∀ q, box b 21 q → box b 21 q := fun _ h => h
  have hS : va_S (box b 21) s.heap s.heap [] := va_S.rf
  have hl := lv_entry ([.ref (b + x0), .int x1]) (n := 3) (Nat.le_of_ble_eq_true rfl)
  rw [lg_entry_eq]
  generalize (lg_sl ([.ref (b + x0), .int x1]) ++ List.replicate (3 - (lg_sl ([.ref (b + x0), .int x1])).length) Slot.unset).toArray = ls at hl ⊢
  have hl : lv_has ls 3 [(0, .ref (b + x0)), (1, .int x1)] := hl
  generalize ([.ref (b + x0), .int x1] : List Value).toArray = av at hts ⊢
  show W p l e rmX11_drops s m av below meth c s.heap [] 0 0 _ _
  obtain ⟨QQ, hQQ⟩ : ∃ z, z = MQ below (va_Qi (fun r u => r = o1 ∧ u = (o2, L, R)) (QW D ce b kdM lnM 21) (box b 21)) av s 0 0 (box b 21) := ⟨_, rfl⟩
  rw [← hQQ]
  have hret : ∀ (r : Int32) (I1 : mI), some (r, I1) = some (o1, o2) → ∀ (H1 : Heap) (locs1 : List Loc) (ls1 : Array Slot) (pc1 : Nat), decode cX11_drops pc1 = .ok (.ireturn, 1) → va_P D vwCl (wd ce b kdM lnM 21 I1 L R) H1 → WT kdM R → va_S (box b 21) s.heap H1 locs1 → W p l e rmX11_drops s m av below meth c H1 locs1 0 0 QQ (F0 m pc1 ls1 [.int r]) := by
    intro r I1 hq H1 locs1 ls1 pc1 hd hP hT hS
    cases hq
    rw [hQQ]
    exact mm_iret hx hb hr hlocks hP hT hS hd
  unfold f_X11_drops at hf
  obtain ⟨H, hH⟩ : ∃ z, z = s.heap := ⟨_, rfl⟩
  obtain ⟨locs, hlo⟩ : ∃ z : List Loc, z = [] := ⟨_, rfl⟩
  have hP : va_P D vwCl (wd ce b kdM lnM 21 I L R) H := by rw [hH]; exact hP
  have hS : va_S (box b 21) s.heap H locs := by rw [hH, hlo]; exact hS
  rw [show W p l e rmX11_drops s m av below meth c s.heap [] 0 0 QQ = W p l e rmX11_drops s m av below meth c H locs 0 0 QQ by rw [hH, hlo]]
  clear hH hlo
  clear hQQ
  show W p l e rmX11_drops s m av below meth c H locs 0 0 QQ (F0 m 0 ls [])
  refine lv_aload_n hx hb dX11_drops_0 rfl (lv_at hl 0 rfl) ?_
  refine lv_iload_n hx hb dX11_drops_1 rfl (lv_at hl 1 rfl) ?_
  obtain ⟨r1, e1, hf⟩ := bd1_o hf
  refine mm_Vi (rest := []) hx hb hml hown hts hKK hP hS hA (kdM_lt h0 (Nat.succ_ne_zero _)) h0 (show vwCl[11]? = some (yX11_isRule.cls, TX11, 32) from rfl) vkX11_148 (k_X11_isRule l D ce b I L R hT x0 x1 h0 r1 e1) rfl hl.1 rfl (Nat.le_of_ble_eq_true rfl) ⟨rfl, rfl⟩ ⟨Nat.le_of_ble_eq_true rfl, Nat.le_of_ble_eq_true rfl⟩ ⟨Nat.zero_le _, Nat.zero_le _⟩ dX11_drops_2 (fun H locs hP hT hS => ?_)
  refine lv_if_ne (tgt := 15) hx hb dX11_drops_5 (by decide) (fun c2 => ?_) (fun c2 => ?_)
  · have hf := ifF hf c2
    refine lv_aload_n hx hb dX11_drops_15 rfl (lv_at hl 0 rfl) ?_
    obtain ⟨I3, e3, hf⟩ := bd1_o hf
    refine mm_Vv (rest := []) hx hb hml hown hts hKK hP hS hA (kdM_lt h0 (Nat.succ_ne_zero _)) h0 (show vwCl[11]? = some (yX11_remembers.cls, TX11, 32) from rfl) vkX11_142 (k_X11_remembers l D ce b I L R hT x0 h0 I3 e3) rfl hl.1 rfl (Nat.le_of_ble_eq_true rfl) ⟨rfl, rfl⟩ ⟨Nat.le_of_ble_eq_true rfl, Nat.le_of_ble_eq_true rfl⟩ ⟨Nat.zero_le _, Nat.zero_le _⟩ dX11_drops_16 (fun H locs hP hT hS => ?_)
    refine lv_iload_n hx hb dX11_drops_19 rfl (lv_at hl 1 rfl) ?_
    refine lv_istore_n (lv' := [(2, .int x1), (0, .ref (b + x0)), (1, .int x1)]) hx hb dX11_drops_20 rfl hl (Nat.le_of_ble_eq_true rfl) rfl (fun ls hl => ?_)
    have lp21 : ∀ (n : Nat) (x0 : Nat) (x2 : Int32) (I : mI) (L : mL) (R : mR) (a1 : mI) (H : Heap) (locs : List Loc) (ls : Array Slot), va_P D vwCl (wd ce b kdM lnM 21 I L R) H → va_S (box b 21) s.heap H locs → WT kdM R → kdM x0 = 17 → lv_has ls 3 [(0, .ref (b + x0)), (2, .int x2)] → f_X11_drops_L21 n x0 x2 I R = some a1 → (∀ (H1 : Heap) (locs1 : List Loc) (ls1 : Array Slot), va_P D vwCl (wd ce b kdM lnM 21 a1 L R) H1 → va_S (box b 21) s.heap H1 locs1 → lv_has ls1 3 [(0, .ref (b + x0))] → W p l e rmX11_drops s m av below meth c H1 locs1 0 0 QQ (F0 m 47 ls1 [])) → W p l e rmX11_drops s m av below meth c H locs 0 0 QQ (F0 m 21 ls []) := by
      intro n
      induction n with
      | zero =>
        intro x0 x2 I L R a1 H locs ls hP hS hT h0 hl hf kx
        exact absurd (show (none : Option (mI)) = some _ from hf) (by simp)
      | succ n ih =>
        intro x0 x2 I L R a1 H locs ls hP hS hT h0 hl hf kx
        rw [f_X11_drops_L21] at hf
        refine lv_iload_n hx hb dX11_drops_21 rfl (lv_at hl 1 rfl) ?_
        refine lv_aload_n hx hb dX11_drops_22 rfl (lv_at hl 0 rfl) ?_
        have t4 : kdM (R x0 0) = 1 := wt hT h0 rfl
        refine mm_getr hx hb hts hown hKK hP fk11_0 (Nat.le_of_ble_eq_true rfl) lkX11_7 (kdM_lt h0 (Nat.succ_ne_zero _)) h0 (nM t4 (Nat.succ_ne_zero _)) dX11_drops_23 ?_
        refine lv_iconst (v := (0 : Int32)) hx hb dX11_drops_26 (by decide) ?_
        obtain ⟨g5, hf⟩ := grd hf
        refine mm_iald hx hb hKK hP (kdM_lt t4 (Nat.succ_ne_zero _)) t4 g5 dX11_drops_27 ?_
        refine lv_iconst (v := (1 : Int32)) hx hb dX11_drops_28 (by decide) ?_
        refine lv_isub hx hb dX11_drops_29 ?_
        refine lv_icmp_ge (tgt := 47) hx hb dX11_drops_30 (by decide) (fun c6 => ?_) (fun c6 => ?_)
        · have hf := ifT hf c6
          cases hf
          exact kx H locs ls hP hS (lv_sub hl [0] rfl)
        · have hf := ifF hf c6
          refine lv_aload_n hx hb dX11_drops_33 rfl (lv_at hl 0 rfl) ?_
          refine lv_iload_n hx hb dX11_drops_34 rfl (lv_at hl 1 rfl) ?_
          refine lv_iconst (v := (1 : Int32)) hx hb dX11_drops_35 (by decide) ?_
          refine lv_iadd hx hb dX11_drops_36 ?_
          refine lv_iload_n hx hb dX11_drops_37 rfl (lv_at hl 1 rfl) ?_
          obtain ⟨I7, e7, hf⟩ := bd1_o hf
          refine mm_Vv (rest := []) hx hb hml hown hts hKK hP hS hA (kdM_lt h0 (Nat.succ_ne_zero _)) h0 (show vwCl[11]? = some (yX11_movesRule.cls, TX11, 32) from rfl) vkX11_151 (k_X11_movesRule l D ce b I L R hT x0 (x2 + (1 : Int32)) x2 h0 I7 e7) rfl hl.1 rfl (Nat.le_of_ble_eq_true rfl) ⟨rfl, rfl⟩ ⟨Nat.le_of_ble_eq_true rfl, Nat.le_of_ble_eq_true rfl⟩ ⟨Nat.zero_le _, Nat.zero_le _⟩ dX11_drops_38 (fun H locs hP hT hS => ?_)
          refine lv_iinc (v := (x2 + (1 : Int32))) (lv' := [(2, .int (x2 + (1 : Int32))), (0, .ref (b + x0))]) hx hb dX11_drops_41 hl (k := 1) rfl rfl (Nat.le_of_ble_eq_true rfl) rfl (fun ls hl => ?_)
          refine lv_goto (tgt := 21) hx hb dX11_drops_44 (by decide) ?_
          exact ih x0 (x2 + (1 : Int32)) I7 L R a1 H locs ls hP hS hT h0 (lv_sub hl [1, 0] rfl) hf kx
    obtain ⟨I_8, e_8, hf⟩ := bd1_o hf
    refine lp21 FU x0 x1 I3 L R I_8 H locs ls hP hS hT h0 (lv_sub hl [1, 0] rfl) e_8 (fun H locs ls hP hS hl => ?_)
    refine lv_aload_n hx hb dX11_drops_47 rfl (lv_at hl 0 rfl) ?_
    have t9 : kdM (R x0 0) = 1 := wt hT h0 rfl
    refine mm_getr hx hb hts hown hKK hP fk11_0 (Nat.le_of_ble_eq_true rfl) lkX11_7 (kdM_lt h0 (Nat.succ_ne_zero _)) h0 (nM t9 (Nat.succ_ne_zero _)) dX11_drops_48 ?_
    refine lv_iconst (v := (0 : Int32)) hx hb dX11_drops_51 (by decide) ?_
    refine lv_dup2_11 hx hb dX11_drops_52 rfl rfl ?_
    obtain ⟨g10, hf⟩ := grd hf
    refine mm_iald hx hb hKK hP (kdM_lt t9 (Nat.succ_ne_zero _)) t9 g10 dX11_drops_53 ?_
    refine lv_iconst (v := (1 : Int32)) hx hb dX11_drops_54 (by decide) ?_
    refine lv_isub hx hb dX11_drops_55 ?_
    refine jnE hf (fun I11 eI11 hf => ?_)
    refine mm_iast hx hb hKK hP hA hS (kdM_lt t9 (Nat.succ_ne_zero _)) t9 g10 dX11_drops_56 (fun H locs hP hS => ?_)
    rw [← eI11] at hP
    refine lv_aload_n hx hb dX11_drops_57 rfl (lv_at hl 0 rfl) ?_
    refine mm_getr hx hb hts hown hKK hP fk11_0 (Nat.le_of_ble_eq_true rfl) lkX11_7 (kdM_lt h0 (Nat.succ_ne_zero _)) h0 (nM t9 (Nat.succ_ne_zero _)) dX11_drops_58 ?_
    refine lv_iconst (v := (0 : Int32)) hx hb dX11_drops_61 (by decide) ?_
    refine mm_iald hx hb hKK hP (kdM_lt t9 (Nat.succ_ne_zero _)) t9 g10 dX11_drops_62 ?_
    exact hret (I11 (R x0 0) ((0 : Int32)).toNatClampNeg) I11 hf H locs ls _ dX11_drops_63 hP hT hS
  · have hf := ifT hf c2
    refine lv_aload_n hx hb dX11_drops_8 rfl (lv_at hl 0 rfl) ?_
    refine lv_bipush (v := (-2 : Int32)) hx hb dX11_drops_9 (by decide) ?_
    obtain ⟨r12, I12, e12, hf⟩ := bd2_o hf
    refine mm_Vi (rest := []) hx hb hml hown hts hKK hP hS hA (kdM_lt h0 (Nat.succ_ne_zero _)) h0 (show vwCl[11]? = some (yX11_refuses.cls, TX11, 32) from rfl) vkX11_80 (k_X11_refuses l D ce b I L R hT x0 (-2 : Int32) h0 r12 I12 e12) rfl hl.1 rfl (Nat.le_of_ble_eq_true rfl) ⟨rfl, rfl⟩ ⟨Nat.le_of_ble_eq_true rfl, Nat.le_of_ble_eq_true rfl⟩ ⟨Nat.zero_le _, Nat.zero_le _⟩ dX11_drops_11 (fun H locs hP hT hS => ?_)
    exact hret r12 I12 hf H locs ls _ dX11_drops_14 hP hT hS
def rmX11_first : Room := { frames := 2, cells := 0, slots := 0, locals := 45 }
set_option maxHeartbeats 4000000 in
set_option maxRecDepth 100000 in
theorem k_X11_first (l : Launch) (D : va_G) (ce : Nat → ClassId) (b : Nat) (I : mI) (L : mL) (R : mR) (hT : WT kdM R) (x0 : Nat) (x1 : Int32) (h0 : kdM x0 = 17) (o1 : Int32) (o2 : mI) (hf : f_X11_first x0 x1 I R = some (o1, o2)) : Met l yX11_first (Cond.code yX11_first cX11_first 3 (some .int) :: GW) rmX11_first (va_Pc [.ref (b + x0), .int x1] (PW D ce b kdM lnM 21 I L R)) (va_Qi (fun r u => r = o1 ∧ u = (o2, L, R)) (QW D ce b kdM lnM 21) (box b 21)) 0 0 (box b 21) := by
  refine Met.ofW (cc := cX11_first) (maxL := 3) (ret := (some .int)) (by decide) rfl ?_
  intro p e s m args below meth c s₁ B hml hv
  obtain ⟨rfl, hP, hKK⟩ := hv
  have hx := B.exec
  have hb := B.bytes
  have hr := B.returns
  have hts0 := atoms_spec (ws := Cond.code yX11_first cX11_first 3 (some .int) :: GW) B.pre
  have hts : ∀ w ∈ GW, w.before _ s = true := fun w h => hts0 w (List.mem_cons_of_mem _ h)
  clear hts0
  have hown : s.vm.findClass RX11 = some m.cls := findClass_of_methodNamed B.named
  have hlocks := B.notSynchronized
  have hA : ∀ q, box b 21 q → box b 21 q := fun _ h => h
  have hS : va_S (box b 21) s.heap s.heap [] := va_S.rf
  have hl := lv_entry ([.ref (b + x0), .int x1]) (n := 3) (Nat.le_of_ble_eq_true rfl)
  rw [lg_entry_eq]
  generalize (lg_sl ([.ref (b + x0), .int x1]) ++ List.replicate (3 - (lg_sl ([.ref (b + x0), .int x1])).length) Slot.unset).toArray = ls at hl ⊢
  have hl : lv_has ls 3 [(0, .ref (b + x0)), (1, .int x1)] := hl
  generalize ([.ref (b + x0), .int x1] : List Value).toArray = av at hts ⊢
  show W p l e rmX11_first s m av below meth c s.heap [] 0 0 _ _
  obtain ⟨QQ, hQQ⟩ : ∃ z, z = MQ below (va_Qi (fun r u => r = o1 ∧ u = (o2, L, R)) (QW D ce b kdM lnM 21) (box b 21)) av s 0 0 (box b 21) := ⟨_, rfl⟩
  rw [← hQQ]
  have hret : ∀ (r : Int32) (I1 : mI), some (r, I1) = some (o1, o2) → ∀ (H1 : Heap) (locs1 : List Loc) (ls1 : Array Slot) (pc1 : Nat), decode cX11_first pc1 = .ok (.ireturn, 1) → va_P D vwCl (wd ce b kdM lnM 21 I1 L R) H1 → WT kdM R → va_S (box b 21) s.heap H1 locs1 → W p l e rmX11_first s m av below meth c H1 locs1 0 0 QQ (F0 m pc1 ls1 [.int r]) := by
    intro r I1 hq H1 locs1 ls1 pc1 hd hP hT hS
    cases hq
    rw [hQQ]
    exact mm_iret hx hb hr hlocks hP hT hS hd
  unfold f_X11_first at hf
  obtain ⟨H, hH⟩ : ∃ z, z = s.heap := ⟨_, rfl⟩
  obtain ⟨locs, hlo⟩ : ∃ z : List Loc, z = [] := ⟨_, rfl⟩
  have hP : va_P D vwCl (wd ce b kdM lnM 21 I L R) H := by rw [hH]; exact hP
  have hS : va_S (box b 21) s.heap H locs := by rw [hH, hlo]; exact hS
  rw [show W p l e rmX11_first s m av below meth c s.heap [] 0 0 QQ = W p l e rmX11_first s m av below meth c H locs 0 0 QQ by rw [hH, hlo]]
  clear hH hlo
  clear hQQ
  show W p l e rmX11_first s m av below meth c H locs 0 0 QQ (F0 m 0 ls [])
  refine lv_aload_n hx hb dX11_first_0 rfl (lv_at hl 0 rfl) ?_
  refine lv_iload_n hx hb dX11_first_1 rfl (lv_at hl 1 rfl) ?_
  obtain ⟨r1, e1, hf⟩ := bd1_o hf
  refine mm_Vi (rest := []) hx hb hml hown hts hKK hP hS hA (kdM_lt h0 (Nat.succ_ne_zero _)) h0 (show vwCl[11]? = some (yX11_isRule.cls, TX11, 32) from rfl) vkX11_148 (k_X11_isRule l D ce b I L R hT x0 x1 h0 r1 e1) rfl hl.1 rfl (Nat.le_of_ble_eq_true rfl) ⟨rfl, rfl⟩ ⟨Nat.le_of_ble_eq_true rfl, Nat.le_of_ble_eq_true rfl⟩ ⟨Nat.zero_le _, Nat.zero_le _⟩ dX11_first_2 (fun H locs hP hT hS => ?_)
  refine lv_if_ne (tgt := 15) hx hb dX11_first_5 (by decide) (fun c2 => ?_) (fun c2 => ?_)
  · have hf := ifF hf c2
    refine lv_aload_n hx hb dX11_first_15 rfl (lv_at hl 0 rfl) ?_
    obtain ⟨I3, e3, hf⟩ := bd1_o hf
    refine mm_Vv (rest := []) hx hb hml hown hts hKK hP hS hA (kdM_lt h0 (Nat.succ_ne_zero _)) h0 (show vwCl[11]? = some (yX11_remembers.cls, TX11, 32) from rfl) vkX11_142 (k_X11_remembers l D ce b I L R hT x0 h0 I3 e3) rfl hl.1 rfl (Nat.le_of_ble_eq_true rfl) ⟨rfl, rfl⟩ ⟨Nat.le_of_ble_eq_true rfl, Nat.le_of_ble_eq_true rfl⟩ ⟨Nat.zero_le _, Nat.zero_le _⟩ dX11_first_16 (fun H locs hP hT hS => ?_)
    refine lv_aload_n hx hb dX11_first_19 rfl (lv_at hl 0 rfl) ?_
    have t4 : kdM (R x0 0) = 1 := wt hT h0 rfl
    refine mm_getr hx hb hts hown hKK hP fk11_0 (Nat.le_of_ble_eq_true rfl) lkX11_7 (kdM_lt h0 (Nat.succ_ne_zero _)) h0 (nM t4 (Nat.succ_ne_zero _)) dX11_first_20 ?_
    refine lv_iconst (v := (0 : Int32)) hx hb dX11_first_23 (by decide) ?_
    refine lv_aload_n hx hb dX11_first_24 rfl (lv_at hl 0 rfl) ?_
    have t5 : kdM (R x0 1) = 1 := wt hT h0 rfl
    refine mm_getr hx hb hts hown hKK hP fk11_1 (Nat.le_of_ble_eq_true rfl) lkX11_13 (kdM_lt h0 (Nat.succ_ne_zero _)) h0 (nM t5 (Nat.succ_ne_zero _)) dX11_first_25 ?_
    refine lv_iconst (v := (0 : Int32)) hx hb dX11_first_28 (by decide) ?_
    obtain ⟨I6, e6, hf⟩ := bd1_o hf
    refine mm_Sv (rest := []) hx hb hml hown hts hKK hP hS hA skX11_76 (k_X11_copies l D ce b I3 L R hT (R x0 0) (0 : Int32) (R x0 1) (0 : Int32) t4 t5 I6 e6) rfl hl.1 rfl (Nat.le_of_ble_eq_true rfl) ⟨rfl, rfl⟩ ⟨Nat.le_of_ble_eq_true rfl, Nat.le_of_ble_eq_true rfl⟩ ⟨Nat.zero_le _, Nat.zero_le _⟩ dX11_first_29 (fun H locs hP hT hS => ?_)
    refine lv_iload_n hx hb dX11_first_32 rfl (lv_at hl 1 rfl) ?_
    refine lv_istore_n (lv' := [(2, .int x1), (0, .ref (b + x0)), (1, .int x1)]) hx hb dX11_first_33 rfl hl (Nat.le_of_ble_eq_true rfl) rfl (fun ls hl => ?_)
    have lp34 : ∀ (n : Nat) (x0 : Nat) (x1 : Int32) (x2 : Int32) (I : mI) (L : mL) (R : mR) (a1 : mI) (H : Heap) (locs : List Loc) (ls : Array Slot), va_P D vwCl (wd ce b kdM lnM 21 I L R) H → va_S (box b 21) s.heap H locs → WT kdM R → kdM x0 = 17 → lv_has ls 3 [(0, .ref (b + x0)), (1, .int x1), (2, .int x2)] → f_X11_first_L34 n x0 x1 x2 I R = some a1 → (∀ (H1 : Heap) (locs1 : List Loc) (ls1 : Array Slot), va_P D vwCl (wd ce b kdM lnM 21 a1 L R) H1 → va_S (box b 21) s.heap H1 locs1 → lv_has ls1 3 [(0, .ref (b + x0)), (1, .int x1)] → W p l e rmX11_first s m av below meth c H1 locs1 0 0 QQ (F0 m 52 ls1 [])) → W p l e rmX11_first s m av below meth c H locs 0 0 QQ (F0 m 34 ls []) := by
      intro n
      induction n with
      | zero =>
        intro x0 x1 x2 I L R a1 H locs ls hP hS hT h0 hl hf kx
        exact absurd (show (none : Option (mI)) = some _ from hf) (by simp)
      | succ n ih =>
        intro x0 x1 x2 I L R a1 H locs ls hP hS hT h0 hl hf kx
        rw [f_X11_first_L34] at hf
        refine lv_iload_n hx hb dX11_first_34 rfl (lv_at hl 2 rfl) ?_
        refine lv_if_le (tgt := 52) hx hb dX11_first_35 (by decide) (fun c7 => ?_) (fun c7 => ?_)
        · have hf := ifT hf c7
          cases hf
          exact kx H locs ls hP hS (lv_sub hl [0, 1] rfl)
        · have hf := ifF hf c7
          refine lv_aload_n hx hb dX11_first_38 rfl (lv_at hl 0 rfl) ?_
          refine lv_iload_n hx hb dX11_first_39 rfl (lv_at hl 2 rfl) ?_
          refine lv_iconst (v := (1 : Int32)) hx hb dX11_first_40 (by decide) ?_
          refine lv_isub hx hb dX11_first_41 ?_
          refine lv_iload_n hx hb dX11_first_42 rfl (lv_at hl 2 rfl) ?_
          obtain ⟨I8, e8, hf⟩ := bd1_o hf
          refine mm_Vv (rest := []) hx hb hml hown hts hKK hP hS hA (kdM_lt h0 (Nat.succ_ne_zero _)) h0 (show vwCl[11]? = some (yX11_movesRule.cls, TX11, 32) from rfl) vkX11_151 (k_X11_movesRule l D ce b I L R hT x0 (x2 - (1 : Int32)) x2 h0 I8 e8) rfl hl.1 rfl (Nat.le_of_ble_eq_true rfl) ⟨rfl, rfl⟩ ⟨Nat.le_of_ble_eq_true rfl, Nat.le_of_ble_eq_true rfl⟩ ⟨Nat.zero_le _, Nat.zero_le _⟩ dX11_first_43 (fun H locs hP hT hS => ?_)
          refine lv_iinc (v := (x2 + (-1 : Int32))) (lv' := [(2, .int (x2 + (-1 : Int32))), (0, .ref (b + x0)), (1, .int x1)]) hx hb dX11_first_46 hl (k := 2) rfl rfl (Nat.le_of_ble_eq_true rfl) rfl (fun ls hl => ?_)
          refine lv_goto (tgt := 34) hx hb dX11_first_49 (by decide) ?_
          exact ih x0 x1 (x2 + (-1 : Int32)) I8 L R a1 H locs ls hP hS hT h0 (lv_sub hl [1, 2, 0] rfl) hf kx
    obtain ⟨I_9, e_9, hf⟩ := bd1_o hf
    refine lp34 FU x0 x1 x1 I6 L R I_9 H locs ls hP hS hT h0 (lv_sub hl [1, 2, 0] rfl) e_9 (fun H locs ls hP hS hl => ?_)
    refine lv_iconst (v := (0 : Int32)) hx hb dX11_first_52 (by decide) ?_
    refine lv_istore_n (lv' := [(2, .int (0 : Int32)), (0, .ref (b + x0)), (1, .int x1)]) hx hb dX11_first_53 rfl hl (Nat.le_of_ble_eq_true rfl) rfl (fun ls hl => ?_)
    have lp54 : ∀ (n : Nat) (x0 : Nat) (x1 : Int32) (x2 : Int32) (I : mI) (L : mL) (R : mR) (a1 : mI) (H : Heap) (locs : List Loc) (ls : Array Slot), va_P D vwCl (wd ce b kdM lnM 21 I L R) H → va_S (box b 21) s.heap H locs → WT kdM R → kdM x0 = 17 → lv_has ls 3 [(0, .ref (b + x0)), (1, .int x1), (2, .int x2)] → f_X11_first_L54 n x0 x1 x2 I R = some a1 → (∀ (H1 : Heap) (locs1 : List Loc) (ls1 : Array Slot), va_P D vwCl (wd ce b kdM lnM 21 a1 L R) H1 → va_S (box b 21) s.heap H1 locs1 → lv_has ls1 3 [(1, .int x1)] → W p l e rmX11_first s m av below meth c H1 locs1 0 0 QQ (F0 m 87 ls1 [])) → W p l e rmX11_first s m av below meth c H locs 0 0 QQ (F0 m 54 ls []) := by
      intro n
      induction n with
      | zero =>
        intro x0 x1 x2 I L R a1 H locs ls hP hS hT h0 hl hf kx
        exact absurd (show (none : Option (mI)) = some _ from hf) (by simp)
      | succ n ih =>
        intro x0 x1 x2 I L R a1 H locs ls hP hS hT h0 hl hf kx
        rw [f_X11_first_L54] at hf
        refine lv_iload_n hx hb dX11_first_54 rfl (lv_at hl 2 rfl) ?_
        refine lv_bipush (v := (26 : Int32)) hx hb dX11_first_55 (by decide) ?_
        refine lv_icmp_ge (tgt := 87) hx hb dX11_first_57 (by decide) (fun c10 => ?_) (fun c10 => ?_)
        · have hf := ifT hf c10
          cases hf
          exact kx H locs ls hP hS (lv_sub hl [1] rfl)
        · have hf := ifF hf c10
          refine lv_aload_n hx hb dX11_first_60 rfl (lv_at hl 0 rfl) ?_
          have t11 : kdM (R x0 0) = 1 := wt hT h0 rfl
          refine mm_getr hx hb hts hown hKK hP fk11_0 (Nat.le_of_ble_eq_true rfl) lkX11_7 (kdM_lt h0 (Nat.succ_ne_zero _)) h0 (nM t11 (Nat.succ_ne_zero _)) dX11_first_61 ?_
          refine lv_iconst (v := (1 : Int32)) hx hb dX11_first_64 (by decide) ?_
          refine lv_iload_n hx hb dX11_first_65 rfl (lv_at hl 2 rfl) ?_
          refine lv_iadd hx hb dX11_first_66 ?_
          refine lv_aload_n hx hb dX11_first_67 rfl (lv_at hl 0 rfl) ?_
          have t12 : kdM (R x0 1) = 1 := wt hT h0 rfl
          refine mm_getr hx hb hts hown hKK hP fk11_1 (Nat.le_of_ble_eq_true rfl) lkX11_13 (kdM_lt h0 (Nat.succ_ne_zero _)) h0 (nM t12 (Nat.succ_ne_zero _)) dX11_first_68 ?_
          refine lv_iconst (v := (1 : Int32)) hx hb dX11_first_71 (by decide) ?_
          refine lv_bipush (v := (26 : Int32)) hx hb dX11_first_72 (by decide) ?_
          refine lv_iload_n hx hb dX11_first_74 rfl (lv_at hl 1 rfl) ?_
          refine lv_imul hx hb dX11_first_75 ?_
          refine lv_iadd hx hb dX11_first_76 ?_
          refine lv_iload_n hx hb dX11_first_77 rfl (lv_at hl 2 rfl) ?_
          refine lv_iadd hx hb dX11_first_78 ?_
          obtain ⟨g13, hf⟩ := grd hf
          refine mm_iald hx hb hKK hP (kdM_lt t12 (Nat.succ_ne_zero _)) t12 g13 dX11_first_79 ?_
          obtain ⟨g14, hf⟩ := grd hf
          refine jnE hf (fun I15 eI15 hf => ?_)
          refine mm_iast hx hb hKK hP hA hS (kdM_lt t11 (Nat.succ_ne_zero _)) t11 g14 dX11_first_80 (fun H locs hP hS => ?_)
          rw [← eI15] at hP
          refine lv_iinc (v := (x2 + (1 : Int32))) (lv' := [(2, .int (x2 + (1 : Int32))), (0, .ref (b + x0)), (1, .int x1)]) hx hb dX11_first_81 hl (k := 2) rfl rfl (Nat.le_of_ble_eq_true rfl) rfl (fun ls hl => ?_)
          refine lv_goto (tgt := 54) hx hb dX11_first_84 (by decide) ?_
          exact ih x0 x1 (x2 + (1 : Int32)) I15 L R a1 H locs ls hP hS hT h0 (lv_sub hl [1, 2, 0] rfl) hf kx
    obtain ⟨I_16, e_16, hf⟩ := bd1_o hf
    refine lp54 FU x0 x1 (0 : Int32) I_9 L R I_16 H locs ls hP hS hT h0 (lv_sub hl [1, 2, 0] rfl) e_16 (fun H locs ls hP hS hl => ?_)
    refine lv_iload_n hx hb dX11_first_87 rfl (lv_at hl 0 rfl) ?_
    exact hret x1 I_16 hf H locs ls _ dX11_first_88 hP hT hS
  · have hf := ifT hf c2
    refine lv_aload_n hx hb dX11_first_8 rfl (lv_at hl 0 rfl) ?_
    refine lv_bipush (v := (-2 : Int32)) hx hb dX11_first_9 (by decide) ?_
    obtain ⟨r17, I17, e17, hf⟩ := bd2_o hf
    refine mm_Vi (rest := []) hx hb hml hown hts hKK hP hS hA (kdM_lt h0 (Nat.succ_ne_zero _)) h0 (show vwCl[11]? = some (yX11_refuses.cls, TX11, 32) from rfl) vkX11_80 (k_X11_refuses l D ce b I L R hT x0 (-2 : Int32) h0 r17 I17 e17) rfl hl.1 rfl (Nat.le_of_ble_eq_true rfl) ⟨rfl, rfl⟩ ⟨Nat.le_of_ble_eq_true rfl, Nat.le_of_ble_eq_true rfl⟩ ⟨Nat.zero_le _, Nat.zero_le _⟩ dX11_first_11 (fun H locs hP hT hS => ?_)
    exact hret r17 I17 hf H locs ls _ dX11_first_14 hP hT hS
def rmX11_heads : Room := { frames := 1, cells := 0, slots := 0, locals := 20 }
set_option maxHeartbeats 4000000 in
set_option maxRecDepth 100000 in
theorem k_X11_heads (l : Launch) (D : va_G) (ce : Nat → ClassId) (b : Nat) (I : mI) (L : mL) (R : mR) (hT : WT kdM R) (x0 : Nat) (h0 : kdM x0 = 17) (o1 : Int32) (hf : f_X11_heads x0 I R = some o1) : Met l yX11_heads (Cond.code yX11_heads cX11_heads 3 (some .int) :: GW) rmX11_heads (va_Pc [.ref (b + x0)] (PW D ce b kdM lnM 21 I L R)) (va_Qi (fun r u => r = o1 ∧ u = (I, L, R)) (QW D ce b kdM lnM 21) (box b 21)) 0 0 (box b 21) := by
  refine Met.ofW (cc := cX11_heads) (maxL := 3) (ret := (some .int)) (by decide) rfl ?_
  intro p e s m args below meth c s₁ B hml hv
  obtain ⟨rfl, hP, hKK⟩ := hv
  have hx := B.exec
  have hb := B.bytes
  have hr := B.returns
  have hts0 := atoms_spec (ws := Cond.code yX11_heads cX11_heads 3 (some .int) :: GW) B.pre
  have hts : ∀ w ∈ GW, w.before _ s = true := fun w h => hts0 w (List.mem_cons_of_mem _ h)
  clear hts0
  have hown : s.vm.findClass RX11 = some m.cls := findClass_of_methodNamed B.named
  have hlocks := B.notSynchronized
  have hA : ∀ q, box b 21 q → box b 21 q := fun _ h => h
  have hS : va_S (box b 21) s.heap s.heap [] := va_S.rf
  have hl := lv_entry ([.ref (b + x0)]) (n := 3) (Nat.le_of_ble_eq_true rfl)
  rw [lg_entry_eq]
  generalize (lg_sl ([.ref (b + x0)]) ++ List.replicate (3 - (lg_sl ([.ref (b + x0)])).length) Slot.unset).toArray = ls at hl ⊢
  have hl : lv_has ls 3 [(0, .ref (b + x0))] := hl
  generalize ([.ref (b + x0)] : List Value).toArray = av at hts ⊢
  show W p l e rmX11_heads s m av below meth c s.heap [] 0 0 _ _
  obtain ⟨QQ, hQQ⟩ : ∃ z, z = MQ below (va_Qi (fun r u => r = o1 ∧ u = (I, L, R)) (QW D ce b kdM lnM 21) (box b 21)) av s 0 0 (box b 21) := ⟨_, rfl⟩
  rw [← hQQ]
  have hret : ∀ (r : Int32), some r = some o1 → ∀ (H1 : Heap) (locs1 : List Loc) (ls1 : Array Slot) (pc1 : Nat), decode cX11_heads pc1 = .ok (.ireturn, 1) → va_P D vwCl (wd ce b kdM lnM 21 I L R) H1 → WT kdM R → va_S (box b 21) s.heap H1 locs1 → W p l e rmX11_heads s m av below meth c H1 locs1 0 0 QQ (F0 m pc1 ls1 [.int r]) := by
    intro r hq H1 locs1 ls1 pc1 hd hP hT hS
    cases hq
    rw [hQQ]
    exact mm_iret hx hb hr hlocks hP hT hS hd
  unfold f_X11_heads at hf
  obtain ⟨H, hH⟩ : ∃ z, z = s.heap := ⟨_, rfl⟩
  obtain ⟨locs, hlo⟩ : ∃ z : List Loc, z = [] := ⟨_, rfl⟩
  have hP : va_P D vwCl (wd ce b kdM lnM 21 I L R) H := by rw [hH]; exact hP
  have hS : va_S (box b 21) s.heap H locs := by rw [hH, hlo]; exact hS
  rw [show W p l e rmX11_heads s m av below meth c s.heap [] 0 0 QQ = W p l e rmX11_heads s m av below meth c H locs 0 0 QQ by rw [hH, hlo]]
  clear hH hlo
  clear hQQ
  show W p l e rmX11_heads s m av below meth c H locs 0 0 QQ (F0 m 0 ls [])
  refine lv_iconst (v := (0 : Int32)) hx hb dX11_heads_0 (by decide) ?_
  refine lv_istore_n (lv' := [(1, .int (0 : Int32)), (0, .ref (b + x0))]) hx hb dX11_heads_1 rfl hl (Nat.le_of_ble_eq_true rfl) rfl (fun ls hl => ?_)
  refine lv_iconst (v := (0 : Int32)) hx hb dX11_heads_2 (by decide) ?_
  refine lv_istore_n (lv' := [(2, .int (0 : Int32)), (1, .int (0 : Int32)), (0, .ref (b + x0))]) hx hb dX11_heads_3 rfl hl (Nat.le_of_ble_eq_true rfl) rfl (fun ls hl => ?_)
  have lp4 : ∀ (n : Nat) (x0 : Nat) (x1 : Int32) (x2 : Int32) (I : mI) (L : mL) (R : mR) (a1 : Int32) (H : Heap) (locs : List Loc) (ls : Array Slot), va_P D vwCl (wd ce b kdM lnM 21 I L R) H → va_S (box b 21) s.heap H locs → WT kdM R → kdM x0 = 17 → lv_has ls 3 [(0, .ref (b + x0)), (1, .int x1), (2, .int x2)] → f_X11_heads_L4 n x0 x1 x2 I R = some a1 → (∀ (H1 : Heap) (locs1 : List Loc) (ls1 : Array Slot), va_P D vwCl (wd ce b kdM lnM 21 I L R) H1 → va_S (box b 21) s.heap H1 locs1 → lv_has ls1 3 [(1, .int a1)] → W p l e rmX11_heads s m av below meth c H1 locs1 0 0 QQ (F0 m 37 ls1 [])) → W p l e rmX11_heads s m av below meth c H locs 0 0 QQ (F0 m 4 ls []) := by
    intro n
    induction n with
    | zero =>
      intro x0 x1 x2 I L R a1 H locs ls hP hS hT h0 hl hf kx
      exact absurd (show (none : Option (Int32)) = some _ from hf) (by simp)
    | succ n ih =>
      intro x0 x1 x2 I L R a1 H locs ls hP hS hT h0 hl hf kx
      rw [f_X11_heads_L4] at hf
      refine lv_iload_n hx hb dX11_heads_4 rfl (lv_at hl 2 rfl) ?_
      refine lv_aload_n hx hb dX11_heads_5 rfl (lv_at hl 0 rfl) ?_
      have t1 : kdM (R x0 0) = 1 := wt hT h0 rfl
      refine mm_getr hx hb hts hown hKK hP fk11_0 (Nat.le_of_ble_eq_true rfl) lkX11_7 (kdM_lt h0 (Nat.succ_ne_zero _)) h0 (nM t1 (Nat.succ_ne_zero _)) dX11_heads_6 ?_
      refine lv_iconst (v := (0 : Int32)) hx hb dX11_heads_9 (by decide) ?_
      obtain ⟨g2, hf⟩ := grd hf
      refine mm_iald hx hb hKK hP (kdM_lt t1 (Nat.succ_ne_zero _)) t1 g2 dX11_heads_10 ?_
      refine lv_icmp_ge (tgt := 37) hx hb dX11_heads_11 (by decide) (fun c3 => ?_) (fun c3 => ?_)
      · have hf := ifT hf c3
        cases hf
        exact kx H locs ls hP hS (lv_sub hl [1] rfl)
      · have hf := ifF hf c3
        refine lv_iload_n hx hb dX11_heads_14 rfl (lv_at hl 1 rfl) ?_
        refine lv_iconst (v := (1 : Int32)) hx hb dX11_heads_15 (by decide) ?_
        refine lv_aload_n hx hb dX11_heads_16 rfl (lv_at hl 0 rfl) ?_
        refine mm_getr hx hb hts hown hKK hP fk11_0 (Nat.le_of_ble_eq_true rfl) lkX11_7 (kdM_lt h0 (Nat.succ_ne_zero _)) h0 (nM t1 (Nat.succ_ne_zero _)) dX11_heads_17 ?_
        refine lv_iload_n hx hb dX11_heads_20 rfl (lv_at hl 2 rfl) ?_
        obtain ⟨r4, e4, hf⟩ := bd1_o hf
        refine mm_Si (rest := [.ref (b + (R x0 0)), .int (1 : Int32), .int x1]) hx hb hml hown hts hKK hP hS hA skX11_117 (k_X11_leftOf l D ce b I L R hT x2  r4 e4) rfl hl.1 rfl (Nat.le_of_ble_eq_true rfl) ⟨rfl, rfl⟩ ⟨Nat.le_of_ble_eq_true rfl, Nat.le_of_ble_eq_true rfl⟩ ⟨Nat.zero_le _, Nat.zero_le _⟩ dX11_heads_21 (fun H locs hP hT hS => ?_)
        obtain ⟨g5, hf⟩ := grd hf
        refine mm_iald hx hb hKK hP (kdM_lt t1 (Nat.succ_ne_zero _)) t1 g5 dX11_heads_24 ?_
        refine lv_bipush (v := (97 : Int32)) hx hb dX11_heads_25 (by decide) ?_
        refine lv_isub hx hb dX11_heads_27 ?_
        refine lv_ishl hx hb dX11_heads_28 ?_
        refine lv_ior hx hb dX11_heads_29 ?_
        refine lv_istore_n (lv' := [(1, .int (x1 ||| ((1 : Int32) <<< (((I (R x0 0) r4.toNatClampNeg) - (97 : Int32)) &&& 31)))), (0, .ref (b + x0)), (2, .int x2)]) hx hb dX11_heads_30 rfl hl (Nat.le_of_ble_eq_true rfl) rfl (fun ls hl => ?_)
        refine lv_iinc (v := (x2 + (1 : Int32))) (lv' := [(2, .int (x2 + (1 : Int32))), (1, .int (x1 ||| ((1 : Int32) <<< (((I (R x0 0) r4.toNatClampNeg) - (97 : Int32)) &&& 31)))), (0, .ref (b + x0))]) hx hb dX11_heads_31 hl (k := 2) rfl rfl (Nat.le_of_ble_eq_true rfl) rfl (fun ls hl => ?_)
        refine lv_goto (tgt := 4) hx hb dX11_heads_34 (by decide) ?_
        exact ih x0 (x1 ||| ((1 : Int32) <<< (((I (R x0 0) r4.toNatClampNeg) - (97 : Int32)) &&& 31))) (x2 + (1 : Int32)) I L R a1 H locs ls hP hS hT h0 (lv_sub hl [2, 1, 0] rfl) hf kx
  obtain ⟨y1_6, e_6, hf⟩ := bd1_o hf
  refine lp4 FU x0 (0 : Int32) (0 : Int32) I L R y1_6 H locs ls hP hS hT h0 (lv_sub hl [2, 1, 0] rfl) e_6 (fun H locs ls hP hS hl => ?_)
  refine lv_iload_n hx hb dX11_heads_37 rfl (lv_at hl 0 rfl) ?_
  exact hret y1_6 hf H locs ls _ dX11_heads_38 hP hT hS
def rmX11_isHead : Room := { frames := 2, cells := 0, slots := 0, locals := 42 }
set_option maxHeartbeats 4000000 in
set_option maxRecDepth 100000 in
theorem k_X11_isHead (l : Launch) (D : va_G) (ce : Nat → ClassId) (b : Nat) (I : mI) (L : mL) (R : mR) (hT : WT kdM R) (x0 : Nat) (x1 : Int32) (h0 : kdM x0 = 17) (o1 : Int32) (hf : f_X11_isHead x0 x1 I R = some o1) : Met l yX11_isHead (Cond.code yX11_isHead cX11_isHead 2 (some .boolean) :: GW) rmX11_isHead (va_Pc [.ref (b + x0), .int x1] (PW D ce b kdM lnM 21 I L R)) (va_Qi (fun r u => r = o1 ∧ u = (I, L, R)) (QW D ce b kdM lnM 21) (box b 21)) 0 0 (box b 21) := by
  refine Met.ofW (cc := cX11_isHead) (maxL := 2) (ret := (some .boolean)) (by decide) rfl ?_
  intro p e s m args below meth c s₁ B hml hv
  obtain ⟨rfl, hP, hKK⟩ := hv
  have hx := B.exec
  have hb := B.bytes
  have hr := B.returns
  have hts0 := atoms_spec (ws := Cond.code yX11_isHead cX11_isHead 2 (some .boolean) :: GW) B.pre
  have hts : ∀ w ∈ GW, w.before _ s = true := fun w h => hts0 w (List.mem_cons_of_mem _ h)
  clear hts0
  have hown : s.vm.findClass RX11 = some m.cls := findClass_of_methodNamed B.named
  have hlocks := B.notSynchronized
  have hA : ∀ q, box b 21 q → box b 21 q := fun _ h => h
  have hS : va_S (box b 21) s.heap s.heap [] := va_S.rf
  have hl := lv_entry ([.ref (b + x0), .int x1]) (n := 2) (Nat.le_of_ble_eq_true rfl)
  rw [lg_entry_eq]
  generalize (lg_sl ([.ref (b + x0), .int x1]) ++ List.replicate (2 - (lg_sl ([.ref (b + x0), .int x1])).length) Slot.unset).toArray = ls at hl ⊢
  have hl : lv_has ls 2 [(0, .ref (b + x0)), (1, .int x1)] := hl
  generalize ([.ref (b + x0), .int x1] : List Value).toArray = av at hts ⊢
  show W p l e rmX11_isHead s m av below meth c s.heap [] 0 0 _ _
  obtain ⟨QQ, hQQ⟩ : ∃ z, z = MQ below (va_Qi (fun r u => r = o1 ∧ u = (I, L, R)) (QW D ce b kdM lnM 21) (box b 21)) av s 0 0 (box b 21) := ⟨_, rfl⟩
  rw [← hQQ]
  have hret : ∀ (r : Int32), some r = some o1 → ∀ (H1 : Heap) (locs1 : List Loc) (ls1 : Array Slot) (pc1 : Nat), decode cX11_isHead pc1 = .ok (.ireturn, 1) → zb r = true → va_P D vwCl (wd ce b kdM lnM 21 I L R) H1 → WT kdM R → va_S (box b 21) s.heap H1 locs1 → W p l e rmX11_isHead s m av below meth c H1 locs1 0 0 QQ (F0 m pc1 ls1 [.int r]) := by
    intro r hq H1 locs1 ls1 pc1 hd hz hP hT hS
    cases hq
    rw [hQQ]
    exact mm_zret hx hb hr hlocks hz hP hT hS hd
  unfold f_X11_isHead at hf
  obtain ⟨H, hH⟩ : ∃ z, z = s.heap := ⟨_, rfl⟩
  obtain ⟨locs, hlo⟩ : ∃ z : List Loc, z = [] := ⟨_, rfl⟩
  have hP : va_P D vwCl (wd ce b kdM lnM 21 I L R) H := by rw [hH]; exact hP
  have hS : va_S (box b 21) s.heap H locs := by rw [hH, hlo]; exact hS
  rw [show W p l e rmX11_isHead s m av below meth c s.heap [] 0 0 QQ = W p l e rmX11_isHead s m av below meth c H locs 0 0 QQ by rw [hH, hlo]]
  clear hH hlo
  clear hQQ
  show W p l e rmX11_isHead s m av below meth c H locs 0 0 QQ (F0 m 0 ls [])
  refine lv_aload_n hx hb dX11_isHead_0 rfl (lv_at hl 0 rfl) ?_
  obtain ⟨r1, e1, hf⟩ := bd1_o hf
  refine mm_Vi (rest := []) hx hb hml hown hts hKK hP hS hA (kdM_lt h0 (Nat.succ_ne_zero _)) h0 (show vwCl[11]? = some (yX11_heads.cls, TX11, 32) from rfl) vkX11_155 (k_X11_heads l D ce b I L R hT x0 h0 r1 e1) rfl hl.1 rfl (Nat.le_of_ble_eq_true rfl) ⟨rfl, rfl⟩ ⟨Nat.le_of_ble_eq_true rfl, Nat.le_of_ble_eq_true rfl⟩ ⟨Nat.zero_le _, Nat.zero_le _⟩ dX11_isHead_1 (fun H locs hP hT hS => ?_)
  refine lv_iload_n hx hb dX11_isHead_4 rfl (lv_at hl 1 rfl) ?_
  refine lv_bipush (v := (97 : Int32)) hx hb dX11_isHead_5 (by decide) ?_
  refine lv_isub hx hb dX11_isHead_7 ?_
  refine lv_ishr hx hb dX11_isHead_8 ?_
  refine lv_iconst (v := (1 : Int32)) hx hb dX11_isHead_9 (by decide) ?_
  refine lv_iand hx hb dX11_isHead_10 ?_
  refine lv_iconst (v := (1 : Int32)) hx hb dX11_isHead_11 (by decide) ?_
  refine lv_icmp_ne (tgt := 19) hx hb dX11_isHead_12 (by decide) (fun c2 => ?_) (fun c2 => ?_)
  · have hf := ifF hf c2
    refine lv_iconst (v := (0 : Int32)) hx hb dX11_isHead_19 (by decide) ?_
    exact hret (0 : Int32) hf H locs ls _ dX11_isHead_20 rfl hP hT hS
  · have hf := ifT hf c2
    refine lv_iconst (v := (1 : Int32)) hx hb dX11_isHead_15 (by decide) ?_
    refine lv_goto (tgt := 20) hx hb dX11_isHead_16 (by decide) ?_
    exact hret (1 : Int32) hf H locs ls _ dX11_isHead_20 rfl hP hT hS
def rmX11_ruleTold : Room := { frames := 3, cells := 0, slots := 0, locals := 63 }
set_option maxHeartbeats 4000000 in
set_option maxRecDepth 100000 in
theorem k_X11_ruleTold (l : Launch) (D : va_G) (ce : Nat → ClassId) (b : Nat) (I : mI) (L : mL) (R : mR) (hT : WT kdM R) (x0 : Nat) (x1 : Int32) (x2 : Int32) (h0 : kdM x0 = 17) (o1 : Int32) (hf : f_X11_ruleTold x0 x1 x2 I R = some o1) : Met l yX11_ruleTold (Cond.code yX11_ruleTold cX11_ruleTold 5 (some .int) :: GW) rmX11_ruleTold (va_Pc [.ref (b + x0), .int x1, .int x2] (PW D ce b kdM lnM 21 I L R)) (va_Qi (fun r u => r = o1 ∧ u = (I, L, R)) (QW D ce b kdM lnM 21) (box b 21)) 0 0 (box b 21) := by
  refine Met.ofW (cc := cX11_ruleTold) (maxL := 5) (ret := (some .int)) (by decide) rfl ?_
  intro p e s m args below meth c s₁ B hml hv
  obtain ⟨rfl, hP, hKK⟩ := hv
  have hx := B.exec
  have hb := B.bytes
  have hr := B.returns
  have hts0 := atoms_spec (ws := Cond.code yX11_ruleTold cX11_ruleTold 5 (some .int) :: GW) B.pre
  have hts : ∀ w ∈ GW, w.before _ s = true := fun w h => hts0 w (List.mem_cons_of_mem _ h)
  clear hts0
  have hown : s.vm.findClass RX11 = some m.cls := findClass_of_methodNamed B.named
  have hlocks := B.notSynchronized
  have hA : ∀ q, box b 21 q → box b 21 q := fun _ h => h
  have hS : va_S (box b 21) s.heap s.heap [] := va_S.rf
  have hl := lv_entry ([.ref (b + x0), .int x1, .int x2]) (n := 5) (Nat.le_of_ble_eq_true rfl)
  rw [lg_entry_eq]
  generalize (lg_sl ([.ref (b + x0), .int x1, .int x2]) ++ List.replicate (5 - (lg_sl ([.ref (b + x0), .int x1, .int x2])).length) Slot.unset).toArray = ls at hl ⊢
  have hl : lv_has ls 5 [(0, .ref (b + x0)), (1, .int x1), (2, .int x2)] := hl
  generalize ([.ref (b + x0), .int x1, .int x2] : List Value).toArray = av at hts ⊢
  show W p l e rmX11_ruleTold s m av below meth c s.heap [] 0 0 _ _
  obtain ⟨QQ, hQQ⟩ : ∃ z, z = MQ below (va_Qi (fun r u => r = o1 ∧ u = (I, L, R)) (QW D ce b kdM lnM 21) (box b 21)) av s 0 0 (box b 21) := ⟨_, rfl⟩
  rw [← hQQ]
  have hret : ∀ (r : Int32), some r = some o1 → ∀ (H1 : Heap) (locs1 : List Loc) (ls1 : Array Slot) (pc1 : Nat), decode cX11_ruleTold pc1 = .ok (.ireturn, 1) → va_P D vwCl (wd ce b kdM lnM 21 I L R) H1 → WT kdM R → va_S (box b 21) s.heap H1 locs1 → W p l e rmX11_ruleTold s m av below meth c H1 locs1 0 0 QQ (F0 m pc1 ls1 [.int r]) := by
    intro r hq H1 locs1 ls1 pc1 hd hP hT hS
    cases hq
    rw [hQQ]
    exact mm_iret hx hb hr hlocks hP hT hS hd
  unfold f_X11_ruleTold at hf
  obtain ⟨H, hH⟩ : ∃ z, z = s.heap := ⟨_, rfl⟩
  obtain ⟨locs, hlo⟩ : ∃ z : List Loc, z = [] := ⟨_, rfl⟩
  have hP : va_P D vwCl (wd ce b kdM lnM 21 I L R) H := by rw [hH]; exact hP
  have hS : va_S (box b 21) s.heap H locs := by rw [hH, hlo]; exact hS
  rw [show W p l e rmX11_ruleTold s m av below meth c s.heap [] 0 0 QQ = W p l e rmX11_ruleTold s m av below meth c H locs 0 0 QQ by rw [hH, hlo]]
  clear hH hlo
  clear hQQ
  show W p l e rmX11_ruleTold s m av below meth c H locs 0 0 QQ (F0 m 0 ls [])
  refine lv_iload_n hx hb dX11_ruleTold_0 rfl (lv_at hl 2 rfl) ?_
  by_cases c1 : x2 = (0 : Int32)
  · have hf := ifT hf c1
    refine lv_tableIn (off := 35) (tgt := 36) hx hb dX11_ruleTold_1 (by rw [c1]; decide) (by rw [c1]; decide) (by rw [c1]; first | done | rfl) (by decide) ?_
    refine lv_aload_n hx hb dX11_ruleTold_36 rfl (lv_at hl 0 rfl) ?_
    have t2 : kdM (R x0 0) = 1 := wt hT h0 rfl
    refine mm_getr hx hb hts hown hKK hP fk11_0 (Nat.le_of_ble_eq_true rfl) lkX11_7 (kdM_lt h0 (Nat.succ_ne_zero _)) h0 (nM t2 (Nat.succ_ne_zero _)) dX11_ruleTold_37 ?_
    refine lv_iload_n hx hb dX11_ruleTold_40 rfl (lv_at hl 1 rfl) ?_
    obtain ⟨r3, e3, hf⟩ := bd1_o hf
    refine mm_Si (rest := []) hx hb hml hown hts hKK hP hS hA skX11_158 (k_X11_leftLong l D ce b I L R hT (R x0 0) x1 t2 r3 e3) rfl hl.1 rfl (Nat.le_of_ble_eq_true rfl) ⟨rfl, rfl⟩ ⟨Nat.le_of_ble_eq_true rfl, Nat.le_of_ble_eq_true rfl⟩ ⟨Nat.zero_le _, Nat.zero_le _⟩ dX11_ruleTold_41 (fun H locs hP hT hS => ?_)
    exact hret r3 hf H locs ls _ dX11_ruleTold_44 hP hT hS
  · have hf := ifF hf c1
    by_cases c4 : x2 = (1 : Int32)
    · have hf := ifT hf c4
      refine lv_tableIn (off := 44) (tgt := 45) hx hb dX11_ruleTold_1 (by rw [c4]; decide) (by rw [c4]; decide) (by rw [c4]; first | done | rfl) (by decide) ?_
      refine lv_aload_n hx hb dX11_ruleTold_45 rfl (lv_at hl 0 rfl) ?_
      have t5 : kdM (R x0 0) = 1 := wt hT h0 rfl
      refine mm_getr hx hb hts hown hKK hP fk11_0 (Nat.le_of_ble_eq_true rfl) lkX11_7 (kdM_lt h0 (Nat.succ_ne_zero _)) h0 (nM t5 (Nat.succ_ne_zero _)) dX11_ruleTold_46 ?_
      refine lv_iload_n hx hb dX11_ruleTold_49 rfl (lv_at hl 1 rfl) ?_
      obtain ⟨r6, e6, hf⟩ := bd1_o hf
      refine mm_Si (rest := []) hx hb hml hown hts hKK hP hS hA skX11_162 (k_X11_rightLong l D ce b I L R hT (R x0 0) x1 t5 r6 e6) rfl hl.1 rfl (Nat.le_of_ble_eq_true rfl) ⟨rfl, rfl⟩ ⟨Nat.le_of_ble_eq_true rfl, Nat.le_of_ble_eq_true rfl⟩ ⟨Nat.zero_le _, Nat.zero_le _⟩ dX11_ruleTold_50 (fun H locs hP hT hS => ?_)
      exact hret r6 hf H locs ls _ dX11_ruleTold_53 hP hT hS
    · have hf := ifF hf c4
      by_cases c7 : x2 = (2 : Int32)
      · have hf := ifT hf c7
        refine lv_tableIn (off := 53) (tgt := 54) hx hb dX11_ruleTold_1 (by rw [c7]; decide) (by rw [c7]; decide) (by rw [c7]; first | done | rfl) (by decide) ?_
        refine lv_aload_n hx hb dX11_ruleTold_54 rfl (lv_at hl 0 rfl) ?_
        have t8 : kdM (R x0 0) = 1 := wt hT h0 rfl
        refine mm_getr hx hb hts hown hKK hP fk11_0 (Nat.le_of_ble_eq_true rfl) lkX11_7 (kdM_lt h0 (Nat.succ_ne_zero _)) h0 (nM t8 (Nat.succ_ne_zero _)) dX11_ruleTold_55 ?_
        refine lv_iload_n hx hb dX11_ruleTold_58 rfl (lv_at hl 1 rfl) ?_
        obtain ⟨r9, e9, hf⟩ := bd1_o hf
        refine mm_Si (rest := [.ref (b + (R x0 0))]) hx hb hml hown hts hKK hP hS hA skX11_117 (k_X11_leftOf l D ce b I L R hT x1  r9 e9) rfl hl.1 rfl (Nat.le_of_ble_eq_true rfl) ⟨rfl, rfl⟩ ⟨Nat.le_of_ble_eq_true rfl, Nat.le_of_ble_eq_true rfl⟩ ⟨Nat.zero_le _, Nat.zero_le _⟩ dX11_ruleTold_59 (fun H locs hP hT hS => ?_)
        obtain ⟨g10, hf⟩ := grd hf
        refine mm_iald hx hb hKK hP (kdM_lt t8 (Nat.succ_ne_zero _)) t8 g10 dX11_ruleTold_62 ?_
        exact hret (I (R x0 0) r9.toNatClampNeg) hf H locs ls _ dX11_ruleTold_63 hP hT hS
      · have hf := ifF hf c7
        by_cases c11 : x2 = (3 : Int32)
        · have hf := ifT hf c11
          refine lv_tableIn (off := 63) (tgt := 64) hx hb dX11_ruleTold_1 (by rw [c11]; decide) (by rw [c11]; decide) (by rw [c11]; first | done | rfl) (by decide) ?_
          refine lv_aload_n hx hb dX11_ruleTold_64 rfl (lv_at hl 0 rfl) ?_
          have t12 : kdM (R x0 0) = 1 := wt hT h0 rfl
          refine mm_getr hx hb hts hown hKK hP fk11_0 (Nat.le_of_ble_eq_true rfl) lkX11_7 (kdM_lt h0 (Nat.succ_ne_zero _)) h0 (nM t12 (Nat.succ_ne_zero _)) dX11_ruleTold_65 ?_
          refine lv_iload_n hx hb dX11_ruleTold_68 rfl (lv_at hl 1 rfl) ?_
          obtain ⟨r13, e13, hf⟩ := bd1_o hf
          refine mm_Si (rest := [.ref (b + (R x0 0))]) hx hb hml hown hts hKK hP hS hA skX11_117 (k_X11_leftOf l D ce b I L R hT x1  r13 e13) rfl hl.1 rfl (Nat.le_of_ble_eq_true rfl) ⟨rfl, rfl⟩ ⟨Nat.le_of_ble_eq_true rfl, Nat.le_of_ble_eq_true rfl⟩ ⟨Nat.zero_le _, Nat.zero_le _⟩ dX11_ruleTold_69 (fun H locs hP hT hS => ?_)
          refine lv_aload_n hx hb dX11_ruleTold_72 rfl (lv_at hl 0 rfl) ?_
          refine mm_getr hx hb hts hown hKK hP fk11_0 (Nat.le_of_ble_eq_true rfl) lkX11_7 (kdM_lt h0 (Nat.succ_ne_zero _)) h0 (nM t12 (Nat.succ_ne_zero _)) dX11_ruleTold_73 ?_
          refine lv_iload_n hx hb dX11_ruleTold_76 rfl (lv_at hl 1 rfl) ?_
          obtain ⟨r14, e14, hf⟩ := bd1_o hf
          refine mm_Si (rest := [.int r13, .ref (b + (R x0 0))]) hx hb hml hown hts hKK hP hS hA skX11_158 (k_X11_leftLong l D ce b I L R hT (R x0 0) x1 t12 r14 e14) rfl hl.1 rfl (Nat.le_of_ble_eq_true rfl) ⟨rfl, rfl⟩ ⟨Nat.le_of_ble_eq_true rfl, Nat.le_of_ble_eq_true rfl⟩ ⟨Nat.zero_le _, Nat.zero_le _⟩ dX11_ruleTold_77 (fun H locs hP hT hS => ?_)
          obtain ⟨r15, e15, hf⟩ := bd1_o hf
          refine mm_Si (rest := []) hx hb hml hown hts hKK hP hS hA skX11_130 (k_X11_unknowns l D ce b I L R hT (R x0 0) r13 r14 t12 r15 e15) rfl hl.1 rfl (Nat.le_of_ble_eq_true rfl) ⟨rfl, rfl⟩ ⟨Nat.le_of_ble_eq_true rfl, Nat.le_of_ble_eq_true rfl⟩ ⟨Nat.zero_le _, Nat.zero_le _⟩ dX11_ruleTold_80 (fun H locs hP hT hS => ?_)
          exact hret r15 hf H locs ls _ dX11_ruleTold_83 hP hT hS
        · have hf := ifF hf c11
          by_cases c16 : x2 = (4 : Int32)
          · have hf := ifT hf c16
            refine lv_tableIn (off := 83) (tgt := 84) hx hb dX11_ruleTold_1 (by rw [c16]; decide) (by rw [c16]; decide) (by rw [c16]; first | done | rfl) (by decide) ?_
            refine lv_aload_n hx hb dX11_ruleTold_84 rfl (lv_at hl 0 rfl) ?_
            have t17 : kdM (R x0 0) = 1 := wt hT h0 rfl
            refine mm_getr hx hb hts hown hKK hP fk11_0 (Nat.le_of_ble_eq_true rfl) lkX11_7 (kdM_lt h0 (Nat.succ_ne_zero _)) h0 (nM t17 (Nat.succ_ne_zero _)) dX11_ruleTold_85 ?_
            refine lv_iload_n hx hb dX11_ruleTold_88 rfl (lv_at hl 1 rfl) ?_
            obtain ⟨r18, e18, hf⟩ := bd1_o hf
            refine mm_Si (rest := [.ref (b + (R x0 0))]) hx hb hml hown hts hKK hP hS hA skX11_127 (k_X11_rightOf l D ce b I L R hT x1  r18 e18) rfl hl.1 rfl (Nat.le_of_ble_eq_true rfl) ⟨rfl, rfl⟩ ⟨Nat.le_of_ble_eq_true rfl, Nat.le_of_ble_eq_true rfl⟩ ⟨Nat.zero_le _, Nat.zero_le _⟩ dX11_ruleTold_89 (fun H locs hP hT hS => ?_)
            refine lv_aload_n hx hb dX11_ruleTold_92 rfl (lv_at hl 0 rfl) ?_
            refine mm_getr hx hb hts hown hKK hP fk11_0 (Nat.le_of_ble_eq_true rfl) lkX11_7 (kdM_lt h0 (Nat.succ_ne_zero _)) h0 (nM t17 (Nat.succ_ne_zero _)) dX11_ruleTold_93 ?_
            refine lv_iload_n hx hb dX11_ruleTold_96 rfl (lv_at hl 1 rfl) ?_
            obtain ⟨r19, e19, hf⟩ := bd1_o hf
            refine mm_Si (rest := [.int r18, .ref (b + (R x0 0))]) hx hb hml hown hts hKK hP hS hA skX11_162 (k_X11_rightLong l D ce b I L R hT (R x0 0) x1 t17 r19 e19) rfl hl.1 rfl (Nat.le_of_ble_eq_true rfl) ⟨rfl, rfl⟩ ⟨Nat.le_of_ble_eq_true rfl, Nat.le_of_ble_eq_true rfl⟩ ⟨Nat.zero_le _, Nat.zero_le _⟩ dX11_ruleTold_97 (fun H locs hP hT hS => ?_)
            obtain ⟨r20, e20, hf⟩ := bd1_o hf
            refine mm_Si (rest := []) hx hb hml hown hts hKK hP hS hA skX11_130 (k_X11_unknowns l D ce b I L R hT (R x0 0) r18 r19 t17 r20 e20) rfl hl.1 rfl (Nat.le_of_ble_eq_true rfl) ⟨rfl, rfl⟩ ⟨Nat.le_of_ble_eq_true rfl, Nat.le_of_ble_eq_true rfl⟩ ⟨Nat.zero_le _, Nat.zero_le _⟩ dX11_ruleTold_100 (fun H locs hP hT hS => ?_)
            exact hret r20 hf H locs ls _ dX11_ruleTold_103 hP hT hS
          · have hf := ifF hf c16
            have qc1 := lv_neT c1 (a := 0) rfl
            have qc4 := lv_neT c4 (a := 1) rfl
            have qc7 := lv_neT c7 (a := 2) rfl
            have qc11 := lv_neT c11 (a := 3) rfl
            have qc16 := lv_neT c16 (a := 4) rfl
            refine lv_tableOut (tgt := 104) hx hb dX11_ruleTold_1 (by omega) (by decide) ?_
            refine lv_iconst (v := (0 : Int32)) hx hb dX11_ruleTold_104 (by decide) ?_
            refine lv_istore_n (lv' := [(3, .int (0 : Int32)), (0, .ref (b + x0)), (1, .int x1), (2, .int x2)]) hx hb dX11_ruleTold_105 rfl hl (Nat.le_of_ble_eq_true rfl) rfl (fun ls hl => ?_)
            refine lv_iconst (v := (0 : Int32)) hx hb dX11_ruleTold_106 (by decide) ?_
            refine lv_istore (lv' := [(4, .int (0 : Int32)), (3, .int (0 : Int32)), (0, .ref (b + x0)), (1, .int x1), (2, .int x2)]) hx hb dX11_ruleTold_107 hl (Nat.le_of_ble_eq_true rfl) rfl (fun ls hl => ?_)
            have lp109 : ∀ (n : Nat) (x0 : Nat) (x1 : Int32) (x3 : Int32) (x4 : Int32) (I : mI) (L : mL) (R : mR) (a1 : Int32) (H : Heap) (locs : List Loc) (ls : Array Slot), va_P D vwCl (wd ce b kdM lnM 21 I L R) H → va_S (box b 21) s.heap H locs → WT kdM R → kdM x0 = 17 → lv_has ls 5 [(0, .ref (b + x0)), (1, .int x1), (3, .int x3), (4, .int x4)] → f_X11_ruleTold_L109 n x0 x1 x3 x4 I R = some a1 → (∀ (H1 : Heap) (locs1 : List Loc) (ls1 : Array Slot), va_P D vwCl (wd ce b kdM lnM 21 I L R) H1 → va_S (box b 21) s.heap H1 locs1 → lv_has ls1 5 [(3, .int a1)] → W p l e rmX11_ruleTold s m av below meth c H1 locs1 0 0 QQ (F0 m 155 ls1 [])) → W p l e rmX11_ruleTold s m av below meth c H locs 0 0 QQ (F0 m 109 ls []) := by
              intro n
              induction n with
              | zero =>
                intro x0 x1 x3 x4 I L R a1 H locs ls hP hS hT h0 hl hf kx
                exact absurd (show (none : Option (Int32)) = some _ from hf) (by simp)
              | succ n ih =>
                intro x0 x1 x3 x4 I L R a1 H locs ls hP hS hT h0 hl hf kx
                rw [f_X11_ruleTold_L109] at hf
                refine lv_iload hx hb dX11_ruleTold_109 (lv_at hl 3 rfl) ?_
                refine lv_aload_n hx hb dX11_ruleTold_111 rfl (lv_at hl 0 rfl) ?_
                have t21 : kdM (R x0 0) = 1 := wt hT h0 rfl
                refine mm_getr hx hb hts hown hKK hP fk11_0 (Nat.le_of_ble_eq_true rfl) lkX11_7 (kdM_lt h0 (Nat.succ_ne_zero _)) h0 (nM t21 (Nat.succ_ne_zero _)) dX11_ruleTold_112 ?_
                refine lv_iload_n hx hb dX11_ruleTold_115 rfl (lv_at hl 1 rfl) ?_
                obtain ⟨r22, e22, hf⟩ := bd1_o hf
                refine mm_Si (rest := [.int x4]) hx hb hml hown hts hKK hP hS hA skX11_162 (k_X11_rightLong l D ce b I L R hT (R x0 0) x1 t21 r22 e22) rfl hl.1 rfl (Nat.le_of_ble_eq_true rfl) ⟨rfl, rfl⟩ ⟨Nat.le_of_ble_eq_true rfl, Nat.le_of_ble_eq_true rfl⟩ ⟨Nat.zero_le _, Nat.zero_le _⟩ dX11_ruleTold_116 (fun H locs hP hT hS => ?_)
                refine lv_icmp_ge (tgt := 155) hx hb dX11_ruleTold_119 (by decide) (fun c23 => ?_) (fun c23 => ?_)
                · have hf := ifT hf c23
                  cases hf
                  exact kx H locs ls hP hS (lv_sub hl [2] rfl)
                · have hf := ifF hf c23
                  refine lv_iload_n hx hb dX11_ruleTold_122 rfl (lv_at hl 2 rfl) ?_
                  refine lv_aload_n hx hb dX11_ruleTold_123 rfl (lv_at hl 0 rfl) ?_
                  refine lv_aload_n hx hb dX11_ruleTold_124 rfl (lv_at hl 0 rfl) ?_
                  refine mm_getr hx hb hts hown hKK hP fk11_0 (Nat.le_of_ble_eq_true rfl) lkX11_7 (kdM_lt h0 (Nat.succ_ne_zero _)) h0 (nM t21 (Nat.succ_ne_zero _)) dX11_ruleTold_125 ?_
                  refine lv_iload_n hx hb dX11_ruleTold_128 rfl (lv_at hl 1 rfl) ?_
                  obtain ⟨r24, e24, hf⟩ := bd1_o hf
                  refine mm_Si (rest := [.ref (b + (R x0 0)), .ref (b + x0), .int x3]) hx hb hml hown hts hKK hP hS hA skX11_127 (k_X11_rightOf l D ce b I L R hT x1  r24 e24) rfl hl.1 rfl (Nat.le_of_ble_eq_true rfl) ⟨rfl, rfl⟩ ⟨Nat.le_of_ble_eq_true rfl, Nat.le_of_ble_eq_true rfl⟩ ⟨Nat.zero_le _, Nat.zero_le _⟩ dX11_ruleTold_129 (fun H locs hP hT hS => ?_)
                  refine lv_iload hx hb dX11_ruleTold_132 (lv_at hl 3 rfl) ?_
                  refine lv_iadd hx hb dX11_ruleTold_134 ?_
                  obtain ⟨g25, hf⟩ := grd hf
                  refine mm_iald hx hb hKK hP (kdM_lt t21 (Nat.succ_ne_zero _)) t21 g25 dX11_ruleTold_135 ?_
                  obtain ⟨r26, e26, hf⟩ := bd1_o hf
                  refine mm_Vi (rest := [.int x3]) hx hb hml hown hts hKK hP hS hA (kdM_lt h0 (Nat.succ_ne_zero _)) h0 (show vwCl[11]? = some (yX11_isHead.cls, TX11, 32) from rfl) vkX11_165 (k_X11_isHead l D ce b I L R hT x0 (I (R x0 0) ((r24 + x4)).toNatClampNeg) h0 r26 e26) rfl hl.1 rfl (Nat.le_of_ble_eq_true rfl) ⟨rfl, rfl⟩ ⟨Nat.le_of_ble_eq_true rfl, Nat.le_of_ble_eq_true rfl⟩ ⟨Nat.zero_le _, Nat.zero_le _⟩ dX11_ruleTold_136 (fun H locs hP hT hS => ?_)
                  refine jnE hf (fun j147_27 ej_27 hf => ?_)
                  have hJ147_27 : ∀ (w1_27 : Int32) (H : Heap) (locs : List Loc) (ls : Array Slot), va_P D vwCl (wd ce b kdM lnM 21 I L R) H → va_S (box b 21) s.heap H locs → lv_has ls 5 [(0, .ref (b + x0)), (1, .int x1), (4, .int x4)] → j147_27 w1_27 = some a1 → W p l e rmX11_ruleTold s m av below meth c H locs 0 0 QQ (F0 m 147 ls [.int w1_27, .int x3]) := by
                    intro w1_27 H locs ls hP hS  hl hf
                    rw [ej_27] at hf
                    try dsimp only at hf
                    refine lv_iadd hx hb dX11_ruleTold_147 ?_
                    refine lv_istore_n (lv' := [(3, .int (x3 + w1_27)), (0, .ref (b + x0)), (1, .int x1), (4, .int x4)]) hx hb dX11_ruleTold_148 rfl hl (Nat.le_of_ble_eq_true rfl) rfl (fun ls hl => ?_)
                    refine lv_iinc (v := (x4 + (1 : Int32))) (lv' := [(4, .int (x4 + (1 : Int32))), (3, .int (x3 + w1_27)), (0, .ref (b + x0)), (1, .int x1)]) hx hb dX11_ruleTold_149 hl (k := 3) rfl rfl (Nat.le_of_ble_eq_true rfl) rfl (fun ls hl => ?_)
                    refine lv_goto (tgt := 109) hx hb dX11_ruleTold_152 (by decide) ?_
                    exact ih x0 x1 (x3 + w1_27) (x4 + (1 : Int32)) I L R a1 H locs ls hP hS hT h0 (lv_sub hl [2, 3, 1, 0] rfl) hf kx
                  clear ej_27
                  refine lv_if_eq (tgt := 146) hx hb dX11_ruleTold_139 (by decide) (fun c28 => ?_) (fun c28 => ?_)
                  · have hf := ifT hf c28
                    refine lv_iconst (v := (0 : Int32)) hx hb dX11_ruleTold_146 (by decide) ?_
                    exact hJ147_27 (0 : Int32) H locs ls hP hS  (lv_sub hl [0, 1, 3] rfl) hf
                  · have hf := ifF hf c28
                    refine lv_iconst (v := (1 : Int32)) hx hb dX11_ruleTold_142 (by decide) ?_
                    refine lv_goto (tgt := 147) hx hb dX11_ruleTold_143 (by decide) ?_
                    exact hJ147_27 (1 : Int32) H locs ls hP hS  (lv_sub hl [0, 1, 3] rfl) hf
            obtain ⟨y3_29, e_29, hf⟩ := bd1_o hf
            refine lp109 FU x0 x1 (0 : Int32) (0 : Int32) I L R y3_29 H locs ls hP hS hT h0 (lv_sub hl [2, 3, 1, 0] rfl) e_29 (fun H locs ls hP hS hl => ?_)
            refine lv_iload_n hx hb dX11_ruleTold_155 rfl (lv_at hl 0 rfl) ?_
            exact hret y3_29 hf H locs ls _ dX11_ruleTold_156 hP hT hS
def rmX11_of : Room := { frames := 4, cells := 0, slots := 0, locals := 87 }
set_option maxHeartbeats 4000000 in
set_option maxRecDepth 100000 in
theorem k_X11_of (l : Launch) (D : va_G) (ce : Nat → ClassId) (b : Nat) (I : mI) (L : mL) (R : mR) (hT : WT kdM R) (x0 : Nat) (x1 : Int32) (x2 : Int32) (h0 : kdM x0 = 17) (o1 : Int32) (o2 : mI) (hf : f_X11_of x0 x1 x2 I R = some (o1, o2)) : Met l yX11_of (Cond.code yX11_of cX11_of 3 (some .int) :: GW) rmX11_of (va_Pc [.ref (b + x0), .int x1, .int x2] (PW D ce b kdM lnM 21 I L R)) (va_Qi (fun r u => r = o1 ∧ u = (o2, L, R)) (QW D ce b kdM lnM 21) (box b 21)) 0 0 (box b 21) := by
  refine Met.ofW (cc := cX11_of) (maxL := 3) (ret := (some .int)) (by decide) rfl ?_
  intro p e s m args below meth c s₁ B hml hv
  obtain ⟨rfl, hP, hKK⟩ := hv
  have hx := B.exec
  have hb := B.bytes
  have hr := B.returns
  have hts0 := atoms_spec (ws := Cond.code yX11_of cX11_of 3 (some .int) :: GW) B.pre
  have hts : ∀ w ∈ GW, w.before _ s = true := fun w h => hts0 w (List.mem_cons_of_mem _ h)
  clear hts0
  have hown : s.vm.findClass RX11 = some m.cls := findClass_of_methodNamed B.named
  have hlocks := B.notSynchronized
  have hA : ∀ q, box b 21 q → box b 21 q := fun _ h => h
  have hS : va_S (box b 21) s.heap s.heap [] := va_S.rf
  have hl := lv_entry ([.ref (b + x0), .int x1, .int x2]) (n := 3) (Nat.le_of_ble_eq_true rfl)
  rw [lg_entry_eq]
  generalize (lg_sl ([.ref (b + x0), .int x1, .int x2]) ++ List.replicate (3 - (lg_sl ([.ref (b + x0), .int x1, .int x2])).length) Slot.unset).toArray = ls at hl ⊢
  have hl : lv_has ls 3 [(0, .ref (b + x0)), (1, .int x1), (2, .int x2)] := hl
  generalize ([.ref (b + x0), .int x1, .int x2] : List Value).toArray = av at hts ⊢
  show W p l e rmX11_of s m av below meth c s.heap [] 0 0 _ _
  obtain ⟨QQ, hQQ⟩ : ∃ z, z = MQ below (va_Qi (fun r u => r = o1 ∧ u = (o2, L, R)) (QW D ce b kdM lnM 21) (box b 21)) av s 0 0 (box b 21) := ⟨_, rfl⟩
  rw [← hQQ]
  have hret : ∀ (r : Int32) (I1 : mI), some (r, I1) = some (o1, o2) → ∀ (H1 : Heap) (locs1 : List Loc) (ls1 : Array Slot) (pc1 : Nat), decode cX11_of pc1 = .ok (.ireturn, 1) → va_P D vwCl (wd ce b kdM lnM 21 I1 L R) H1 → WT kdM R → va_S (box b 21) s.heap H1 locs1 → W p l e rmX11_of s m av below meth c H1 locs1 0 0 QQ (F0 m pc1 ls1 [.int r]) := by
    intro r I1 hq H1 locs1 ls1 pc1 hd hP hT hS
    cases hq
    rw [hQQ]
    exact mm_iret hx hb hr hlocks hP hT hS hd
  unfold f_X11_of at hf
  obtain ⟨H, hH⟩ : ∃ z, z = s.heap := ⟨_, rfl⟩
  obtain ⟨locs, hlo⟩ : ∃ z : List Loc, z = [] := ⟨_, rfl⟩
  have hP : va_P D vwCl (wd ce b kdM lnM 21 I L R) H := by rw [hH]; exact hP
  have hS : va_S (box b 21) s.heap H locs := by rw [hH, hlo]; exact hS
  rw [show W p l e rmX11_of s m av below meth c s.heap [] 0 0 QQ = W p l e rmX11_of s m av below meth c H locs 0 0 QQ by rw [hH, hlo]]
  clear hH hlo
  clear hQQ
  show W p l e rmX11_of s m av below meth c H locs 0 0 QQ (F0 m 0 ls [])
  refine lv_aload_n hx hb dX11_of_0 rfl (lv_at hl 0 rfl) ?_
  refine lv_iload_n hx hb dX11_of_1 rfl (lv_at hl 1 rfl) ?_
  obtain ⟨r1, e1, hf⟩ := bd1_o hf
  refine mm_Vi (rest := []) hx hb hml hown hts hKK hP hS hA (kdM_lt h0 (Nat.succ_ne_zero _)) h0 (show vwCl[11]? = some (yX11_isRule.cls, TX11, 32) from rfl) vkX11_148 (k_X11_isRule l D ce b I L R hT x0 x1 h0 r1 e1) rfl hl.1 rfl (Nat.le_of_ble_eq_true rfl) ⟨rfl, rfl⟩ ⟨Nat.le_of_ble_eq_true rfl, Nat.le_of_ble_eq_true rfl⟩ ⟨Nat.zero_le _, Nat.zero_le _⟩ dX11_of_2 (fun H locs hP hT hS => ?_)
  refine jnE hf (fun j26_2 ej_2 hf => ?_)
  have hJ26_2 : ∀ (H : Heap) (locs : List Loc) (ls : Array Slot), va_P D vwCl (wd ce b kdM lnM 21 I L R) H → va_S (box b 21) s.heap H locs → lv_has ls 3 [(0, .ref (b + x0))] → j26_2  = some (o1, o2) → W p l e rmX11_of s m av below meth c H locs 0 0 QQ (F0 m 26 ls []) := by
    intro  H locs ls hP hS  hl hf
    rw [ej_2] at hf
    try dsimp only at hf
    refine lv_aload_n hx hb dX11_of_26 rfl (lv_at hl 0 rfl) ?_
    refine lv_bipush (v := (-2 : Int32)) hx hb dX11_of_27 (by decide) ?_
    obtain ⟨r3, I3, e3, hf⟩ := bd2_o hf
    refine mm_Vi (rest := []) hx hb hml hown hts hKK hP hS hA (kdM_lt h0 (Nat.succ_ne_zero _)) h0 (show vwCl[11]? = some (yX11_refuses.cls, TX11, 32) from rfl) vkX11_80 (k_X11_refuses l D ce b I L R hT x0 (-2 : Int32) h0 r3 I3 e3) rfl hl.1 rfl (Nat.le_of_ble_eq_true rfl) ⟨rfl, rfl⟩ ⟨Nat.le_of_ble_eq_true rfl, Nat.le_of_ble_eq_true rfl⟩ ⟨Nat.zero_le _, Nat.zero_le _⟩ dX11_of_29 (fun H locs hP hT hS => ?_)
    exact hret r3 I3 hf H locs ls _ dX11_of_32 hP hT hS
  clear ej_2
  refine lv_if_eq (tgt := 26) hx hb dX11_of_5 (by decide) (fun c4 => ?_) (fun c4 => ?_)
  · have hf := ifT hf c4
    exact hJ26_2  H locs ls hP hS  (lv_sub hl [0] rfl) hf
  · have hf := ifF hf c4
    refine lv_iload_n hx hb dX11_of_8 rfl (lv_at hl 2 rfl) ?_
    refine lv_iconst (v := (0 : Int32)) hx hb dX11_of_9 (by decide) ?_
    refine lv_iconst (v := (5 : Int32)) hx hb dX11_of_10 (by decide) ?_
    obtain ⟨r5, e5, hf⟩ := bd1_o hf
    refine mm_Si (rest := []) hx hb hml hown hts hKK hP hS hA skX11_96 (k_X11_in l D ce b I L R hT x2 (0 : Int32) (5 : Int32)  r5 e5) rfl hl.1 rfl (Nat.le_of_ble_eq_true rfl) ⟨rfl, rfl⟩ ⟨Nat.le_of_ble_eq_true rfl, Nat.le_of_ble_eq_true rfl⟩ ⟨Nat.zero_le _, Nat.zero_le _⟩ dX11_of_11 (fun H locs hP hT hS => ?_)
    refine lv_if_eq (tgt := 26) hx hb dX11_of_14 (by decide) (fun c6 => ?_) (fun c6 => ?_)
    · have hf := ifT hf c6
      exact hJ26_2  H locs ls hP hS  (lv_sub hl [0] rfl) hf
    · have hf := ifF hf c6
      refine lv_aload_n hx hb dX11_of_17 rfl (lv_at hl 0 rfl) ?_
      refine lv_iload_n hx hb dX11_of_18 rfl (lv_at hl 1 rfl) ?_
      refine lv_iload_n hx hb dX11_of_19 rfl (lv_at hl 2 rfl) ?_
      obtain ⟨r7, e7, hf⟩ := bd1_o hf
      refine mm_Vi (rest := []) hx hb hml hown hts hKK hP hS hA (kdM_lt h0 (Nat.succ_ne_zero _)) h0 (show vwCl[11]? = some (yX11_ruleTold.cls, TX11, 32) from rfl) vkX11_168 (k_X11_ruleTold l D ce b I L R hT x0 x1 x2 h0 r7 e7) rfl hl.1 rfl (Nat.le_of_ble_eq_true rfl) ⟨rfl, rfl⟩ ⟨Nat.le_of_ble_eq_true rfl, Nat.le_of_ble_eq_true rfl⟩ ⟨Nat.zero_le _, Nat.zero_le _⟩ dX11_of_20 (fun H locs hP hT hS => ?_)
      refine lv_goto (tgt := 32) hx hb dX11_of_23 (by decide) ?_
      exact hret r7 I hf H locs ls _ dX11_of_32 hP hT hS
def rmX11_writes : Room := { frames := 0, cells := 0, slots := 0, locals := 0 }
set_option maxHeartbeats 4000000 in
set_option maxRecDepth 100000 in
theorem k_X11_writes (l : Launch) (D : va_G) (ce : Nat → ClassId) (b : Nat) (I : mI) (L : mL) (R : mR) (hT : WT kdM R) (x0 : Nat) (x1 : Int32) (h0 : kdM x0 = 17) (o1 : mI) (hf : f_X11_writes x0 x1 I R = some o1) : Met l yX11_writes (Cond.code yX11_writes cX11_writes 2 none :: GW) rmX11_writes (va_Pc [.ref (b + x0), .int x1] (PW D ce b kdM lnM 21 I L R)) (va_Qv (fun u => u = (o1, L, R)) (QW D ce b kdM lnM 21) (box b 21)) 0 0 (box b 21) := by
  refine Met.ofW (cc := cX11_writes) (maxL := 2) (ret := none) (by decide) rfl ?_
  intro p e s m args below meth c s₁ B hml hv
  obtain ⟨rfl, hP, hKK⟩ := hv
  have hx := B.exec
  have hb := B.bytes
  have hr := B.returns
  have hts0 := atoms_spec (ws := Cond.code yX11_writes cX11_writes 2 none :: GW) B.pre
  have hts : ∀ w ∈ GW, w.before _ s = true := fun w h => hts0 w (List.mem_cons_of_mem _ h)
  clear hts0
  have hown : s.vm.findClass RX11 = some m.cls := findClass_of_methodNamed B.named
  have hlocks := B.notSynchronized
  have hA : ∀ q, box b 21 q → box b 21 q := fun _ h => h
  have hS : va_S (box b 21) s.heap s.heap [] := va_S.rf
  have hl := lv_entry ([.ref (b + x0), .int x1]) (n := 2) (Nat.le_of_ble_eq_true rfl)
  rw [lg_entry_eq]
  generalize (lg_sl ([.ref (b + x0), .int x1]) ++ List.replicate (2 - (lg_sl ([.ref (b + x0), .int x1])).length) Slot.unset).toArray = ls at hl ⊢
  have hl : lv_has ls 2 [(0, .ref (b + x0)), (1, .int x1)] := hl
  generalize ([.ref (b + x0), .int x1] : List Value).toArray = av at hts ⊢
  show W p l e rmX11_writes s m av below meth c s.heap [] 0 0 _ _
  obtain ⟨QQ, hQQ⟩ : ∃ z, z = MQ below (va_Qv (fun u => u = (o1, L, R)) (QW D ce b kdM lnM 21) (box b 21)) av s 0 0 (box b 21) := ⟨_, rfl⟩
  rw [← hQQ]
  have hret : ∀ (I1 : mI), some I1 = some o1 → ∀ (H1 : Heap) (locs1 : List Loc) (ls1 : Array Slot) (pc1 : Nat), decode cX11_writes pc1 = .ok (.return_, 1) → va_P D vwCl (wd ce b kdM lnM 21 I1 L R) H1 → WT kdM R → va_S (box b 21) s.heap H1 locs1 → W p l e rmX11_writes s m av below meth c H1 locs1 0 0 QQ (F0 m pc1 ls1 []) := by
    intro I1 hq H1 locs1 ls1 pc1 hd hP hT hS
    cases hq
    rw [hQQ]
    exact mm_vret hx hb hr hlocks hP hT hS hd
  unfold f_X11_writes at hf
  obtain ⟨H, hH⟩ : ∃ z, z = s.heap := ⟨_, rfl⟩
  obtain ⟨locs, hlo⟩ : ∃ z : List Loc, z = [] := ⟨_, rfl⟩
  have hP : va_P D vwCl (wd ce b kdM lnM 21 I L R) H := by rw [hH]; exact hP
  have hS : va_S (box b 21) s.heap H locs := by rw [hH, hlo]; exact hS
  rw [show W p l e rmX11_writes s m av below meth c s.heap [] 0 0 QQ = W p l e rmX11_writes s m av below meth c H locs 0 0 QQ by rw [hH, hlo]]
  clear hH hlo
  clear hQQ
  show W p l e rmX11_writes s m av below meth c H locs 0 0 QQ (F0 m 0 ls [])
  refine lv_aload_n hx hb dX11_writes_0 rfl (lv_at hl 0 rfl) ?_
  have t1 : kdM (R x0 10) = 1 := wt hT h0 rfl
  refine mm_getr hx hb hts hown hKK hP fk11_10 (Nat.le_of_ble_eq_true rfl) lkX11_28 (kdM_lt h0 (Nat.succ_ne_zero _)) h0 (nM t1 (Nat.succ_ne_zero _)) dX11_writes_1 ?_
  refine lv_aload_n hx hb dX11_writes_4 rfl (lv_at hl 0 rfl) ?_
  refine mm_geti hx hb hts hown hKK hP fk11_11 (Or.inl rfl) lkX11_172 (kdM_lt h0 (Nat.succ_ne_zero _)) h0 dX11_writes_5 ?_
  refine lv_iload_n hx hb dX11_writes_8 rfl (lv_at hl 1 rfl) ?_
  obtain ⟨g2, hf⟩ := grd hf
  refine jnE hf (fun I3 eI3 hf => ?_)
  refine mm_iast hx hb hKK hP hA hS (kdM_lt t1 (Nat.succ_ne_zero _)) t1 g2 dX11_writes_9 (fun H locs hP hS => ?_)
  rw [← eI3] at hP
  refine lv_aload_n hx hb dX11_writes_10 rfl (lv_at hl 0 rfl) ?_
  refine lv_dup hx hb dX11_writes_11 rfl ?_
  refine mm_geti hx hb hts hown hKK hP fk11_11 (Or.inl rfl) lkX11_172 (kdM_lt h0 (Nat.succ_ne_zero _)) h0 dX11_writes_12 ?_
  refine lv_iconst (v := (1 : Int32)) hx hb dX11_writes_15 (by decide) ?_
  refine lv_iadd hx hb dX11_writes_16 ?_
  refine jnE hf (fun I4 eI4 hf => ?_)
  refine mm_puti hx hb hts hown hKK hP hA hS fk11_11 (Or.inl rfl) fw11_11 lkX11_172 (kdM_lt h0 (Nat.succ_ne_zero _)) h0 rfl rfl dX11_writes_17 (fun H locs hP hS => ?_)
  rw [← eI4] at hP
  exact hret I4 hf H locs ls _ dX11_writes_20 hP hT hS
def rmX11_writesTerm : Room := { frames := 2, cells := 0, slots := 0, locals := 42 }
set_option maxHeartbeats 4000000 in
set_option maxRecDepth 100000 in
theorem k_X11_writesTerm (l : Launch) (D : va_G) (ce : Nat → ClassId) (b : Nat) (I : mI) (L : mL) (R : mR) (hT : WT kdM R) (x0 : Nat) (x1 : Int32) (x2 : Int32) (h0 : kdM x0 = 17) (o1 : mI) (hf : f_X11_writesTerm x0 x1 x2 I R = some o1) : Met l yX11_writesTerm (Cond.code yX11_writesTerm cX11_writesTerm 4 none :: GW) rmX11_writesTerm (va_Pc [.ref (b + x0), .int x1, .int x2] (PW D ce b kdM lnM 21 I L R)) (va_Qv (fun u => u = (o1, L, R)) (QW D ce b kdM lnM 21) (box b 21)) 0 0 (box b 21) := by
  refine Met.ofW (cc := cX11_writesTerm) (maxL := 4) (ret := none) (by decide) rfl ?_
  intro p e s m args below meth c s₁ B hml hv
  obtain ⟨rfl, hP, hKK⟩ := hv
  have hx := B.exec
  have hb := B.bytes
  have hr := B.returns
  have hts0 := atoms_spec (ws := Cond.code yX11_writesTerm cX11_writesTerm 4 none :: GW) B.pre
  have hts : ∀ w ∈ GW, w.before _ s = true := fun w h => hts0 w (List.mem_cons_of_mem _ h)
  clear hts0
  have hown : s.vm.findClass RX11 = some m.cls := findClass_of_methodNamed B.named
  have hlocks := B.notSynchronized
  have hA : ∀ q, box b 21 q → box b 21 q := fun _ h => h
  have hS : va_S (box b 21) s.heap s.heap [] := va_S.rf
  have hl := lv_entry ([.ref (b + x0), .int x1, .int x2]) (n := 4) (Nat.le_of_ble_eq_true rfl)
  rw [lg_entry_eq]
  generalize (lg_sl ([.ref (b + x0), .int x1, .int x2]) ++ List.replicate (4 - (lg_sl ([.ref (b + x0), .int x1, .int x2])).length) Slot.unset).toArray = ls at hl ⊢
  have hl : lv_has ls 4 [(0, .ref (b + x0)), (1, .int x1), (2, .int x2)] := hl
  generalize ([.ref (b + x0), .int x1, .int x2] : List Value).toArray = av at hts ⊢
  show W p l e rmX11_writesTerm s m av below meth c s.heap [] 0 0 _ _
  obtain ⟨QQ, hQQ⟩ : ∃ z, z = MQ below (va_Qv (fun u => u = (o1, L, R)) (QW D ce b kdM lnM 21) (box b 21)) av s 0 0 (box b 21) := ⟨_, rfl⟩
  rw [← hQQ]
  have hret : ∀ (I1 : mI), some I1 = some o1 → ∀ (H1 : Heap) (locs1 : List Loc) (ls1 : Array Slot) (pc1 : Nat), decode cX11_writesTerm pc1 = .ok (.return_, 1) → va_P D vwCl (wd ce b kdM lnM 21 I1 L R) H1 → WT kdM R → va_S (box b 21) s.heap H1 locs1 → W p l e rmX11_writesTerm s m av below meth c H1 locs1 0 0 QQ (F0 m pc1 ls1 []) := by
    intro I1 hq H1 locs1 ls1 pc1 hd hP hT hS
    cases hq
    rw [hQQ]
    exact mm_vret hx hb hr hlocks hP hT hS hd
  unfold f_X11_writesTerm at hf
  obtain ⟨H, hH⟩ : ∃ z, z = s.heap := ⟨_, rfl⟩
  obtain ⟨locs, hlo⟩ : ∃ z : List Loc, z = [] := ⟨_, rfl⟩
  have hP : va_P D vwCl (wd ce b kdM lnM 21 I L R) H := by rw [hH]; exact hP
  have hS : va_S (box b 21) s.heap H locs := by rw [hH, hlo]; exact hS
  rw [show W p l e rmX11_writesTerm s m av below meth c s.heap [] 0 0 QQ = W p l e rmX11_writesTerm s m av below meth c H locs 0 0 QQ by rw [hH, hlo]]
  clear hH hlo
  clear hQQ
  show W p l e rmX11_writesTerm s m av below meth c H locs 0 0 QQ (F0 m 0 ls [])
  refine lv_aload_n hx hb dX11_writesTerm_0 rfl (lv_at hl 0 rfl) ?_
  refine lv_iconst (v := (0 : Int32)) hx hb dX11_writesTerm_1 (by decide) ?_
  refine jnE hf (fun I1 eI1 hf => ?_)
  refine mm_puti hx hb hts hown hKK hP hA hS fk11_9 (Or.inl rfl) fw11_9 lkX11_87 (kdM_lt h0 (Nat.succ_ne_zero _)) h0 rfl rfl dX11_writesTerm_2 (fun H locs hP hS => ?_)
  rw [← eI1] at hP
  refine lv_iconst (v := (0 : Int32)) hx hb dX11_writesTerm_5 (by decide) ?_
  refine lv_istore_n (lv' := [(3, .int (0 : Int32)), (0, .ref (b + x0)), (1, .int x1), (2, .int x2)]) hx hb dX11_writesTerm_6 rfl hl (Nat.le_of_ble_eq_true rfl) rfl (fun ls hl => ?_)
  have lp7 : ∀ (n : Nat) (x0 : Nat) (x1 : Int32) (x2 : Int32) (x3 : Int32) (I : mI) (L : mL) (R : mR) (a1 : mI) (H : Heap) (locs : List Loc) (ls : Array Slot), va_P D vwCl (wd ce b kdM lnM 21 I L R) H → va_S (box b 21) s.heap H locs → WT kdM R → kdM x0 = 17 → lv_has ls 4 [(0, .ref (b + x0)), (1, .int x1), (2, .int x2), (3, .int x3)] → f_X11_writesTerm_L7 n x0 x1 x2 x3 I R = some a1 → (∀ (H1 : Heap) (locs1 : List Loc) (ls1 : Array Slot), va_P D vwCl (wd ce b kdM lnM 21 a1 L R) H1 → va_S (box b 21) s.heap H1 locs1 → lv_has ls1 4 [(0, .ref (b + x0))] → W p l e rmX11_writesTerm s m av below meth c H1 locs1 0 0 QQ (F0 m 112 ls1 [])) → W p l e rmX11_writesTerm s m av below meth c H locs 0 0 QQ (F0 m 7 ls []) := by
    intro n
    induction n with
    | zero =>
      intro x0 x1 x2 x3 I L R a1 H locs ls hP hS hT h0 hl hf kx
      exact absurd (show (none : Option (mI)) = some _ from hf) (by simp)
    | succ n ih =>
      intro x0 x1 x2 x3 I L R a1 H locs ls hP hS hT h0 hl hf kx
      rw [f_X11_writesTerm_L7] at hf
      refine lv_iload_n hx hb dX11_writesTerm_7 rfl (lv_at hl 3 rfl) ?_
      refine lv_iload_n hx hb dX11_writesTerm_8 rfl (lv_at hl 2 rfl) ?_
      refine lv_icmp_ge (tgt := 112) hx hb dX11_writesTerm_9 (by decide) (fun c2 => ?_) (fun c2 => ?_)
      · have hf := ifT hf c2
        cases hf
        exact kx H locs ls hP hS (lv_sub hl [0] rfl)
      · have hf := ifF hf c2
        have lp12 : ∀ (n : Nat) (x0 : Nat) (x1 : Int32) (x2 : Int32) (x3 : Int32) (I : mI) (L : mL) (R : mR) (a1 : mI) (H : Heap) (locs : List Loc) (ls : Array Slot), va_P D vwCl (wd ce b kdM lnM 21 I L R) H → va_S (box b 21) s.heap H locs → WT kdM R → kdM x0 = 17 → lv_has ls 4 [(0, .ref (b + x0)), (1, .int x1), (2, .int x2), (3, .int x3)] → f_X11_writesTerm_L12 n x0 x1 x2 x3 I R = some a1 → (∀ (H1 : Heap) (locs1 : List Loc) (ls1 : Array Slot), va_P D vwCl (wd ce b kdM lnM 21 a1 L R) H1 → va_S (box b 21) s.heap H1 locs1 → lv_has ls1 4 [(0, .ref (b + x0)), (1, .int x1), (2, .int x2), (3, .int x3)] → W p l e rmX11_writesTerm s m av below meth c H1 locs1 0 0 QQ (F0 m 61 ls1 [])) → W p l e rmX11_writesTerm s m av below meth c H locs 0 0 QQ (F0 m 12 ls []) := by
          intro n
          induction n with
          | zero =>
            intro x0 x1 x2 x3 I L R a1 H locs ls hP hS hT h0 hl hf kx
            exact absurd (show (none : Option (mI)) = some _ from hf) (by simp)
          | succ n ih =>
            intro x0 x1 x2 x3 I L R a1 H locs ls hP hS hT h0 hl hf kx
            rw [f_X11_writesTerm_L12] at hf
            refine lv_aload_n hx hb dX11_writesTerm_12 rfl (lv_at hl 0 rfl) ?_
            refine mm_geti hx hb hts hown hKK hP fk11_9 (Or.inl rfl) lkX11_87 (kdM_lt h0 (Nat.succ_ne_zero _)) h0 dX11_writesTerm_13 ?_
            refine lv_if_le (tgt := 61) hx hb dX11_writesTerm_16 (by decide) (fun c3 => ?_) (fun c3 => ?_)
            · have hf := ifT hf c3
              cases hf
              exact kx H locs ls hP hS (lv_sub hl [0, 1, 2, 3] rfl)
            · have hf := ifF hf c3
              refine lv_aload_n hx hb dX11_writesTerm_19 rfl (lv_at hl 0 rfl) ?_
              have t4 : kdM (R x0 8) = 1 := wt hT h0 rfl
              refine mm_getr hx hb hts hown hKK hP fk11_8 (Nat.le_of_ble_eq_true rfl) lkX11_25 (kdM_lt h0 (Nat.succ_ne_zero _)) h0 (nM t4 (Nat.succ_ne_zero _)) dX11_writesTerm_20 ?_
              refine lv_aload_n hx hb dX11_writesTerm_23 rfl (lv_at hl 0 rfl) ?_
              refine mm_geti hx hb hts hown hKK hP fk11_9 (Or.inl rfl) lkX11_87 (kdM_lt h0 (Nat.succ_ne_zero _)) h0 dX11_writesTerm_24 ?_
              refine lv_iconst (v := (1 : Int32)) hx hb dX11_writesTerm_27 (by decide) ?_
              refine lv_isub hx hb dX11_writesTerm_28 ?_
              obtain ⟨g5, hf⟩ := grd hf
              refine mm_iald hx hb hKK hP (kdM_lt t4 (Nat.succ_ne_zero _)) t4 g5 dX11_writesTerm_29 ?_
              refine lv_bipush (v := (84 : Int32)) hx hb dX11_writesTerm_30 (by decide) ?_
              refine lv_icmp_eq (tgt := 61) hx hb dX11_writesTerm_32 (by decide) (fun c6 => ?_) (fun c6 => ?_)
              · have hf := ifT hf c6
                cases hf
                exact kx H locs ls hP hS (lv_sub hl [0, 1, 2, 3] rfl)
              · have hf := ifF hf c6
                refine lv_aload_n hx hb dX11_writesTerm_35 rfl (lv_at hl 0 rfl) ?_
                refine lv_dup hx hb dX11_writesTerm_36 rfl ?_
                refine mm_geti hx hb hts hown hKK hP fk11_9 (Or.inl rfl) lkX11_87 (kdM_lt h0 (Nat.succ_ne_zero _)) h0 dX11_writesTerm_37 ?_
                refine lv_iconst (v := (1 : Int32)) hx hb dX11_writesTerm_40 (by decide) ?_
                refine lv_isub hx hb dX11_writesTerm_41 ?_
                refine jnE hf (fun I7 eI7 hf => ?_)
                refine mm_puti hx hb hts hown hKK hP hA hS fk11_9 (Or.inl rfl) fw11_9 lkX11_87 (kdM_lt h0 (Nat.succ_ne_zero _)) h0 rfl rfl dX11_writesTerm_42 (fun H locs hP hS => ?_)
                rw [← eI7] at hP
                refine lv_aload_n hx hb dX11_writesTerm_45 rfl (lv_at hl 0 rfl) ?_
                refine lv_aload_n hx hb dX11_writesTerm_46 rfl (lv_at hl 0 rfl) ?_
                refine mm_getr hx hb hts hown hKK hP fk11_8 (Nat.le_of_ble_eq_true rfl) lkX11_25 (kdM_lt h0 (Nat.succ_ne_zero _)) h0 (nM t4 (Nat.succ_ne_zero _)) dX11_writesTerm_47 ?_
                refine lv_aload_n hx hb dX11_writesTerm_50 rfl (lv_at hl 0 rfl) ?_
                refine mm_geti hx hb hts hown hKK hP fk11_9 (Or.inl rfl) lkX11_87 (kdM_lt h0 (Nat.succ_ne_zero _)) h0 dX11_writesTerm_51 ?_
                obtain ⟨g8, hf⟩ := grd hf
                refine mm_iald hx hb hKK hP (kdM_lt t4 (Nat.succ_ne_zero _)) t4 g8 dX11_writesTerm_54 ?_
                obtain ⟨I9, e9, hf⟩ := bd1_o hf
                refine mm_Vv (rest := []) hx hb hml hown hts hKK hP hS hA (kdM_lt h0 (Nat.succ_ne_zero _)) h0 (show vwCl[11]? = some (yX11_writes.cls, TX11, 32) from rfl) vkX11_175 (k_X11_writes l D ce b I7 L R hT x0 (I7 (R x0 8) ((I7 x0 9)).toNatClampNeg) h0 I9 e9) rfl hl.1 rfl (Nat.le_of_ble_eq_true rfl) ⟨rfl, rfl⟩ ⟨Nat.le_of_ble_eq_true rfl, Nat.le_of_ble_eq_true rfl⟩ ⟨Nat.zero_le _, Nat.zero_le _⟩ dX11_writesTerm_55 (fun H locs hP hT hS => ?_)
                refine lv_goto (tgt := 12) hx hb dX11_writesTerm_58 (by decide) ?_
                exact ih x0 x1 x2 x3 I9 L R a1 H locs ls hP hS hT h0 (lv_sub hl [0, 1, 2, 3] rfl) hf kx
        obtain ⟨I_10, e_10, hf⟩ := bd1_o hf
        refine lp12 FU x0 x1 x2 x3 I L R I_10 H locs ls hP hS hT h0 (lv_sub hl [0, 1, 2, 3] rfl) e_10 (fun H locs ls hP hS hl => ?_)
        refine lv_aload_n hx hb dX11_writesTerm_61 rfl (lv_at hl 0 rfl) ?_
        refine lv_dup hx hb dX11_writesTerm_62 rfl ?_
        refine mm_geti hx hb hts hown hKK hP fk11_9 (Or.inl rfl) lkX11_87 (kdM_lt h0 (Nat.succ_ne_zero _)) h0 dX11_writesTerm_63 ?_
        refine lv_aload_n hx hb dX11_writesTerm_66 rfl (lv_at hl 0 rfl) ?_
        refine mm_geti hx hb hts hown hKK hP fk11_9 (Or.inl rfl) lkX11_87 (kdM_lt h0 (Nat.succ_ne_zero _)) h0 dX11_writesTerm_67 ?_
        refine jnE hf (fun j78_11 ej_11 hf => ?_)
        have hJ78_11 : ∀ (w2_11 : Int32) (H : Heap) (locs : List Loc) (ls : Array Slot), va_P D vwCl (wd ce b kdM lnM 21 I_10 L R) H → va_S (box b 21) s.heap H locs → lv_has ls 4 [(0, .ref (b + x0)), (1, .int x1), (2, .int x2), (3, .int x3)] → j78_11 w2_11 = some a1 → W p l e rmX11_writesTerm s m av below meth c H locs 0 0 QQ (F0 m 78 ls [.int w2_11, .int (I_10 x0 9), .ref (b + x0)]) := by
          intro w2_11 H locs ls hP hS  hl hf
          rw [ej_11] at hf
          try dsimp only at hf
          refine lv_isub hx hb dX11_writesTerm_78 ?_
          refine jnE hf (fun I12 eI12 hf => ?_)
          refine mm_puti hx hb hts hown hKK hP hA hS fk11_9 (Or.inl rfl) fw11_9 lkX11_87 (kdM_lt h0 (Nat.succ_ne_zero _)) h0 rfl rfl dX11_writesTerm_79 (fun H locs hP hS => ?_)
          rw [← eI12] at hP
          refine lv_aload_n hx hb dX11_writesTerm_82 rfl (lv_at hl 0 rfl) ?_
          refine lv_aload_n hx hb dX11_writesTerm_83 rfl (lv_at hl 0 rfl) ?_
          have t13 : kdM (R x0 0) = 1 := wt hT h0 rfl
          refine mm_getr hx hb hts hown hKK hP fk11_0 (Nat.le_of_ble_eq_true rfl) lkX11_7 (kdM_lt h0 (Nat.succ_ne_zero _)) h0 (nM t13 (Nat.succ_ne_zero _)) dX11_writesTerm_84 ?_
          refine lv_iload_n hx hb dX11_writesTerm_87 rfl (lv_at hl 1 rfl) ?_
          refine lv_iload_n hx hb dX11_writesTerm_88 rfl (lv_at hl 3 rfl) ?_
          refine lv_iadd hx hb dX11_writesTerm_89 ?_
          obtain ⟨g14, hf⟩ := grd hf
          refine mm_iald hx hb hKK hP (kdM_lt t13 (Nat.succ_ne_zero _)) t13 g14 dX11_writesTerm_90 ?_
          obtain ⟨I15, e15, hf⟩ := bd1_o hf
          refine mm_Vv (rest := []) hx hb hml hown hts hKK hP hS hA (kdM_lt h0 (Nat.succ_ne_zero _)) h0 (show vwCl[11]? = some (yX11_writes.cls, TX11, 32) from rfl) vkX11_175 (k_X11_writes l D ce b I12 L R hT x0 (I12 (R x0 0) ((x1 + x3)).toNatClampNeg) h0 I15 e15) rfl hl.1 rfl (Nat.le_of_ble_eq_true rfl) ⟨rfl, rfl⟩ ⟨Nat.le_of_ble_eq_true rfl, Nat.le_of_ble_eq_true rfl⟩ ⟨Nat.zero_le _, Nat.zero_le _⟩ dX11_writesTerm_91 (fun H locs hP hT hS => ?_)
          refine lv_aload_n hx hb dX11_writesTerm_94 rfl (lv_at hl 0 rfl) ?_
          refine lv_aload_n hx hb dX11_writesTerm_95 rfl (lv_at hl 0 rfl) ?_
          refine mm_getr hx hb hts hown hKK hP fk11_0 (Nat.le_of_ble_eq_true rfl) lkX11_7 (kdM_lt h0 (Nat.succ_ne_zero _)) h0 (nM t13 (Nat.succ_ne_zero _)) dX11_writesTerm_96 ?_
          refine lv_iload_n hx hb dX11_writesTerm_99 rfl (lv_at hl 1 rfl) ?_
          refine lv_iload_n hx hb dX11_writesTerm_100 rfl (lv_at hl 3 rfl) ?_
          refine lv_iadd hx hb dX11_writesTerm_101 ?_
          refine mm_iald hx hb hKK hP (kdM_lt t13 (Nat.succ_ne_zero _)) t13 g14 dX11_writesTerm_102 ?_
          obtain ⟨I16, e16, hf⟩ := bd1_o hf
          refine mm_Vv (rest := []) hx hb hml hown hts hKK hP hS hA (kdM_lt h0 (Nat.succ_ne_zero _)) h0 (show vwCl[11]? = some (yX11_opens.cls, TX11, 32) from rfl) vkX11_114 (k_X11_opens l D ce b I15 L R hT x0 (I15 (R x0 0) ((x1 + x3)).toNatClampNeg) h0 I16 e16) rfl hl.1 rfl (Nat.le_of_ble_eq_true rfl) ⟨rfl, rfl⟩ ⟨Nat.le_of_ble_eq_true rfl, Nat.le_of_ble_eq_true rfl⟩ ⟨Nat.zero_le _, Nat.zero_le _⟩ dX11_writesTerm_103 (fun H locs hP hT hS => ?_)
          refine lv_iinc (v := (x3 + (1 : Int32))) (lv' := [(3, .int (x3 + (1 : Int32))), (0, .ref (b + x0)), (1, .int x1), (2, .int x2)]) hx hb dX11_writesTerm_106 hl (k := 3) rfl rfl (Nat.le_of_ble_eq_true rfl) rfl (fun ls hl => ?_)
          refine lv_goto (tgt := 7) hx hb dX11_writesTerm_109 (by decide) ?_
          exact ih x0 x1 x2 (x3 + (1 : Int32)) I16 L R a1 H locs ls hP hS hT h0 (lv_sub hl [1, 2, 3, 0] rfl) hf kx
        clear ej_11
        refine lv_if_le (tgt := 77) hx hb dX11_writesTerm_70 (by decide) (fun c17 => ?_) (fun c17 => ?_)
        · have hf := ifT hf c17
          refine lv_iconst (v := (0 : Int32)) hx hb dX11_writesTerm_77 (by decide) ?_
          exact hJ78_11 (0 : Int32) H locs ls hP hS  (lv_sub hl [0, 1, 2, 3] rfl) hf
        · have hf := ifF hf c17
          refine lv_iconst (v := (1 : Int32)) hx hb dX11_writesTerm_73 (by decide) ?_
          refine lv_goto (tgt := 78) hx hb dX11_writesTerm_74 (by decide) ?_
          exact hJ78_11 (1 : Int32) H locs ls hP hS  (lv_sub hl [0, 1, 2, 3] rfl) hf
  obtain ⟨I_18, e_18, hf⟩ := bd1_o hf
  refine lp7 FU x0 x1 x2 (0 : Int32) I1 L R I_18 H locs ls hP hS hT h0 (lv_sub hl [1, 2, 3, 0] rfl) e_18 (fun H locs ls hP hS hl => ?_)
  have lp112 : ∀ (n : Nat) (x0 : Nat) (I : mI) (L : mL) (R : mR) (a1 : mI) (H : Heap) (locs : List Loc) (ls : Array Slot), va_P D vwCl (wd ce b kdM lnM 21 I L R) H → va_S (box b 21) s.heap H locs → WT kdM R → kdM x0 = 17 → lv_has ls 4 [(0, .ref (b + x0))] → f_X11_writesTerm_L112 n x0 I R = some a1 → (∀ (H1 : Heap) (locs1 : List Loc) (ls1 : Array Slot), va_P D vwCl (wd ce b kdM lnM 21 a1 L R) H1 → va_S (box b 21) s.heap H1 locs1 → lv_has ls1 4 [] → W p l e rmX11_writesTerm s m av below meth c H1 locs1 0 0 QQ (F0 m 145 ls1 [])) → W p l e rmX11_writesTerm s m av below meth c H locs 0 0 QQ (F0 m 112 ls []) := by
    intro n
    induction n with
    | zero =>
      intro x0 I L R a1 H locs ls hP hS hT h0 hl hf kx
      exact absurd (show (none : Option (mI)) = some _ from hf) (by simp)
    | succ n ih =>
      intro x0 I L R a1 H locs ls hP hS hT h0 hl hf kx
      rw [f_X11_writesTerm_L112] at hf
      refine lv_aload_n hx hb dX11_writesTerm_112 rfl (lv_at hl 0 rfl) ?_
      refine mm_geti hx hb hts hown hKK hP fk11_9 (Or.inl rfl) lkX11_87 (kdM_lt h0 (Nat.succ_ne_zero _)) h0 dX11_writesTerm_113 ?_
      refine lv_if_le (tgt := 145) hx hb dX11_writesTerm_116 (by decide) (fun c19 => ?_) (fun c19 => ?_)
      · have hf := ifT hf c19
        cases hf
        exact kx H locs ls hP hS (lv_sub hl [] rfl)
      · have hf := ifF hf c19
        refine lv_aload_n hx hb dX11_writesTerm_119 rfl (lv_at hl 0 rfl) ?_
        refine lv_dup hx hb dX11_writesTerm_120 rfl ?_
        refine mm_geti hx hb hts hown hKK hP fk11_9 (Or.inl rfl) lkX11_87 (kdM_lt h0 (Nat.succ_ne_zero _)) h0 dX11_writesTerm_121 ?_
        refine lv_iconst (v := (1 : Int32)) hx hb dX11_writesTerm_124 (by decide) ?_
        refine lv_isub hx hb dX11_writesTerm_125 ?_
        refine jnE hf (fun I20 eI20 hf => ?_)
        refine mm_puti hx hb hts hown hKK hP hA hS fk11_9 (Or.inl rfl) fw11_9 lkX11_87 (kdM_lt h0 (Nat.succ_ne_zero _)) h0 rfl rfl dX11_writesTerm_126 (fun H locs hP hS => ?_)
        rw [← eI20] at hP
        refine lv_aload_n hx hb dX11_writesTerm_129 rfl (lv_at hl 0 rfl) ?_
        refine lv_aload_n hx hb dX11_writesTerm_130 rfl (lv_at hl 0 rfl) ?_
        have t21 : kdM (R x0 8) = 1 := wt hT h0 rfl
        refine mm_getr hx hb hts hown hKK hP fk11_8 (Nat.le_of_ble_eq_true rfl) lkX11_25 (kdM_lt h0 (Nat.succ_ne_zero _)) h0 (nM t21 (Nat.succ_ne_zero _)) dX11_writesTerm_131 ?_
        refine lv_aload_n hx hb dX11_writesTerm_134 rfl (lv_at hl 0 rfl) ?_
        refine mm_geti hx hb hts hown hKK hP fk11_9 (Or.inl rfl) lkX11_87 (kdM_lt h0 (Nat.succ_ne_zero _)) h0 dX11_writesTerm_135 ?_
        obtain ⟨g22, hf⟩ := grd hf
        refine mm_iald hx hb hKK hP (kdM_lt t21 (Nat.succ_ne_zero _)) t21 g22 dX11_writesTerm_138 ?_
        obtain ⟨I23, e23, hf⟩ := bd1_o hf
        refine mm_Vv (rest := []) hx hb hml hown hts hKK hP hS hA (kdM_lt h0 (Nat.succ_ne_zero _)) h0 (show vwCl[11]? = some (yX11_writes.cls, TX11, 32) from rfl) vkX11_175 (k_X11_writes l D ce b I20 L R hT x0 (I20 (R x0 8) ((I20 x0 9)).toNatClampNeg) h0 I23 e23) rfl hl.1 rfl (Nat.le_of_ble_eq_true rfl) ⟨rfl, rfl⟩ ⟨Nat.le_of_ble_eq_true rfl, Nat.le_of_ble_eq_true rfl⟩ ⟨Nat.zero_le _, Nat.zero_le _⟩ dX11_writesTerm_139 (fun H locs hP hT hS => ?_)
        refine lv_goto (tgt := 112) hx hb dX11_writesTerm_142 (by decide) ?_
        exact ih x0 I23 L R a1 H locs ls hP hS hT h0 (lv_sub hl [0] rfl) hf kx
  obtain ⟨I_24, e_24, hf⟩ := bd1_o hf
  refine lp112 FU x0 I_18 L R I_24 H locs ls hP hS hT h0 (lv_sub hl [0] rfl) e_24 (fun H locs ls hP hS hl => ?_)
  exact hret I_24 hf H locs ls _ dX11_writesTerm_145 hP hT hS
def rmX11_shown : Room := { frames := 3, cells := 0, slots := 0, locals := 65 }
set_option maxHeartbeats 4000000 in
set_option maxRecDepth 100000 in
theorem k_X11_shown (l : Launch) (D : va_G) (ce : Nat → ClassId) (b : Nat) (I : mI) (L : mL) (R : mR) (hT : WT kdM R) (x0 : Nat) (x1 : Int32) (x2 : Int32) (h0 : kdM x0 = 17) (o1 : Int32) (o2 : mI) (hf : f_X11_shown x0 x1 x2 I R = some (o1, o2)) : Met l yX11_shown (Cond.code yX11_shown cX11_shown 3 (some .int) :: GW) rmX11_shown (va_Pc [.ref (b + x0), .int x1, .int x2] (PW D ce b kdM lnM 21 I L R)) (va_Qi (fun r u => r = o1 ∧ u = (o2, L, R)) (QW D ce b kdM lnM 21) (box b 21)) 0 0 (box b 21) := by
  refine Met.ofW (cc := cX11_shown) (maxL := 3) (ret := (some .int)) (by decide) rfl ?_
  intro p e s m args below meth c s₁ B hml hv
  obtain ⟨rfl, hP, hKK⟩ := hv
  have hx := B.exec
  have hb := B.bytes
  have hr := B.returns
  have hts0 := atoms_spec (ws := Cond.code yX11_shown cX11_shown 3 (some .int) :: GW) B.pre
  have hts : ∀ w ∈ GW, w.before _ s = true := fun w h => hts0 w (List.mem_cons_of_mem _ h)
  clear hts0
  have hown : s.vm.findClass RX11 = some m.cls := findClass_of_methodNamed B.named
  have hlocks := B.notSynchronized
  have hA : ∀ q, box b 21 q → box b 21 q := fun _ h => h
  have hS : va_S (box b 21) s.heap s.heap [] := va_S.rf
  have hl := lv_entry ([.ref (b + x0), .int x1, .int x2]) (n := 3) (Nat.le_of_ble_eq_true rfl)
  rw [lg_entry_eq]
  generalize (lg_sl ([.ref (b + x0), .int x1, .int x2]) ++ List.replicate (3 - (lg_sl ([.ref (b + x0), .int x1, .int x2])).length) Slot.unset).toArray = ls at hl ⊢
  have hl : lv_has ls 3 [(0, .ref (b + x0)), (1, .int x1), (2, .int x2)] := hl
  generalize ([.ref (b + x0), .int x1, .int x2] : List Value).toArray = av at hts ⊢
  show W p l e rmX11_shown s m av below meth c s.heap [] 0 0 _ _
  obtain ⟨QQ, hQQ⟩ : ∃ z, z = MQ below (va_Qi (fun r u => r = o1 ∧ u = (o2, L, R)) (QW D ce b kdM lnM 21) (box b 21)) av s 0 0 (box b 21) := ⟨_, rfl⟩
  rw [← hQQ]
  have hret : ∀ (r : Int32) (I1 : mI), some (r, I1) = some (o1, o2) → ∀ (H1 : Heap) (locs1 : List Loc) (ls1 : Array Slot) (pc1 : Nat), decode cX11_shown pc1 = .ok (.ireturn, 1) → va_P D vwCl (wd ce b kdM lnM 21 I1 L R) H1 → WT kdM R → va_S (box b 21) s.heap H1 locs1 → W p l e rmX11_shown s m av below meth c H1 locs1 0 0 QQ (F0 m pc1 ls1 [.int r]) := by
    intro r I1 hq H1 locs1 ls1 pc1 hd hP hT hS
    cases hq
    rw [hQQ]
    exact mm_iret hx hb hr hlocks hP hT hS hd
  unfold f_X11_shown at hf
  obtain ⟨H, hH⟩ : ∃ z, z = s.heap := ⟨_, rfl⟩
  obtain ⟨locs, hlo⟩ : ∃ z : List Loc, z = [] := ⟨_, rfl⟩
  have hP : va_P D vwCl (wd ce b kdM lnM 21 I L R) H := by rw [hH]; exact hP
  have hS : va_S (box b 21) s.heap H locs := by rw [hH, hlo]; exact hS
  rw [show W p l e rmX11_shown s m av below meth c s.heap [] 0 0 QQ = W p l e rmX11_shown s m av below meth c H locs 0 0 QQ by rw [hH, hlo]]
  clear hH hlo
  clear hQQ
  show W p l e rmX11_shown s m av below meth c H locs 0 0 QQ (F0 m 0 ls [])
  refine lv_aload_n hx hb dX11_shown_0 rfl (lv_at hl 0 rfl) ?_
  refine lv_iload_n hx hb dX11_shown_1 rfl (lv_at hl 1 rfl) ?_
  obtain ⟨r1, e1, hf⟩ := bd1_o hf
  refine mm_Vi (rest := []) hx hb hml hown hts hKK hP hS hA (kdM_lt h0 (Nat.succ_ne_zero _)) h0 (show vwCl[11]? = some (yX11_isRule.cls, TX11, 32) from rfl) vkX11_148 (k_X11_isRule l D ce b I L R hT x0 x1 h0 r1 e1) rfl hl.1 rfl (Nat.le_of_ble_eq_true rfl) ⟨rfl, rfl⟩ ⟨Nat.le_of_ble_eq_true rfl, Nat.le_of_ble_eq_true rfl⟩ ⟨Nat.zero_le _, Nat.zero_le _⟩ dX11_shown_2 (fun H locs hP hT hS => ?_)
  refine jnE hf (fun j13_2 ej_2 hf => ?_)
  have hJ13_2 : ∀ (H : Heap) (locs : List Loc) (ls : Array Slot), va_P D vwCl (wd ce b kdM lnM 21 I L R) H → va_S (box b 21) s.heap H locs → lv_has ls 3 [(0, .ref (b + x0))] → j13_2  = some (o1, o2) → W p l e rmX11_shown s m av below meth c H locs 0 0 QQ (F0 m 13 ls []) := by
    intro  H locs ls hP hS  hl hf
    rw [ej_2] at hf
    try dsimp only at hf
    refine lv_aload_n hx hb dX11_shown_13 rfl (lv_at hl 0 rfl) ?_
    refine lv_bipush (v := (-2 : Int32)) hx hb dX11_shown_14 (by decide) ?_
    obtain ⟨r3, I3, e3, hf⟩ := bd2_o hf
    refine mm_Vi (rest := []) hx hb hml hown hts hKK hP hS hA (kdM_lt h0 (Nat.succ_ne_zero _)) h0 (show vwCl[11]? = some (yX11_refuses.cls, TX11, 32) from rfl) vkX11_80 (k_X11_refuses l D ce b I L R hT x0 (-2 : Int32) h0 r3 I3 e3) rfl hl.1 rfl (Nat.le_of_ble_eq_true rfl) ⟨rfl, rfl⟩ ⟨Nat.le_of_ble_eq_true rfl, Nat.le_of_ble_eq_true rfl⟩ ⟨Nat.zero_le _, Nat.zero_le _⟩ dX11_shown_16 (fun H locs hP hT hS => ?_)
    exact hret r3 I3 hf H locs ls _ dX11_shown_19 hP hT hS
  clear ej_2
  refine lv_if_eq (tgt := 13) hx hb dX11_shown_5 (by decide) (fun c4 => ?_) (fun c4 => ?_)
  · have hf := ifT hf c4
    exact hJ13_2  H locs ls hP hS  (lv_sub hl [0] rfl) hf
  · have hf := ifF hf c4
    refine lv_iload_n hx hb dX11_shown_8 rfl (lv_at hl 2 rfl) ?_
    refine lv_iconst (v := (-1 : Int32)) hx hb dX11_shown_9 (by decide) ?_
    refine lv_icmp_ge (tgt := 20) hx hb dX11_shown_10 (by decide) (fun c5 => ?_) (fun c5 => ?_)
    · have hf := ifT hf c5
      refine lv_aload_n hx hb dX11_shown_20 rfl (lv_at hl 0 rfl) ?_
      refine lv_iconst (v := (0 : Int32)) hx hb dX11_shown_21 (by decide) ?_
      refine jnE hf (fun I6 eI6 hf => ?_)
      refine mm_puti hx hb hts hown hKK hP hA hS fk11_11 (Or.inl rfl) fw11_11 lkX11_172 (kdM_lt h0 (Nat.succ_ne_zero _)) h0 rfl rfl dX11_shown_22 (fun H locs hP hS => ?_)
      rw [← eI6] at hP
      refine lv_aload_n hx hb dX11_shown_25 rfl (lv_at hl 0 rfl) ?_
      refine lv_iload_n hx hb dX11_shown_26 rfl (lv_at hl 1 rfl) ?_
      obtain ⟨r7, e7, hf⟩ := bd1_o hf
      refine mm_Si (rest := [.ref (b + x0)]) hx hb hml hown hts hKK hP hS hA skX11_117 (k_X11_leftOf l D ce b I6 L R hT x1  r7 e7) rfl hl.1 rfl (Nat.le_of_ble_eq_true rfl) ⟨rfl, rfl⟩ ⟨Nat.le_of_ble_eq_true rfl, Nat.le_of_ble_eq_true rfl⟩ ⟨Nat.zero_le _, Nat.zero_le _⟩ dX11_shown_27 (fun H locs hP hT hS => ?_)
      refine lv_aload_n hx hb dX11_shown_30 rfl (lv_at hl 0 rfl) ?_
      have t8 : kdM (R x0 0) = 1 := wt hT h0 rfl
      refine mm_getr hx hb hts hown hKK hP fk11_0 (Nat.le_of_ble_eq_true rfl) lkX11_7 (kdM_lt h0 (Nat.succ_ne_zero _)) h0 (nM t8 (Nat.succ_ne_zero _)) dX11_shown_31 ?_
      refine lv_iload_n hx hb dX11_shown_34 rfl (lv_at hl 1 rfl) ?_
      obtain ⟨r9, e9, hf⟩ := bd1_o hf
      refine mm_Si (rest := [.int r7, .ref (b + x0)]) hx hb hml hown hts hKK hP hS hA skX11_158 (k_X11_leftLong l D ce b I6 L R hT (R x0 0) x1 t8 r9 e9) rfl hl.1 rfl (Nat.le_of_ble_eq_true rfl) ⟨rfl, rfl⟩ ⟨Nat.le_of_ble_eq_true rfl, Nat.le_of_ble_eq_true rfl⟩ ⟨Nat.zero_le _, Nat.zero_le _⟩ dX11_shown_35 (fun H locs hP hT hS => ?_)
      obtain ⟨I10, e10, hf⟩ := bd1_o hf
      refine mm_Vv (rest := []) hx hb hml hown hts hKK hP hS hA (kdM_lt h0 (Nat.succ_ne_zero _)) h0 (show vwCl[11]? = some (yX11_writesTerm.cls, TX11, 32) from rfl) vkX11_178 (k_X11_writesTerm l D ce b I6 L R hT x0 r7 r9 h0 I10 e10) rfl hl.1 rfl (Nat.le_of_ble_eq_true rfl) ⟨rfl, rfl⟩ ⟨Nat.le_of_ble_eq_true rfl, Nat.le_of_ble_eq_true rfl⟩ ⟨Nat.zero_le _, Nat.zero_le _⟩ dX11_shown_38 (fun H locs hP hT hS => ?_)
      refine lv_aload_n hx hb dX11_shown_41 rfl (lv_at hl 0 rfl) ?_
      refine lv_bipush (v := (62 : Int32)) hx hb dX11_shown_42 (by decide) ?_
      obtain ⟨I11, e11, hf⟩ := bd1_o hf
      refine mm_Vv (rest := []) hx hb hml hown hts hKK hP hS hA (kdM_lt h0 (Nat.succ_ne_zero _)) h0 (show vwCl[11]? = some (yX11_writes.cls, TX11, 32) from rfl) vkX11_175 (k_X11_writes l D ce b I10 L R hT x0 (62 : Int32) h0 I11 e11) rfl hl.1 rfl (Nat.le_of_ble_eq_true rfl) ⟨rfl, rfl⟩ ⟨Nat.le_of_ble_eq_true rfl, Nat.le_of_ble_eq_true rfl⟩ ⟨Nat.zero_le _, Nat.zero_le _⟩ dX11_shown_44 (fun H locs hP hT hS => ?_)
      refine lv_aload_n hx hb dX11_shown_47 rfl (lv_at hl 0 rfl) ?_
      refine lv_iload_n hx hb dX11_shown_48 rfl (lv_at hl 1 rfl) ?_
      obtain ⟨r12, e12, hf⟩ := bd1_o hf
      refine mm_Si (rest := [.ref (b + x0)]) hx hb hml hown hts hKK hP hS hA skX11_127 (k_X11_rightOf l D ce b I11 L R hT x1  r12 e12) rfl hl.1 rfl (Nat.le_of_ble_eq_true rfl) ⟨rfl, rfl⟩ ⟨Nat.le_of_ble_eq_true rfl, Nat.le_of_ble_eq_true rfl⟩ ⟨Nat.zero_le _, Nat.zero_le _⟩ dX11_shown_49 (fun H locs hP hT hS => ?_)
      refine lv_aload_n hx hb dX11_shown_52 rfl (lv_at hl 0 rfl) ?_
      refine mm_getr hx hb hts hown hKK hP fk11_0 (Nat.le_of_ble_eq_true rfl) lkX11_7 (kdM_lt h0 (Nat.succ_ne_zero _)) h0 (nM t8 (Nat.succ_ne_zero _)) dX11_shown_53 ?_
      refine lv_iload_n hx hb dX11_shown_56 rfl (lv_at hl 1 rfl) ?_
      obtain ⟨r13, e13, hf⟩ := bd1_o hf
      refine mm_Si (rest := [.int r12, .ref (b + x0)]) hx hb hml hown hts hKK hP hS hA skX11_162 (k_X11_rightLong l D ce b I11 L R hT (R x0 0) x1 t8 r13 e13) rfl hl.1 rfl (Nat.le_of_ble_eq_true rfl) ⟨rfl, rfl⟩ ⟨Nat.le_of_ble_eq_true rfl, Nat.le_of_ble_eq_true rfl⟩ ⟨Nat.zero_le _, Nat.zero_le _⟩ dX11_shown_57 (fun H locs hP hT hS => ?_)
      obtain ⟨I14, e14, hf⟩ := bd1_o hf
      refine mm_Vv (rest := []) hx hb hml hown hts hKK hP hS hA (kdM_lt h0 (Nat.succ_ne_zero _)) h0 (show vwCl[11]? = some (yX11_writesTerm.cls, TX11, 32) from rfl) vkX11_178 (k_X11_writesTerm l D ce b I11 L R hT x0 r12 r13 h0 I14 e14) rfl hl.1 rfl (Nat.le_of_ble_eq_true rfl) ⟨rfl, rfl⟩ ⟨Nat.le_of_ble_eq_true rfl, Nat.le_of_ble_eq_true rfl⟩ ⟨Nat.zero_le _, Nat.zero_le _⟩ dX11_shown_60 (fun H locs hP hT hS => ?_)
      refine lv_iload_n hx hb dX11_shown_63 rfl (lv_at hl 2 rfl) ?_
      refine lv_iconst (v := (-1 : Int32)) hx hb dX11_shown_64 (by decide) ?_
      refine lv_icmp_ne (tgt := 75) hx hb dX11_shown_65 (by decide) (fun c15 => ?_) (fun c15 => ?_)
      · have hf := ifF hf c15
        refine lv_iload_n hx hb dX11_shown_75 rfl (lv_at hl 2 rfl) ?_
        refine lv_aload_n hx hb dX11_shown_76 rfl (lv_at hl 0 rfl) ?_
        refine mm_geti hx hb hts hown hKK hP fk11_11 (Or.inl rfl) lkX11_172 (kdM_lt h0 (Nat.succ_ne_zero _)) h0 dX11_shown_77 ?_
        refine lv_icmp_ge (tgt := 92) hx hb dX11_shown_80 (by decide) (fun c16 => ?_) (fun c16 => ?_)
        · have hf := ifT hf c16
          refine lv_bipush (v := (-5 : Int32)) hx hb dX11_shown_92 (by decide) ?_
          exact hret (-5 : Int32) I14 hf H locs ls _ dX11_shown_94 hP hT hS
        · have hf := ifF hf c16
          refine lv_aload_n hx hb dX11_shown_83 rfl (lv_at hl 0 rfl) ?_
          have t17 : kdM (R x0 10) = 1 := wt hT h0 rfl
          refine mm_getr hx hb hts hown hKK hP fk11_10 (Nat.le_of_ble_eq_true rfl) lkX11_28 (kdM_lt h0 (Nat.succ_ne_zero _)) h0 (nM t17 (Nat.succ_ne_zero _)) dX11_shown_84 ?_
          refine lv_iload_n hx hb dX11_shown_87 rfl (lv_at hl 2 rfl) ?_
          obtain ⟨g18, hf⟩ := grd hf
          refine mm_iald hx hb hKK hP (kdM_lt t17 (Nat.succ_ne_zero _)) t17 g18 dX11_shown_88 ?_
          refine lv_goto (tgt := 94) hx hb dX11_shown_89 (by decide) ?_
          exact hret (I14 (R x0 10) x2.toNatClampNeg) I14 hf H locs ls _ dX11_shown_94 hP hT hS
      · have hf := ifT hf c15
        refine lv_aload_n hx hb dX11_shown_68 rfl (lv_at hl 0 rfl) ?_
        refine mm_geti hx hb hts hown hKK hP fk11_11 (Or.inl rfl) lkX11_172 (kdM_lt h0 (Nat.succ_ne_zero _)) h0 dX11_shown_69 ?_
        refine lv_goto (tgt := 94) hx hb dX11_shown_72 (by decide) ?_
        exact hret (I14 x0 11) I14 hf H locs ls _ dX11_shown_94 hP hT hS
    · have hf := ifF hf c5
      exact hJ13_2  H locs ls hP hS  (lv_sub hl [0] rfl) hf
