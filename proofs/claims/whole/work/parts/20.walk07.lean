def rmX11_wants : Room := { frames := 0, cells := 0, slots := 0, locals := 0 }
set_option maxHeartbeats 4000000 in
set_option maxRecDepth 100000 in
theorem k_X11_wants (l : Launch) (D : va_G) (ce : Nat → ClassId) (b : Nat) (I : mI) (L : mL) (R : mR) (hT : WT kdM R) (x0 : Int32)  (o1 : Int32) (hf : f_X11_wants x0  = some o1) : Met l yX11_wants (Cond.code yX11_wants cX11_wants 1 (some .int) :: GW) rmX11_wants (va_Pc [.int x0] (PW D ce b kdM lnM 21 I L R)) (va_Qi (fun r u => r = o1 ∧ u = (I, L, R)) (QW D ce b kdM lnM 21) (box b 21)) 0 0 (box b 21) := by
  refine Met.ofW (cc := cX11_wants) (maxL := 1) (ret := (some .int)) (by decide) rfl ?_
  intro p e s m args below meth c s₁ B hml hv
  obtain ⟨rfl, hP, hKK⟩ := hv
  have hx := B.exec
  have hb := B.bytes
  have hr := B.returns
  have hts0 := atoms_spec (ws := Cond.code yX11_wants cX11_wants 1 (some .int) :: GW) B.pre
  have hts : ∀ w ∈ GW, w.before _ s = true := fun w h => hts0 w (List.mem_cons_of_mem _ h)
  clear hts0
  have hown : s.vm.findClass RX11 = some m.cls := findClass_of_methodNamed B.named
  have hlocks := B.notSynchronized
  have hA : ∀ q, box b 21 q → box b 21 q := fun _ h => h
  have hS : va_S (box b 21) s.heap s.heap [] := va_S.rf
  have hl := lv_entry ([.int x0]) (n := 1) (Nat.le_of_ble_eq_true rfl)
  rw [lg_entry_eq]
  generalize (lg_sl ([.int x0]) ++ List.replicate (1 - (lg_sl ([.int x0])).length) Slot.unset).toArray = ls at hl ⊢
  have hl : lv_has ls 1 [(0, .int x0)] := hl
  generalize ([.int x0] : List Value).toArray = av at hts ⊢
  show W p l e rmX11_wants s m av below meth c s.heap [] 0 0 _ _
  obtain ⟨QQ, hQQ⟩ : ∃ z, z = MQ below (va_Qi (fun r u => r = o1 ∧ u = (I, L, R)) (QW D ce b kdM lnM 21) (box b 21)) av s 0 0 (box b 21) := ⟨_, rfl⟩
  rw [← hQQ]
  have hret : ∀ (r : Int32), some r = some o1 → ∀ (H1 : Heap) (locs1 : List Loc) (ls1 : Array Slot) (pc1 : Nat), decode cX11_wants pc1 = .ok (.ireturn, 1) → va_P D vwCl (wd ce b kdM lnM 21 I L R) H1 → WT kdM R → va_S (box b 21) s.heap H1 locs1 → W p l e rmX11_wants s m av below meth c H1 locs1 0 0 QQ (F0 m pc1 ls1 [.int r]) := by
    intro r hq H1 locs1 ls1 pc1 hd hP hT hS
    cases hq
    rw [hQQ]
    exact mm_iret hx hb hr hlocks hP hT hS hd
  unfold f_X11_wants at hf
  obtain ⟨H, hH⟩ : ∃ z, z = s.heap := ⟨_, rfl⟩
  obtain ⟨locs, hlo⟩ : ∃ z : List Loc, z = [] := ⟨_, rfl⟩
  have hP : va_P D vwCl (wd ce b kdM lnM 21 I L R) H := by rw [hH]; exact hP
  have hS : va_S (box b 21) s.heap H locs := by rw [hH, hlo]; exact hS
  rw [show W p l e rmX11_wants s m av below meth c s.heap [] 0 0 QQ = W p l e rmX11_wants s m av below meth c H locs 0 0 QQ by rw [hH, hlo]]
  clear hH hlo
  clear hQQ
  show W p l e rmX11_wants s m av below meth c H locs 0 0 QQ (F0 m 0 ls [])
  refine lv_iload_n hx hb dX11_wants_0 rfl (lv_at hl 0 rfl) ?_
  refine lv_bipush (v := (102 : Int32)) hx hb dX11_wants_1 (by decide) ?_
  refine lv_icmp_ne (tgt := 10) hx hb dX11_wants_3 (by decide) (fun c1 => ?_) (fun c1 => ?_)
  · have hf := ifF hf c1
    refine lv_iload_n hx hb dX11_wants_10 rfl (lv_at hl 0 rfl) ?_
    refine lv_bipush (v := (103 : Int32)) hx hb dX11_wants_11 (by decide) ?_
    refine lv_icmp_ne (tgt := 20) hx hb dX11_wants_13 (by decide) (fun c2 => ?_) (fun c2 => ?_)
    · have hf := ifF hf c2
      refine lv_iconst (v := (0 : Int32)) hx hb dX11_wants_20 (by decide) ?_
      exact hret (0 : Int32) hf H locs ls _ dX11_wants_21 hP hT hS
    · have hf := ifT hf c2
      refine lv_iconst (v := (2 : Int32)) hx hb dX11_wants_16 (by decide) ?_
      refine lv_goto (tgt := 21) hx hb dX11_wants_17 (by decide) ?_
      exact hret (2 : Int32) hf H locs ls _ dX11_wants_21 hP hT hS
  · have hf := ifT hf c1
    refine lv_iconst (v := (1 : Int32)) hx hb dX11_wants_6 (by decide) ?_
    refine lv_goto (tgt := 21) hx hb dX11_wants_7 (by decide) ?_
    exact hret (1 : Int32) hf H locs ls _ dX11_wants_21 hP hT hS
def rmX11_isUnknown : Room := { frames := 0, cells := 0, slots := 0, locals := 0 }
set_option maxHeartbeats 4000000 in
set_option maxRecDepth 100000 in
theorem k_X11_isUnknown (l : Launch) (D : va_G) (ce : Nat → ClassId) (b : Nat) (I : mI) (L : mL) (R : mR) (hT : WT kdM R) (x0 : Int32)  (o1 : Int32) (hf : f_X11_isUnknown x0  = some o1) : Met l yX11_isUnknown (Cond.code yX11_isUnknown cX11_isUnknown 1 (some .boolean) :: GW) rmX11_isUnknown (va_Pc [.int x0] (PW D ce b kdM lnM 21 I L R)) (va_Qi (fun r u => r = o1 ∧ u = (I, L, R)) (QW D ce b kdM lnM 21) (box b 21)) 0 0 (box b 21) := by
  refine Met.ofW (cc := cX11_isUnknown) (maxL := 1) (ret := (some .boolean)) (by decide) rfl ?_
  intro p e s m args below meth c s₁ B hml hv
  obtain ⟨rfl, hP, hKK⟩ := hv
  have hx := B.exec
  have hb := B.bytes
  have hr := B.returns
  have hts0 := atoms_spec (ws := Cond.code yX11_isUnknown cX11_isUnknown 1 (some .boolean) :: GW) B.pre
  have hts : ∀ w ∈ GW, w.before _ s = true := fun w h => hts0 w (List.mem_cons_of_mem _ h)
  clear hts0
  have hown : s.vm.findClass RX11 = some m.cls := findClass_of_methodNamed B.named
  have hlocks := B.notSynchronized
  have hA : ∀ q, box b 21 q → box b 21 q := fun _ h => h
  have hS : va_S (box b 21) s.heap s.heap [] := va_S.rf
  have hl := lv_entry ([.int x0]) (n := 1) (Nat.le_of_ble_eq_true rfl)
  rw [lg_entry_eq]
  generalize (lg_sl ([.int x0]) ++ List.replicate (1 - (lg_sl ([.int x0])).length) Slot.unset).toArray = ls at hl ⊢
  have hl : lv_has ls 1 [(0, .int x0)] := hl
  generalize ([.int x0] : List Value).toArray = av at hts ⊢
  show W p l e rmX11_isUnknown s m av below meth c s.heap [] 0 0 _ _
  obtain ⟨QQ, hQQ⟩ : ∃ z, z = MQ below (va_Qi (fun r u => r = o1 ∧ u = (I, L, R)) (QW D ce b kdM lnM 21) (box b 21)) av s 0 0 (box b 21) := ⟨_, rfl⟩
  rw [← hQQ]
  have hret : ∀ (r : Int32), some r = some o1 → ∀ (H1 : Heap) (locs1 : List Loc) (ls1 : Array Slot) (pc1 : Nat), decode cX11_isUnknown pc1 = .ok (.ireturn, 1) → zb r = true → va_P D vwCl (wd ce b kdM lnM 21 I L R) H1 → WT kdM R → va_S (box b 21) s.heap H1 locs1 → W p l e rmX11_isUnknown s m av below meth c H1 locs1 0 0 QQ (F0 m pc1 ls1 [.int r]) := by
    intro r hq H1 locs1 ls1 pc1 hd hz hP hT hS
    cases hq
    rw [hQQ]
    exact mm_zret hx hb hr hlocks hz hP hT hS hd
  unfold f_X11_isUnknown at hf
  obtain ⟨H, hH⟩ : ∃ z, z = s.heap := ⟨_, rfl⟩
  obtain ⟨locs, hlo⟩ : ∃ z : List Loc, z = [] := ⟨_, rfl⟩
  have hP : va_P D vwCl (wd ce b kdM lnM 21 I L R) H := by rw [hH]; exact hP
  have hS : va_S (box b 21) s.heap H locs := by rw [hH, hlo]; exact hS
  rw [show W p l e rmX11_isUnknown s m av below meth c s.heap [] 0 0 QQ = W p l e rmX11_isUnknown s m av below meth c H locs 0 0 QQ by rw [hH, hlo]]
  clear hH hlo
  clear hQQ
  show W p l e rmX11_isUnknown s m av below meth c H locs 0 0 QQ (F0 m 0 ls [])
  refine lv_iload_n hx hb dX11_isUnknown_0 rfl (lv_at hl 0 rfl) ?_
  refine lv_bipush (v := (120 : Int32)) hx hb dX11_isUnknown_1 (by decide) ?_
  refine jnE hf (fun j12_1 ej_1 hf => ?_)
  have hJ12_1 : ∀ (H : Heap) (locs : List Loc) (ls : Array Slot), va_P D vwCl (wd ce b kdM lnM 21 I L R) H → va_S (box b 21) s.heap H locs → lv_has ls 1 [] → j12_1  = some o1 → W p l e rmX11_isUnknown s m av below meth c H locs 0 0 QQ (F0 m 12 ls []) := by
    intro  H locs ls hP hS  hl hf
    rw [ej_1] at hf
    try dsimp only at hf
    refine lv_iconst (v := (1 : Int32)) hx hb dX11_isUnknown_12 (by decide) ?_
    refine lv_goto (tgt := 17) hx hb dX11_isUnknown_13 (by decide) ?_
    exact hret (1 : Int32) hf H locs ls _ dX11_isUnknown_17 rfl hP hT hS
  clear ej_1
  refine lv_icmp_eq (tgt := 12) hx hb dX11_isUnknown_3 (by decide) (fun c2 => ?_) (fun c2 => ?_)
  · have hf := ifT hf c2
    exact hJ12_1  H locs ls hP hS  (lv_sub hl [] rfl) hf
  · have hf := ifF hf c2
    refine lv_iload_n hx hb dX11_isUnknown_6 rfl (lv_at hl 0 rfl) ?_
    refine lv_bipush (v := (121 : Int32)) hx hb dX11_isUnknown_7 (by decide) ?_
    refine lv_icmp_ne (tgt := 16) hx hb dX11_isUnknown_9 (by decide) (fun c3 => ?_) (fun c3 => ?_)
    · have hf := ifF hf c3
      refine lv_iconst (v := (0 : Int32)) hx hb dX11_isUnknown_16 (by decide) ?_
      exact hret (0 : Int32) hf H locs ls _ dX11_isUnknown_17 rfl hP hT hS
    · have hf := ifT hf c3
      exact hJ12_1  H locs ls hP hS  (lv_sub hl [] rfl) hf
def rmX11_longAt : Room := { frames := 1, cells := 0, slots := 0, locals := 20 }
set_option maxHeartbeats 4000000 in
set_option maxRecDepth 100000 in
theorem k_X11_longAt (l : Launch) (D : va_G) (ce : Nat → ClassId) (b : Nat) (I : mI) (L : mL) (R : mR) (hT : WT kdM R) (x0 : Nat) (x1 : Int32) (h0 : kdM x0 = 1) (o1 : Int32) (hf : f_X11_longAt x0 x1 I = some o1) : Met l yX11_longAt (Cond.code yX11_longAt cX11_longAt 4 (some .int) :: GW) rmX11_longAt (va_Pc [.ref (b + x0), .int x1] (PW D ce b kdM lnM 21 I L R)) (va_Qi (fun r u => r = o1 ∧ u = (I, L, R)) (QW D ce b kdM lnM 21) (box b 21)) 0 0 (box b 21) := by
  refine Met.ofW (cc := cX11_longAt) (maxL := 4) (ret := (some .int)) (by decide) rfl ?_
  intro p e s m args below meth c s₁ B hml hv
  obtain ⟨rfl, hP, hKK⟩ := hv
  have hx := B.exec
  have hb := B.bytes
  have hr := B.returns
  have hts0 := atoms_spec (ws := Cond.code yX11_longAt cX11_longAt 4 (some .int) :: GW) B.pre
  have hts : ∀ w ∈ GW, w.before _ s = true := fun w h => hts0 w (List.mem_cons_of_mem _ h)
  clear hts0
  have hown : s.vm.findClass RX11 = some m.cls := findClass_of_methodNamed B.named
  have hlocks := B.notSynchronized
  have hA : ∀ q, box b 21 q → box b 21 q := fun _ h => h
  have hS : va_S (box b 21) s.heap s.heap [] := va_S.rf
  have hl := lv_entry ([.ref (b + x0), .int x1]) (n := 4) (Nat.le_of_ble_eq_true rfl)
  rw [lg_entry_eq]
  generalize (lg_sl ([.ref (b + x0), .int x1]) ++ List.replicate (4 - (lg_sl ([.ref (b + x0), .int x1])).length) Slot.unset).toArray = ls at hl ⊢
  have hl : lv_has ls 4 [(0, .ref (b + x0)), (1, .int x1)] := hl
  generalize ([.ref (b + x0), .int x1] : List Value).toArray = av at hts ⊢
  show W p l e rmX11_longAt s m av below meth c s.heap [] 0 0 _ _
  obtain ⟨QQ, hQQ⟩ : ∃ z, z = MQ below (va_Qi (fun r u => r = o1 ∧ u = (I, L, R)) (QW D ce b kdM lnM 21) (box b 21)) av s 0 0 (box b 21) := ⟨_, rfl⟩
  rw [← hQQ]
  have hret : ∀ (r : Int32), some r = some o1 → ∀ (H1 : Heap) (locs1 : List Loc) (ls1 : Array Slot) (pc1 : Nat), decode cX11_longAt pc1 = .ok (.ireturn, 1) → va_P D vwCl (wd ce b kdM lnM 21 I L R) H1 → WT kdM R → va_S (box b 21) s.heap H1 locs1 → W p l e rmX11_longAt s m av below meth c H1 locs1 0 0 QQ (F0 m pc1 ls1 [.int r]) := by
    intro r hq H1 locs1 ls1 pc1 hd hP hT hS
    cases hq
    rw [hQQ]
    exact mm_iret hx hb hr hlocks hP hT hS hd
  unfold f_X11_longAt at hf
  obtain ⟨H, hH⟩ : ∃ z, z = s.heap := ⟨_, rfl⟩
  obtain ⟨locs, hlo⟩ : ∃ z : List Loc, z = [] := ⟨_, rfl⟩
  have hP : va_P D vwCl (wd ce b kdM lnM 21 I L R) H := by rw [hH]; exact hP
  have hS : va_S (box b 21) s.heap H locs := by rw [hH, hlo]; exact hS
  rw [show W p l e rmX11_longAt s m av below meth c s.heap [] 0 0 QQ = W p l e rmX11_longAt s m av below meth c H locs 0 0 QQ by rw [hH, hlo]]
  clear hH hlo
  clear hQQ
  show W p l e rmX11_longAt s m av below meth c H locs 0 0 QQ (F0 m 0 ls [])
  refine lv_iconst (v := (1 : Int32)) hx hb dX11_longAt_0 (by decide) ?_
  refine lv_istore_n (lv' := [(2, .int (1 : Int32)), (0, .ref (b + x0)), (1, .int x1)]) hx hb dX11_longAt_1 rfl hl (Nat.le_of_ble_eq_true rfl) rfl (fun ls hl => ?_)
  refine lv_iconst (v := (0 : Int32)) hx hb dX11_longAt_2 (by decide) ?_
  refine lv_istore_n (lv' := [(3, .int (0 : Int32)), (2, .int (1 : Int32)), (0, .ref (b + x0)), (1, .int x1)]) hx hb dX11_longAt_3 rfl hl (Nat.le_of_ble_eq_true rfl) rfl (fun ls hl => ?_)
  have lp4 : ∀ (n : Nat) (x0 : Nat) (x1 : Int32) (x2 : Int32) (x3 : Int32) (I : mI) (L : mL) (R : mR) (a1 : Int32) (H : Heap) (locs : List Loc) (ls : Array Slot), va_P D vwCl (wd ce b kdM lnM 21 I L R) H → va_S (box b 21) s.heap H locs → WT kdM R → kdM x0 = 1 → lv_has ls 4 [(0, .ref (b + x0)), (1, .int x1), (2, .int x2), (3, .int x3)] → f_X11_longAt_L4 n x0 x1 x2 x3 I = some a1 → (∀ (H1 : Heap) (locs1 : List Loc) (ls1 : Array Slot), va_P D vwCl (wd ce b kdM lnM 21 I L R) H1 → va_S (box b 21) s.heap H1 locs1 → lv_has ls1 4 [(3, .int a1)] → W p l e rmX11_longAt s m av below meth c H1 locs1 0 0 QQ (F0 m 27 ls1 [])) → W p l e rmX11_longAt s m av below meth c H locs 0 0 QQ (F0 m 4 ls []) := by
    intro n
    induction n with
    | zero =>
      intro x0 x1 x2 x3 I L R a1 H locs ls hP hS hT h0 hl hf kx
      exact absurd (show (none : Option (Int32)) = some _ from hf) (by simp)
    | succ n ih =>
      intro x0 x1 x2 x3 I L R a1 H locs ls hP hS hT h0 hl hf kx
      rw [f_X11_longAt_L4] at hf
      refine lv_iload_n hx hb dX11_longAt_4 rfl (lv_at hl 2 rfl) ?_
      refine lv_if_le (tgt := 27) hx hb dX11_longAt_5 (by decide) (fun c1 => ?_) (fun c1 => ?_)
      · have hf := ifT hf c1
        cases hf
        exact kx H locs ls hP hS (lv_sub hl [3] rfl)
      · have hf := ifF hf c1
        refine lv_iload_n hx hb dX11_longAt_8 rfl (lv_at hl 2 rfl) ?_
        refine lv_aload_n hx hb dX11_longAt_9 rfl (lv_at hl 0 rfl) ?_
        refine lv_iload_n hx hb dX11_longAt_10 rfl (lv_at hl 1 rfl) ?_
        refine lv_iload_n hx hb dX11_longAt_11 rfl (lv_at hl 3 rfl) ?_
        refine lv_iadd hx hb dX11_longAt_12 ?_
        obtain ⟨g2, hf⟩ := grd hf
        refine mm_iald hx hb hKK hP (kdM_lt h0 (Nat.succ_ne_zero _)) h0 g2 dX11_longAt_13 ?_
        obtain ⟨r3, e3, hf⟩ := bd1_o hf
        refine mm_Si (rest := [.int x2]) hx hb hml hown hts hKK hP hS hA skX11_84 (k_X11_wants l D ce b I L R hT (I x0 ((x1 + x3)).toNatClampNeg)  r3 e3) rfl hl.1 rfl (Nat.le_of_ble_eq_true rfl) ⟨rfl, rfl⟩ ⟨Nat.le_of_ble_eq_true rfl, Nat.le_of_ble_eq_true rfl⟩ ⟨Nat.zero_le _, Nat.zero_le _⟩ dX11_longAt_14 (fun H locs hP hT hS => ?_)
        refine lv_iconst (v := (1 : Int32)) hx hb dX11_longAt_17 (by decide) ?_
        refine lv_isub hx hb dX11_longAt_18 ?_
        refine lv_iadd hx hb dX11_longAt_19 ?_
        refine lv_istore_n (lv' := [(2, .int (x2 + (r3 - (1 : Int32)))), (0, .ref (b + x0)), (1, .int x1), (3, .int x3)]) hx hb dX11_longAt_20 rfl hl (Nat.le_of_ble_eq_true rfl) rfl (fun ls hl => ?_)
        refine lv_iinc (v := (x3 + (1 : Int32))) (lv' := [(3, .int (x3 + (1 : Int32))), (2, .int (x2 + (r3 - (1 : Int32)))), (0, .ref (b + x0)), (1, .int x1)]) hx hb dX11_longAt_21 hl (k := 3) rfl rfl (Nat.le_of_ble_eq_true rfl) rfl (fun ls hl => ?_)
        refine lv_goto (tgt := 4) hx hb dX11_longAt_24 (by decide) ?_
        exact ih x0 x1 (x2 + (r3 - (1 : Int32))) (x3 + (1 : Int32)) I L R a1 H locs ls hP hS hT h0 (lv_sub hl [2, 3, 1, 0] rfl) hf kx
  obtain ⟨y3_4, e_4, hf⟩ := bd1_o hf
  refine lp4 FU x0 x1 (1 : Int32) (0 : Int32) I L R y3_4 H locs ls hP hS hT h0 (lv_sub hl [2, 3, 1, 0] rfl) e_4 (fun H locs ls hP hS hl => ?_)
  refine lv_iload_n hx hb dX11_longAt_27 rfl (lv_at hl 0 rfl) ?_
  exact hret y3_4 hf H locs ls _ dX11_longAt_28 hP hT hS
def rmX11_leftOf : Room := { frames := 0, cells := 0, slots := 0, locals := 0 }
set_option maxHeartbeats 4000000 in
set_option maxRecDepth 100000 in
theorem k_X11_leftOf (l : Launch) (D : va_G) (ce : Nat → ClassId) (b : Nat) (I : mI) (L : mL) (R : mR) (hT : WT kdM R) (x0 : Int32)  (o1 : Int32) (hf : f_X11_leftOf x0  = some o1) : Met l yX11_leftOf (Cond.code yX11_leftOf cX11_leftOf 1 (some .int) :: GW) rmX11_leftOf (va_Pc [.int x0] (PW D ce b kdM lnM 21 I L R)) (va_Qi (fun r u => r = o1 ∧ u = (I, L, R)) (QW D ce b kdM lnM 21) (box b 21)) 0 0 (box b 21) := by
  refine Met.ofW (cc := cX11_leftOf) (maxL := 1) (ret := (some .int)) (by decide) rfl ?_
  intro p e s m args below meth c s₁ B hml hv
  obtain ⟨rfl, hP, hKK⟩ := hv
  have hx := B.exec
  have hb := B.bytes
  have hr := B.returns
  have hts0 := atoms_spec (ws := Cond.code yX11_leftOf cX11_leftOf 1 (some .int) :: GW) B.pre
  have hts : ∀ w ∈ GW, w.before _ s = true := fun w h => hts0 w (List.mem_cons_of_mem _ h)
  clear hts0
  have hown : s.vm.findClass RX11 = some m.cls := findClass_of_methodNamed B.named
  have hlocks := B.notSynchronized
  have hA : ∀ q, box b 21 q → box b 21 q := fun _ h => h
  have hS : va_S (box b 21) s.heap s.heap [] := va_S.rf
  have hl := lv_entry ([.int x0]) (n := 1) (Nat.le_of_ble_eq_true rfl)
  rw [lg_entry_eq]
  generalize (lg_sl ([.int x0]) ++ List.replicate (1 - (lg_sl ([.int x0])).length) Slot.unset).toArray = ls at hl ⊢
  have hl : lv_has ls 1 [(0, .int x0)] := hl
  generalize ([.int x0] : List Value).toArray = av at hts ⊢
  show W p l e rmX11_leftOf s m av below meth c s.heap [] 0 0 _ _
  obtain ⟨QQ, hQQ⟩ : ∃ z, z = MQ below (va_Qi (fun r u => r = o1 ∧ u = (I, L, R)) (QW D ce b kdM lnM 21) (box b 21)) av s 0 0 (box b 21) := ⟨_, rfl⟩
  rw [← hQQ]
  have hret : ∀ (r : Int32), some r = some o1 → ∀ (H1 : Heap) (locs1 : List Loc) (ls1 : Array Slot) (pc1 : Nat), decode cX11_leftOf pc1 = .ok (.ireturn, 1) → va_P D vwCl (wd ce b kdM lnM 21 I L R) H1 → WT kdM R → va_S (box b 21) s.heap H1 locs1 → W p l e rmX11_leftOf s m av below meth c H1 locs1 0 0 QQ (F0 m pc1 ls1 [.int r]) := by
    intro r hq H1 locs1 ls1 pc1 hd hP hT hS
    cases hq
    rw [hQQ]
    exact mm_iret hx hb hr hlocks hP hT hS hd
  unfold f_X11_leftOf at hf
  obtain ⟨H, hH⟩ : ∃ z, z = s.heap := ⟨_, rfl⟩
  obtain ⟨locs, hlo⟩ : ∃ z : List Loc, z = [] := ⟨_, rfl⟩
  have hP : va_P D vwCl (wd ce b kdM lnM 21 I L R) H := by rw [hH]; exact hP
  have hS : va_S (box b 21) s.heap H locs := by rw [hH, hlo]; exact hS
  rw [show W p l e rmX11_leftOf s m av below meth c s.heap [] 0 0 QQ = W p l e rmX11_leftOf s m av below meth c H locs 0 0 QQ by rw [hH, hlo]]
  clear hH hlo
  clear hQQ
  show W p l e rmX11_leftOf s m av below meth c H locs 0 0 QQ (F0 m 0 ls [])
  refine lv_iconst (v := (1 : Int32)) hx hb dX11_leftOf_0 (by decide) ?_
  refine lv_bipush (v := (26 : Int32)) hx hb dX11_leftOf_1 (by decide) ?_
  refine lv_iload_n hx hb dX11_leftOf_3 rfl (lv_at hl 0 rfl) ?_
  refine lv_imul hx hb dX11_leftOf_4 ?_
  refine lv_iadd hx hb dX11_leftOf_5 ?_
  refine lv_iconst (v := (2 : Int32)) hx hb dX11_leftOf_6 (by decide) ?_
  refine lv_iadd hx hb dX11_leftOf_7 ?_
  exact hret (((1 : Int32) + ((26 : Int32) * x0)) + (2 : Int32)) hf H locs ls _ dX11_leftOf_8 hP hT hS
def rmX11_rightOf : Room := { frames := 0, cells := 0, slots := 0, locals := 0 }
set_option maxHeartbeats 4000000 in
set_option maxRecDepth 100000 in
theorem k_X11_rightOf (l : Launch) (D : va_G) (ce : Nat → ClassId) (b : Nat) (I : mI) (L : mL) (R : mR) (hT : WT kdM R) (x0 : Int32)  (o1 : Int32) (hf : f_X11_rightOf x0  = some o1) : Met l yX11_rightOf (Cond.code yX11_rightOf cX11_rightOf 1 (some .int) :: GW) rmX11_rightOf (va_Pc [.int x0] (PW D ce b kdM lnM 21 I L R)) (va_Qi (fun r u => r = o1 ∧ u = (I, L, R)) (QW D ce b kdM lnM 21) (box b 21)) 0 0 (box b 21) := by
  refine Met.ofW (cc := cX11_rightOf) (maxL := 1) (ret := (some .int)) (by decide) rfl ?_
  intro p e s m args below meth c s₁ B hml hv
  obtain ⟨rfl, hP, hKK⟩ := hv
  have hx := B.exec
  have hb := B.bytes
  have hr := B.returns
  have hts0 := atoms_spec (ws := Cond.code yX11_rightOf cX11_rightOf 1 (some .int) :: GW) B.pre
  have hts : ∀ w ∈ GW, w.before _ s = true := fun w h => hts0 w (List.mem_cons_of_mem _ h)
  clear hts0
  have hown : s.vm.findClass RX11 = some m.cls := findClass_of_methodNamed B.named
  have hlocks := B.notSynchronized
  have hA : ∀ q, box b 21 q → box b 21 q := fun _ h => h
  have hS : va_S (box b 21) s.heap s.heap [] := va_S.rf
  have hl := lv_entry ([.int x0]) (n := 1) (Nat.le_of_ble_eq_true rfl)
  rw [lg_entry_eq]
  generalize (lg_sl ([.int x0]) ++ List.replicate (1 - (lg_sl ([.int x0])).length) Slot.unset).toArray = ls at hl ⊢
  have hl : lv_has ls 1 [(0, .int x0)] := hl
  generalize ([.int x0] : List Value).toArray = av at hts ⊢
  show W p l e rmX11_rightOf s m av below meth c s.heap [] 0 0 _ _
  obtain ⟨QQ, hQQ⟩ : ∃ z, z = MQ below (va_Qi (fun r u => r = o1 ∧ u = (I, L, R)) (QW D ce b kdM lnM 21) (box b 21)) av s 0 0 (box b 21) := ⟨_, rfl⟩
  rw [← hQQ]
  have hret : ∀ (r : Int32), some r = some o1 → ∀ (H1 : Heap) (locs1 : List Loc) (ls1 : Array Slot) (pc1 : Nat), decode cX11_rightOf pc1 = .ok (.ireturn, 1) → va_P D vwCl (wd ce b kdM lnM 21 I L R) H1 → WT kdM R → va_S (box b 21) s.heap H1 locs1 → W p l e rmX11_rightOf s m av below meth c H1 locs1 0 0 QQ (F0 m pc1 ls1 [.int r]) := by
    intro r hq H1 locs1 ls1 pc1 hd hP hT hS
    cases hq
    rw [hQQ]
    exact mm_iret hx hb hr hlocks hP hT hS hd
  unfold f_X11_rightOf at hf
  obtain ⟨H, hH⟩ : ∃ z, z = s.heap := ⟨_, rfl⟩
  obtain ⟨locs, hlo⟩ : ∃ z : List Loc, z = [] := ⟨_, rfl⟩
  have hP : va_P D vwCl (wd ce b kdM lnM 21 I L R) H := by rw [hH]; exact hP
  have hS : va_S (box b 21) s.heap H locs := by rw [hH, hlo]; exact hS
  rw [show W p l e rmX11_rightOf s m av below meth c s.heap [] 0 0 QQ = W p l e rmX11_rightOf s m av below meth c H locs 0 0 QQ by rw [hH, hlo]]
  clear hH hlo
  clear hQQ
  show W p l e rmX11_rightOf s m av below meth c H locs 0 0 QQ (F0 m 0 ls [])
  refine lv_iconst (v := (1 : Int32)) hx hb dX11_rightOf_0 (by decide) ?_
  refine lv_bipush (v := (26 : Int32)) hx hb dX11_rightOf_1 (by decide) ?_
  refine lv_iload_n hx hb dX11_rightOf_3 rfl (lv_at hl 0 rfl) ?_
  refine lv_imul hx hb dX11_rightOf_4 ?_
  refine lv_iadd hx hb dX11_rightOf_5 ?_
  refine lv_bipush (v := (14 : Int32)) hx hb dX11_rightOf_6 (by decide) ?_
  refine lv_iadd hx hb dX11_rightOf_8 ?_
  exact hret (((1 : Int32) + ((26 : Int32) * x0)) + (14 : Int32)) hf H locs ls _ dX11_rightOf_9 hP hT hS
def rmX11_leftLong : Room := { frames := 0, cells := 0, slots := 0, locals := 0 }
set_option maxHeartbeats 4000000 in
set_option maxRecDepth 100000 in
theorem k_X11_leftLong (l : Launch) (D : va_G) (ce : Nat → ClassId) (b : Nat) (I : mI) (L : mL) (R : mR) (hT : WT kdM R) (x0 : Nat) (x1 : Int32) (h0 : kdM x0 = 1) (o1 : Int32) (hf : f_X11_leftLong x0 x1 I = some o1) : Met l yX11_leftLong (Cond.code yX11_leftLong cX11_leftLong 2 (some .int) :: GW) rmX11_leftLong (va_Pc [.ref (b + x0), .int x1] (PW D ce b kdM lnM 21 I L R)) (va_Qi (fun r u => r = o1 ∧ u = (I, L, R)) (QW D ce b kdM lnM 21) (box b 21)) 0 0 (box b 21) := by
  refine Met.ofW (cc := cX11_leftLong) (maxL := 2) (ret := (some .int)) (by decide) rfl ?_
  intro p e s m args below meth c s₁ B hml hv
  obtain ⟨rfl, hP, hKK⟩ := hv
  have hx := B.exec
  have hb := B.bytes
  have hr := B.returns
  have hts0 := atoms_spec (ws := Cond.code yX11_leftLong cX11_leftLong 2 (some .int) :: GW) B.pre
  have hts : ∀ w ∈ GW, w.before _ s = true := fun w h => hts0 w (List.mem_cons_of_mem _ h)
  clear hts0
  have hown : s.vm.findClass RX11 = some m.cls := findClass_of_methodNamed B.named
  have hlocks := B.notSynchronized
  have hA : ∀ q, box b 21 q → box b 21 q := fun _ h => h
  have hS : va_S (box b 21) s.heap s.heap [] := va_S.rf
  have hl := lv_entry ([.ref (b + x0), .int x1]) (n := 2) (Nat.le_of_ble_eq_true rfl)
  rw [lg_entry_eq]
  generalize (lg_sl ([.ref (b + x0), .int x1]) ++ List.replicate (2 - (lg_sl ([.ref (b + x0), .int x1])).length) Slot.unset).toArray = ls at hl ⊢
  have hl : lv_has ls 2 [(0, .ref (b + x0)), (1, .int x1)] := hl
  generalize ([.ref (b + x0), .int x1] : List Value).toArray = av at hts ⊢
  show W p l e rmX11_leftLong s m av below meth c s.heap [] 0 0 _ _
  obtain ⟨QQ, hQQ⟩ : ∃ z, z = MQ below (va_Qi (fun r u => r = o1 ∧ u = (I, L, R)) (QW D ce b kdM lnM 21) (box b 21)) av s 0 0 (box b 21) := ⟨_, rfl⟩
  rw [← hQQ]
  have hret : ∀ (r : Int32), some r = some o1 → ∀ (H1 : Heap) (locs1 : List Loc) (ls1 : Array Slot) (pc1 : Nat), decode cX11_leftLong pc1 = .ok (.ireturn, 1) → va_P D vwCl (wd ce b kdM lnM 21 I L R) H1 → WT kdM R → va_S (box b 21) s.heap H1 locs1 → W p l e rmX11_leftLong s m av below meth c H1 locs1 0 0 QQ (F0 m pc1 ls1 [.int r]) := by
    intro r hq H1 locs1 ls1 pc1 hd hP hT hS
    cases hq
    rw [hQQ]
    exact mm_iret hx hb hr hlocks hP hT hS hd
  unfold f_X11_leftLong at hf
  obtain ⟨H, hH⟩ : ∃ z, z = s.heap := ⟨_, rfl⟩
  obtain ⟨locs, hlo⟩ : ∃ z : List Loc, z = [] := ⟨_, rfl⟩
  have hP : va_P D vwCl (wd ce b kdM lnM 21 I L R) H := by rw [hH]; exact hP
  have hS : va_S (box b 21) s.heap H locs := by rw [hH, hlo]; exact hS
  rw [show W p l e rmX11_leftLong s m av below meth c s.heap [] 0 0 QQ = W p l e rmX11_leftLong s m av below meth c H locs 0 0 QQ by rw [hH, hlo]]
  clear hH hlo
  clear hQQ
  show W p l e rmX11_leftLong s m av below meth c H locs 0 0 QQ (F0 m 0 ls [])
  refine lv_aload_n hx hb dX11_leftLong_0 rfl (lv_at hl 0 rfl) ?_
  refine lv_iconst (v := (1 : Int32)) hx hb dX11_leftLong_1 (by decide) ?_
  refine lv_bipush (v := (26 : Int32)) hx hb dX11_leftLong_2 (by decide) ?_
  refine lv_iload_n hx hb dX11_leftLong_4 rfl (lv_at hl 1 rfl) ?_
  refine lv_imul hx hb dX11_leftLong_5 ?_
  refine lv_iadd hx hb dX11_leftLong_6 ?_
  obtain ⟨g1, hf⟩ := grd hf
  refine mm_iald hx hb hKK hP (kdM_lt h0 (Nat.succ_ne_zero _)) h0 g1 dX11_leftLong_7 ?_
  exact hret (I x0 (((1 : Int32) + ((26 : Int32) * x1))).toNatClampNeg) hf H locs ls _ dX11_leftLong_8 hP hT hS
def rmX11_rightLong : Room := { frames := 0, cells := 0, slots := 0, locals := 0 }
set_option maxHeartbeats 4000000 in
set_option maxRecDepth 100000 in
theorem k_X11_rightLong (l : Launch) (D : va_G) (ce : Nat → ClassId) (b : Nat) (I : mI) (L : mL) (R : mR) (hT : WT kdM R) (x0 : Nat) (x1 : Int32) (h0 : kdM x0 = 1) (o1 : Int32) (hf : f_X11_rightLong x0 x1 I = some o1) : Met l yX11_rightLong (Cond.code yX11_rightLong cX11_rightLong 2 (some .int) :: GW) rmX11_rightLong (va_Pc [.ref (b + x0), .int x1] (PW D ce b kdM lnM 21 I L R)) (va_Qi (fun r u => r = o1 ∧ u = (I, L, R)) (QW D ce b kdM lnM 21) (box b 21)) 0 0 (box b 21) := by
  refine Met.ofW (cc := cX11_rightLong) (maxL := 2) (ret := (some .int)) (by decide) rfl ?_
  intro p e s m args below meth c s₁ B hml hv
  obtain ⟨rfl, hP, hKK⟩ := hv
  have hx := B.exec
  have hb := B.bytes
  have hr := B.returns
  have hts0 := atoms_spec (ws := Cond.code yX11_rightLong cX11_rightLong 2 (some .int) :: GW) B.pre
  have hts : ∀ w ∈ GW, w.before _ s = true := fun w h => hts0 w (List.mem_cons_of_mem _ h)
  clear hts0
  have hown : s.vm.findClass RX11 = some m.cls := findClass_of_methodNamed B.named
  have hlocks := B.notSynchronized
  have hA : ∀ q, box b 21 q → box b 21 q := fun _ h => h
  have hS : va_S (box b 21) s.heap s.heap [] := va_S.rf
  have hl := lv_entry ([.ref (b + x0), .int x1]) (n := 2) (Nat.le_of_ble_eq_true rfl)
  rw [lg_entry_eq]
  generalize (lg_sl ([.ref (b + x0), .int x1]) ++ List.replicate (2 - (lg_sl ([.ref (b + x0), .int x1])).length) Slot.unset).toArray = ls at hl ⊢
  have hl : lv_has ls 2 [(0, .ref (b + x0)), (1, .int x1)] := hl
  generalize ([.ref (b + x0), .int x1] : List Value).toArray = av at hts ⊢
  show W p l e rmX11_rightLong s m av below meth c s.heap [] 0 0 _ _
  obtain ⟨QQ, hQQ⟩ : ∃ z, z = MQ below (va_Qi (fun r u => r = o1 ∧ u = (I, L, R)) (QW D ce b kdM lnM 21) (box b 21)) av s 0 0 (box b 21) := ⟨_, rfl⟩
  rw [← hQQ]
  have hret : ∀ (r : Int32), some r = some o1 → ∀ (H1 : Heap) (locs1 : List Loc) (ls1 : Array Slot) (pc1 : Nat), decode cX11_rightLong pc1 = .ok (.ireturn, 1) → va_P D vwCl (wd ce b kdM lnM 21 I L R) H1 → WT kdM R → va_S (box b 21) s.heap H1 locs1 → W p l e rmX11_rightLong s m av below meth c H1 locs1 0 0 QQ (F0 m pc1 ls1 [.int r]) := by
    intro r hq H1 locs1 ls1 pc1 hd hP hT hS
    cases hq
    rw [hQQ]
    exact mm_iret hx hb hr hlocks hP hT hS hd
  unfold f_X11_rightLong at hf
  obtain ⟨H, hH⟩ : ∃ z, z = s.heap := ⟨_, rfl⟩
  obtain ⟨locs, hlo⟩ : ∃ z : List Loc, z = [] := ⟨_, rfl⟩
  have hP : va_P D vwCl (wd ce b kdM lnM 21 I L R) H := by rw [hH]; exact hP
  have hS : va_S (box b 21) s.heap H locs := by rw [hH, hlo]; exact hS
  rw [show W p l e rmX11_rightLong s m av below meth c s.heap [] 0 0 QQ = W p l e rmX11_rightLong s m av below meth c H locs 0 0 QQ by rw [hH, hlo]]
  clear hH hlo
  clear hQQ
  show W p l e rmX11_rightLong s m av below meth c H locs 0 0 QQ (F0 m 0 ls [])
  refine lv_aload_n hx hb dX11_rightLong_0 rfl (lv_at hl 0 rfl) ?_
  refine lv_iconst (v := (1 : Int32)) hx hb dX11_rightLong_1 (by decide) ?_
  refine lv_bipush (v := (26 : Int32)) hx hb dX11_rightLong_2 (by decide) ?_
  refine lv_iload_n hx hb dX11_rightLong_4 rfl (lv_at hl 1 rfl) ?_
  refine lv_imul hx hb dX11_rightLong_5 ?_
  refine lv_iadd hx hb dX11_rightLong_6 ?_
  refine lv_iconst (v := (1 : Int32)) hx hb dX11_rightLong_7 (by decide) ?_
  refine lv_iadd hx hb dX11_rightLong_8 ?_
  obtain ⟨g1, hf⟩ := grd hf
  refine mm_iald hx hb hKK hP (kdM_lt h0 (Nat.succ_ne_zero _)) h0 g1 dX11_rightLong_9 ?_
  exact hret (I x0 ((((1 : Int32) + ((26 : Int32) * x1)) + (1 : Int32))).toNatClampNeg) hf H locs ls _ dX11_rightLong_10 hP hT hS
def rmX11_unknowns : Room := { frames := 0, cells := 0, slots := 0, locals := 0 }
set_option maxHeartbeats 4000000 in
set_option maxRecDepth 100000 in
theorem k_X11_unknowns (l : Launch) (D : va_G) (ce : Nat → ClassId) (b : Nat) (I : mI) (L : mL) (R : mR) (hT : WT kdM R) (x0 : Nat) (x1 : Int32) (x2 : Int32) (h0 : kdM x0 = 1) (o1 : Int32) (hf : f_X11_unknowns x0 x1 x2 I = some o1) : Met l yX11_unknowns (Cond.code yX11_unknowns cX11_unknowns 5 (some .int) :: GW) rmX11_unknowns (va_Pc [.ref (b + x0), .int x1, .int x2] (PW D ce b kdM lnM 21 I L R)) (va_Qi (fun r u => r = o1 ∧ u = (I, L, R)) (QW D ce b kdM lnM 21) (box b 21)) 0 0 (box b 21) := by
  refine Met.ofW (cc := cX11_unknowns) (maxL := 5) (ret := (some .int)) (by decide) rfl ?_
  intro p e s m args below meth c s₁ B hml hv
  obtain ⟨rfl, hP, hKK⟩ := hv
  have hx := B.exec
  have hb := B.bytes
  have hr := B.returns
  have hts0 := atoms_spec (ws := Cond.code yX11_unknowns cX11_unknowns 5 (some .int) :: GW) B.pre
  have hts : ∀ w ∈ GW, w.before _ s = true := fun w h => hts0 w (List.mem_cons_of_mem _ h)
  clear hts0
  have hown : s.vm.findClass RX11 = some m.cls := findClass_of_methodNamed B.named
  have hlocks := B.notSynchronized
  have hA : ∀ q, box b 21 q → box b 21 q := fun _ h => h
  have hS : va_S (box b 21) s.heap s.heap [] := va_S.rf
  have hl := lv_entry ([.ref (b + x0), .int x1, .int x2]) (n := 5) (Nat.le_of_ble_eq_true rfl)
  rw [lg_entry_eq]
  generalize (lg_sl ([.ref (b + x0), .int x1, .int x2]) ++ List.replicate (5 - (lg_sl ([.ref (b + x0), .int x1, .int x2])).length) Slot.unset).toArray = ls at hl ⊢
  have hl : lv_has ls 5 [(0, .ref (b + x0)), (1, .int x1), (2, .int x2)] := hl
  generalize ([.ref (b + x0), .int x1, .int x2] : List Value).toArray = av at hts ⊢
  show W p l e rmX11_unknowns s m av below meth c s.heap [] 0 0 _ _
  obtain ⟨QQ, hQQ⟩ : ∃ z, z = MQ below (va_Qi (fun r u => r = o1 ∧ u = (I, L, R)) (QW D ce b kdM lnM 21) (box b 21)) av s 0 0 (box b 21) := ⟨_, rfl⟩
  rw [← hQQ]
  have hret : ∀ (r : Int32), some r = some o1 → ∀ (H1 : Heap) (locs1 : List Loc) (ls1 : Array Slot) (pc1 : Nat), decode cX11_unknowns pc1 = .ok (.ireturn, 1) → va_P D vwCl (wd ce b kdM lnM 21 I L R) H1 → WT kdM R → va_S (box b 21) s.heap H1 locs1 → W p l e rmX11_unknowns s m av below meth c H1 locs1 0 0 QQ (F0 m pc1 ls1 [.int r]) := by
    intro r hq H1 locs1 ls1 pc1 hd hP hT hS
    cases hq
    rw [hQQ]
    exact mm_iret hx hb hr hlocks hP hT hS hd
  unfold f_X11_unknowns at hf
  obtain ⟨H, hH⟩ : ∃ z, z = s.heap := ⟨_, rfl⟩
  obtain ⟨locs, hlo⟩ : ∃ z : List Loc, z = [] := ⟨_, rfl⟩
  have hP : va_P D vwCl (wd ce b kdM lnM 21 I L R) H := by rw [hH]; exact hP
  have hS : va_S (box b 21) s.heap H locs := by rw [hH, hlo]; exact hS
  rw [show W p l e rmX11_unknowns s m av below meth c s.heap [] 0 0 QQ = W p l e rmX11_unknowns s m av below meth c H locs 0 0 QQ by rw [hH, hlo]]
  clear hH hlo
  clear hQQ
  show W p l e rmX11_unknowns s m av below meth c H locs 0 0 QQ (F0 m 0 ls [])
  refine lv_iconst (v := (0 : Int32)) hx hb dX11_unknowns_0 (by decide) ?_
  refine lv_istore_n (lv' := [(3, .int (0 : Int32)), (0, .ref (b + x0)), (1, .int x1), (2, .int x2)]) hx hb dX11_unknowns_1 rfl hl (Nat.le_of_ble_eq_true rfl) rfl (fun ls hl => ?_)
  refine lv_iconst (v := (0 : Int32)) hx hb dX11_unknowns_2 (by decide) ?_
  refine lv_istore (lv' := [(4, .int (0 : Int32)), (3, .int (0 : Int32)), (0, .ref (b + x0)), (1, .int x1), (2, .int x2)]) hx hb dX11_unknowns_3 hl (Nat.le_of_ble_eq_true rfl) rfl (fun ls hl => ?_)
  have lp5 : ∀ (n : Nat) (x0 : Nat) (x1 : Int32) (x2 : Int32) (x3 : Int32) (x4 : Int32) (I : mI) (L : mL) (R : mR) (a1 : Int32) (H : Heap) (locs : List Loc) (ls : Array Slot), va_P D vwCl (wd ce b kdM lnM 21 I L R) H → va_S (box b 21) s.heap H locs → WT kdM R → kdM x0 = 1 → lv_has ls 5 [(0, .ref (b + x0)), (1, .int x1), (2, .int x2), (3, .int x3), (4, .int x4)] → f_X11_unknowns_L5 n x0 x1 x2 x3 x4 I = some a1 → (∀ (H1 : Heap) (locs1 : List Loc) (ls1 : Array Slot), va_P D vwCl (wd ce b kdM lnM 21 I L R) H1 → va_S (box b 21) s.heap H1 locs1 → lv_has ls1 5 [(3, .int a1)] → W p l e rmX11_unknowns s m av below meth c H1 locs1 0 0 QQ (F0 m 51 ls1 [])) → W p l e rmX11_unknowns s m av below meth c H locs 0 0 QQ (F0 m 5 ls []) := by
    intro n
    induction n with
    | zero =>
      intro x0 x1 x2 x3 x4 I L R a1 H locs ls hP hS hT h0 hl hf kx
      exact absurd (show (none : Option (Int32)) = some _ from hf) (by simp)
    | succ n ih =>
      intro x0 x1 x2 x3 x4 I L R a1 H locs ls hP hS hT h0 hl hf kx
      rw [f_X11_unknowns_L5] at hf
      refine lv_iload hx hb dX11_unknowns_5 (lv_at hl 4 rfl) ?_
      refine lv_iload_n hx hb dX11_unknowns_7 rfl (lv_at hl 2 rfl) ?_
      refine lv_icmp_ge (tgt := 51) hx hb dX11_unknowns_8 (by decide) (fun c1 => ?_) (fun c1 => ?_)
      · have hf := ifT hf c1
        cases hf
        exact kx H locs ls hP hS (lv_sub hl [3] rfl)
      · have hf := ifF hf c1
        refine lv_iload_n hx hb dX11_unknowns_11 rfl (lv_at hl 3 rfl) ?_
        refine lv_aload_n hx hb dX11_unknowns_12 rfl (lv_at hl 0 rfl) ?_
        refine lv_iload_n hx hb dX11_unknowns_13 rfl (lv_at hl 1 rfl) ?_
        refine lv_iload hx hb dX11_unknowns_14 (lv_at hl 4 rfl) ?_
        refine lv_iadd hx hb dX11_unknowns_16 ?_
        obtain ⟨g2, hf⟩ := grd hf
        refine mm_iald hx hb hKK hP (kdM_lt h0 (Nat.succ_ne_zero _)) h0 g2 dX11_unknowns_17 ?_
        refine lv_bipush (v := (120 : Int32)) hx hb dX11_unknowns_18 (by decide) ?_
        refine jnE hf (fun j43_3 ej_3 hf => ?_)
        have hJ43_3 : ∀ (w1_3 : Int32) (H : Heap) (locs : List Loc) (ls : Array Slot), va_P D vwCl (wd ce b kdM lnM 21 I L R) H → va_S (box b 21) s.heap H locs → lv_has ls 5 [(0, .ref (b + x0)), (1, .int x1), (2, .int x2), (4, .int x4)] → j43_3 w1_3 = some a1 → W p l e rmX11_unknowns s m av below meth c H locs 0 0 QQ (F0 m 43 ls [.int w1_3, .int x3]) := by
          intro w1_3 H locs ls hP hS  hl hf
          rw [ej_3] at hf
          try dsimp only at hf
          refine lv_ior hx hb dX11_unknowns_43 ?_
          refine lv_istore_n (lv' := [(3, .int (x3 ||| w1_3)), (0, .ref (b + x0)), (1, .int x1), (2, .int x2), (4, .int x4)]) hx hb dX11_unknowns_44 rfl hl (Nat.le_of_ble_eq_true rfl) rfl (fun ls hl => ?_)
          refine lv_iinc (v := (x4 + (1 : Int32))) (lv' := [(4, .int (x4 + (1 : Int32))), (3, .int (x3 ||| w1_3)), (0, .ref (b + x0)), (1, .int x1), (2, .int x2)]) hx hb dX11_unknowns_45 hl (k := 4) rfl rfl (Nat.le_of_ble_eq_true rfl) rfl (fun ls hl => ?_)
          refine lv_goto (tgt := 5) hx hb dX11_unknowns_48 (by decide) ?_
          exact ih x0 x1 x2 (x3 ||| w1_3) (x4 + (1 : Int32)) I L R a1 H locs ls hP hS hT h0 (lv_sub hl [2, 3, 4, 1, 0] rfl) hf kx
        clear ej_3
        refine lv_icmp_ne (tgt := 27) hx hb dX11_unknowns_20 (by decide) (fun c4 => ?_) (fun c4 => ?_)
        · have hf := ifF hf c4
          refine lv_aload_n hx hb dX11_unknowns_27 rfl (lv_at hl 0 rfl) ?_
          refine lv_iload_n hx hb dX11_unknowns_28 rfl (lv_at hl 1 rfl) ?_
          refine lv_iload hx hb dX11_unknowns_29 (lv_at hl 4 rfl) ?_
          refine lv_iadd hx hb dX11_unknowns_31 ?_
          refine mm_iald hx hb hKK hP (kdM_lt h0 (Nat.succ_ne_zero _)) h0 g2 dX11_unknowns_32 ?_
          refine lv_bipush (v := (121 : Int32)) hx hb dX11_unknowns_33 (by decide) ?_
          refine lv_icmp_ne (tgt := 42) hx hb dX11_unknowns_35 (by decide) (fun c5 => ?_) (fun c5 => ?_)
          · have hf := ifF hf c5
            refine lv_iconst (v := (0 : Int32)) hx hb dX11_unknowns_42 (by decide) ?_
            exact hJ43_3 (0 : Int32) H locs ls hP hS  (lv_sub hl [0, 1, 2, 4] rfl) hf
          · have hf := ifT hf c5
            refine lv_iconst (v := (2 : Int32)) hx hb dX11_unknowns_38 (by decide) ?_
            refine lv_goto (tgt := 43) hx hb dX11_unknowns_39 (by decide) ?_
            exact hJ43_3 (2 : Int32) H locs ls hP hS  (lv_sub hl [0, 1, 2, 4] rfl) hf
        · have hf := ifT hf c4
          refine lv_iconst (v := (1 : Int32)) hx hb dX11_unknowns_23 (by decide) ?_
          refine lv_goto (tgt := 43) hx hb dX11_unknowns_24 (by decide) ?_
          exact hJ43_3 (1 : Int32) H locs ls hP hS  (lv_sub hl [0, 1, 2, 4] rfl) hf
  obtain ⟨y3_6, e_6, hf⟩ := bd1_o hf
  refine lp5 FU x0 x1 x2 (0 : Int32) (0 : Int32) I L R y3_6 H locs ls hP hS hT h0 (lv_sub hl [2, 3, 4, 1, 0] rfl) e_6 (fun H locs ls hP hS hl => ?_)
  refine lv_iload_n hx hb dX11_unknowns_51 rfl (lv_at hl 0 rfl) ?_
  exact hret y3_6 hf H locs ls _ dX11_unknowns_52 hP hT hS
def rmX11_wantsMore : Room := { frames := 0, cells := 0, slots := 0, locals := 0 }
set_option maxHeartbeats 4000000 in
set_option maxRecDepth 100000 in
theorem k_X11_wantsMore (l : Launch) (D : va_G) (ce : Nat → ClassId) (b : Nat) (I : mI) (L : mL) (R : mR) (hT : WT kdM R) (x0 : Nat) (x1 : Int32) (h0 : kdM x0 = 17) (o1 : mI) (hf : f_X11_wantsMore x0 x1 I R = some o1) : Met l yX11_wantsMore (Cond.code yX11_wantsMore cX11_wantsMore 2 none :: GW) rmX11_wantsMore (va_Pc [.ref (b + x0), .int x1] (PW D ce b kdM lnM 21 I L R)) (va_Qv (fun u => u = (o1, L, R)) (QW D ce b kdM lnM 21) (box b 21)) 0 0 (box b 21) := by
  refine Met.ofW (cc := cX11_wantsMore) (maxL := 2) (ret := none) (by decide) rfl ?_
  intro p e s m args below meth c s₁ B hml hv
  obtain ⟨rfl, hP, hKK⟩ := hv
  have hx := B.exec
  have hb := B.bytes
  have hr := B.returns
  have hts0 := atoms_spec (ws := Cond.code yX11_wantsMore cX11_wantsMore 2 none :: GW) B.pre
  have hts : ∀ w ∈ GW, w.before _ s = true := fun w h => hts0 w (List.mem_cons_of_mem _ h)
  clear hts0
  have hown : s.vm.findClass RX11 = some m.cls := findClass_of_methodNamed B.named
  have hlocks := B.notSynchronized
  have hA : ∀ q, box b 21 q → box b 21 q := fun _ h => h
  have hS : va_S (box b 21) s.heap s.heap [] := va_S.rf
  have hl := lv_entry ([.ref (b + x0), .int x1]) (n := 2) (Nat.le_of_ble_eq_true rfl)
  rw [lg_entry_eq]
  generalize (lg_sl ([.ref (b + x0), .int x1]) ++ List.replicate (2 - (lg_sl ([.ref (b + x0), .int x1])).length) Slot.unset).toArray = ls at hl ⊢
  have hl : lv_has ls 2 [(0, .ref (b + x0)), (1, .int x1)] := hl
  generalize ([.ref (b + x0), .int x1] : List Value).toArray = av at hts ⊢
  show W p l e rmX11_wantsMore s m av below meth c s.heap [] 0 0 _ _
  obtain ⟨QQ, hQQ⟩ : ∃ z, z = MQ below (va_Qv (fun u => u = (o1, L, R)) (QW D ce b kdM lnM 21) (box b 21)) av s 0 0 (box b 21) := ⟨_, rfl⟩
  rw [← hQQ]
  have hret : ∀ (I1 : mI), some I1 = some o1 → ∀ (H1 : Heap) (locs1 : List Loc) (ls1 : Array Slot) (pc1 : Nat), decode cX11_wantsMore pc1 = .ok (.return_, 1) → va_P D vwCl (wd ce b kdM lnM 21 I1 L R) H1 → WT kdM R → va_S (box b 21) s.heap H1 locs1 → W p l e rmX11_wantsMore s m av below meth c H1 locs1 0 0 QQ (F0 m pc1 ls1 []) := by
    intro I1 hq H1 locs1 ls1 pc1 hd hP hT hS
    cases hq
    rw [hQQ]
    exact mm_vret hx hb hr hlocks hP hT hS hd
  unfold f_X11_wantsMore at hf
  obtain ⟨H, hH⟩ : ∃ z, z = s.heap := ⟨_, rfl⟩
  obtain ⟨locs, hlo⟩ : ∃ z : List Loc, z = [] := ⟨_, rfl⟩
  have hP : va_P D vwCl (wd ce b kdM lnM 21 I L R) H := by rw [hH]; exact hP
  have hS : va_S (box b 21) s.heap H locs := by rw [hH, hlo]; exact hS
  rw [show W p l e rmX11_wantsMore s m av below meth c s.heap [] 0 0 QQ = W p l e rmX11_wantsMore s m av below meth c H locs 0 0 QQ by rw [hH, hlo]]
  clear hH hlo
  clear hQQ
  show W p l e rmX11_wantsMore s m av below meth c H locs 0 0 QQ (F0 m 0 ls [])
  refine lv_aload_n hx hb dX11_wantsMore_0 rfl (lv_at hl 0 rfl) ?_
  have t1 : kdM (R x0 8) = 1 := wt hT h0 rfl
  refine mm_getr hx hb hts hown hKK hP fk11_8 (Nat.le_of_ble_eq_true rfl) lkX11_25 (kdM_lt h0 (Nat.succ_ne_zero _)) h0 (nM t1 (Nat.succ_ne_zero _)) dX11_wantsMore_1 ?_
  refine lv_aload_n hx hb dX11_wantsMore_4 rfl (lv_at hl 0 rfl) ?_
  refine mm_geti hx hb hts hown hKK hP fk11_9 (Or.inl rfl) lkX11_87 (kdM_lt h0 (Nat.succ_ne_zero _)) h0 dX11_wantsMore_5 ?_
  refine lv_iload_n hx hb dX11_wantsMore_8 rfl (lv_at hl 1 rfl) ?_
  obtain ⟨g2, hf⟩ := grd hf
  refine jnE hf (fun I3 eI3 hf => ?_)
  refine mm_iast hx hb hKK hP hA hS (kdM_lt t1 (Nat.succ_ne_zero _)) t1 g2 dX11_wantsMore_9 (fun H locs hP hS => ?_)
  rw [← eI3] at hP
  refine lv_aload_n hx hb dX11_wantsMore_10 rfl (lv_at hl 0 rfl) ?_
  refine lv_dup hx hb dX11_wantsMore_11 rfl ?_
  refine mm_geti hx hb hts hown hKK hP fk11_9 (Or.inl rfl) lkX11_87 (kdM_lt h0 (Nat.succ_ne_zero _)) h0 dX11_wantsMore_12 ?_
  refine lv_iconst (v := (1 : Int32)) hx hb dX11_wantsMore_15 (by decide) ?_
  refine lv_iadd hx hb dX11_wantsMore_16 ?_
  refine jnE hf (fun I4 eI4 hf => ?_)
  refine mm_puti hx hb hts hown hKK hP hA hS fk11_9 (Or.inl rfl) fw11_9 lkX11_87 (kdM_lt h0 (Nat.succ_ne_zero _)) h0 rfl rfl dX11_wantsMore_17 (fun H locs hP hS => ?_)
  rw [← eI4] at hP
  exact hret I4 hf H locs ls _ dX11_wantsMore_20 hP hT hS
def rmX11_blanks : Room := { frames := 0, cells := 0, slots := 0, locals := 0 }
set_option maxHeartbeats 4000000 in
set_option maxRecDepth 100000 in
theorem k_X11_blanks (l : Launch) (D : va_G) (ce : Nat → ClassId) (b : Nat) (I : mI) (L : mL) (R : mR) (hT : WT kdM R) (x0 : Nat) (h0 : kdM x0 = 17) (o1 : mI) (hf : f_X11_blanks x0 I R = some o1) : Met l yX11_blanks (Cond.code yX11_blanks cX11_blanks 1 none :: GW) rmX11_blanks (va_Pc [.ref (b + x0)] (PW D ce b kdM lnM 21 I L R)) (va_Qv (fun u => u = (o1, L, R)) (QW D ce b kdM lnM 21) (box b 21)) 0 0 (box b 21) := by
  refine Met.ofW (cc := cX11_blanks) (maxL := 1) (ret := none) (by decide) rfl ?_
  intro p e s m args below meth c s₁ B hml hv
  obtain ⟨rfl, hP, hKK⟩ := hv
  have hx := B.exec
  have hb := B.bytes
  have hr := B.returns
  have hts0 := atoms_spec (ws := Cond.code yX11_blanks cX11_blanks 1 none :: GW) B.pre
  have hts : ∀ w ∈ GW, w.before _ s = true := fun w h => hts0 w (List.mem_cons_of_mem _ h)
  clear hts0
  have hown : s.vm.findClass RX11 = some m.cls := findClass_of_methodNamed B.named
  have hlocks := B.notSynchronized
  have hA : ∀ q, box b 21 q → box b 21 q := fun _ h => h
  have hS : va_S (box b 21) s.heap s.heap [] := va_S.rf
  have hl := lv_entry ([.ref (b + x0)]) (n := 1) (Nat.le_of_ble_eq_true rfl)
  rw [lg_entry_eq]
  generalize (lg_sl ([.ref (b + x0)]) ++ List.replicate (1 - (lg_sl ([.ref (b + x0)])).length) Slot.unset).toArray = ls at hl ⊢
  have hl : lv_has ls 1 [(0, .ref (b + x0))] := hl
  generalize ([.ref (b + x0)] : List Value).toArray = av at hts ⊢
  show W p l e rmX11_blanks s m av below meth c s.heap [] 0 0 _ _
  obtain ⟨QQ, hQQ⟩ : ∃ z, z = MQ below (va_Qv (fun u => u = (o1, L, R)) (QW D ce b kdM lnM 21) (box b 21)) av s 0 0 (box b 21) := ⟨_, rfl⟩
  rw [← hQQ]
  have hret : ∀ (I1 : mI), some I1 = some o1 → ∀ (H1 : Heap) (locs1 : List Loc) (ls1 : Array Slot) (pc1 : Nat), decode cX11_blanks pc1 = .ok (.return_, 1) → va_P D vwCl (wd ce b kdM lnM 21 I1 L R) H1 → WT kdM R → va_S (box b 21) s.heap H1 locs1 → W p l e rmX11_blanks s m av below meth c H1 locs1 0 0 QQ (F0 m pc1 ls1 []) := by
    intro I1 hq H1 locs1 ls1 pc1 hd hP hT hS
    cases hq
    rw [hQQ]
    exact mm_vret hx hb hr hlocks hP hT hS hd
  unfold f_X11_blanks at hf
  obtain ⟨H, hH⟩ : ∃ z, z = s.heap := ⟨_, rfl⟩
  obtain ⟨locs, hlo⟩ : ∃ z : List Loc, z = [] := ⟨_, rfl⟩
  have hP : va_P D vwCl (wd ce b kdM lnM 21 I L R) H := by rw [hH]; exact hP
  have hS : va_S (box b 21) s.heap H locs := by rw [hH, hlo]; exact hS
  rw [show W p l e rmX11_blanks s m av below meth c s.heap [] 0 0 QQ = W p l e rmX11_blanks s m av below meth c H locs 0 0 QQ by rw [hH, hlo]]
  clear hH hlo
  clear hQQ
  show W p l e rmX11_blanks s m av below meth c H locs 0 0 QQ (F0 m 0 ls [])
  have lp0 : ∀ (n : Nat) (x0 : Nat) (I : mI) (L : mL) (R : mR) (a1 : mI) (H : Heap) (locs : List Loc) (ls : Array Slot), va_P D vwCl (wd ce b kdM lnM 21 I L R) H → va_S (box b 21) s.heap H locs → WT kdM R → kdM x0 = 17 → lv_has ls 1 [(0, .ref (b + x0))] → f_X11_blanks_L0 n x0 I R = some a1 → (∀ (H1 : Heap) (locs1 : List Loc) (ls1 : Array Slot), va_P D vwCl (wd ce b kdM lnM 21 a1 L R) H1 → va_S (box b 21) s.heap H1 locs1 → lv_has ls1 1 [] → W p l e rmX11_blanks s m av below meth c H1 locs1 0 0 QQ (F0 m 38 ls1 [])) → W p l e rmX11_blanks s m av below meth c H locs 0 0 QQ (F0 m 0 ls []) := by
    intro n
    induction n with
    | zero =>
      intro x0 I L R a1 H locs ls hP hS hT h0 hl hf kx
      exact absurd (show (none : Option (mI)) = some _ from hf) (by simp)
    | succ n ih =>
      intro x0 I L R a1 H locs ls hP hS hT h0 hl hf kx
      rw [f_X11_blanks_L0] at hf
      refine lv_aload_n hx hb dX11_blanks_0 rfl (lv_at hl 0 rfl) ?_
      refine mm_geti hx hb hts hown hKK hP fk11_7 (Or.inl rfl) lkX11_90 (kdM_lt h0 (Nat.succ_ne_zero _)) h0 dX11_blanks_1 ?_
      refine lv_aload_n hx hb dX11_blanks_4 rfl (lv_at hl 0 rfl) ?_
      refine mm_geti hx hb hts hown hKK hP fk11_6 (Or.inl rfl) lkX11_93 (kdM_lt h0 (Nat.succ_ne_zero _)) h0 dX11_blanks_5 ?_
      refine lv_icmp_ge (tgt := 38) hx hb dX11_blanks_8 (by decide) (fun c1 => ?_) (fun c1 => ?_)
      · have hf := ifT hf c1
        cases hf
        exact kx H locs ls hP hS (lv_sub hl [] rfl)
      · have hf := ifF hf c1
        refine lv_aload_n hx hb dX11_blanks_11 rfl (lv_at hl 0 rfl) ?_
        have t2 : kdM (R x0 5) = 1 := wt hT h0 rfl
        refine mm_getr hx hb hts hown hKK hP fk11_5 (Nat.le_of_ble_eq_true rfl) lkX11_22 (kdM_lt h0 (Nat.succ_ne_zero _)) h0 (nM t2 (Nat.succ_ne_zero _)) dX11_blanks_12 ?_
        refine lv_aload_n hx hb dX11_blanks_15 rfl (lv_at hl 0 rfl) ?_
        refine mm_geti hx hb hts hown hKK hP fk11_7 (Or.inl rfl) lkX11_90 (kdM_lt h0 (Nat.succ_ne_zero _)) h0 dX11_blanks_16 ?_
        obtain ⟨g3, hf⟩ := grd hf
        refine mm_iald hx hb hKK hP (kdM_lt t2 (Nat.succ_ne_zero _)) t2 g3 dX11_blanks_19 ?_
        refine lv_bipush (v := (32 : Int32)) hx hb dX11_blanks_20 (by decide) ?_
        refine lv_icmp_ne (tgt := 38) hx hb dX11_blanks_22 (by decide) (fun c4 => ?_) (fun c4 => ?_)
        · have hf := ifF hf c4
          cases hf
          exact kx H locs ls hP hS (lv_sub hl [] rfl)
        · have hf := ifT hf c4
          refine lv_aload_n hx hb dX11_blanks_25 rfl (lv_at hl 0 rfl) ?_
          refine lv_dup hx hb dX11_blanks_26 rfl ?_
          refine mm_geti hx hb hts hown hKK hP fk11_7 (Or.inl rfl) lkX11_90 (kdM_lt h0 (Nat.succ_ne_zero _)) h0 dX11_blanks_27 ?_
          refine lv_iconst (v := (1 : Int32)) hx hb dX11_blanks_30 (by decide) ?_
          refine lv_iadd hx hb dX11_blanks_31 ?_
          refine jnE hf (fun I5 eI5 hf => ?_)
          refine mm_puti hx hb hts hown hKK hP hA hS fk11_7 (Or.inl rfl) fw11_7 lkX11_90 (kdM_lt h0 (Nat.succ_ne_zero _)) h0 rfl rfl dX11_blanks_32 (fun H locs hP hS => ?_)
          rw [← eI5] at hP
          refine lv_goto (tgt := 0) hx hb dX11_blanks_35 (by decide) ?_
          exact ih x0 I5 L R a1 H locs ls hP hS hT h0 (lv_sub hl [0] rfl) hf kx
  obtain ⟨I_6, e_6, hf⟩ := bd1_o hf
  refine lp0 FU x0 I L R I_6 H locs ls hP hS hT h0 (lv_sub hl [0] rfl) e_6 (fun H locs ls hP hS hl => ?_)
  exact hret I_6 hf H locs ls _ dX11_blanks_38 hP hT hS
def rmX11_isLetter : Room := { frames := 1, cells := 0, slots := 0, locals := 22 }
set_option maxHeartbeats 4000000 in
set_option maxRecDepth 100000 in
theorem k_X11_isLetter (l : Launch) (D : va_G) (ce : Nat → ClassId) (b : Nat) (I : mI) (L : mL) (R : mR) (hT : WT kdM R) (x0 : Int32)  (o1 : Int32) (hf : f_X11_isLetter x0  = some o1) : Met l yX11_isLetter (Cond.code yX11_isLetter cX11_isLetter 1 (some .boolean) :: GW) rmX11_isLetter (va_Pc [.int x0] (PW D ce b kdM lnM 21 I L R)) (va_Qi (fun r u => r = o1 ∧ u = (I, L, R)) (QW D ce b kdM lnM 21) (box b 21)) 0 0 (box b 21) := by
  refine Met.ofW (cc := cX11_isLetter) (maxL := 1) (ret := (some .boolean)) (by decide) rfl ?_
  intro p e s m args below meth c s₁ B hml hv
  obtain ⟨rfl, hP, hKK⟩ := hv
  have hx := B.exec
  have hb := B.bytes
  have hr := B.returns
  have hts0 := atoms_spec (ws := Cond.code yX11_isLetter cX11_isLetter 1 (some .boolean) :: GW) B.pre
  have hts : ∀ w ∈ GW, w.before _ s = true := fun w h => hts0 w (List.mem_cons_of_mem _ h)
  clear hts0
  have hown : s.vm.findClass RX11 = some m.cls := findClass_of_methodNamed B.named
  have hlocks := B.notSynchronized
  have hA : ∀ q, box b 21 q → box b 21 q := fun _ h => h
  have hS : va_S (box b 21) s.heap s.heap [] := va_S.rf
  have hl := lv_entry ([.int x0]) (n := 1) (Nat.le_of_ble_eq_true rfl)
  rw [lg_entry_eq]
  generalize (lg_sl ([.int x0]) ++ List.replicate (1 - (lg_sl ([.int x0])).length) Slot.unset).toArray = ls at hl ⊢
  have hl : lv_has ls 1 [(0, .int x0)] := hl
  generalize ([.int x0] : List Value).toArray = av at hts ⊢
  show W p l e rmX11_isLetter s m av below meth c s.heap [] 0 0 _ _
  obtain ⟨QQ, hQQ⟩ : ∃ z, z = MQ below (va_Qi (fun r u => r = o1 ∧ u = (I, L, R)) (QW D ce b kdM lnM 21) (box b 21)) av s 0 0 (box b 21) := ⟨_, rfl⟩
  rw [← hQQ]
  have hret : ∀ (r : Int32), some r = some o1 → ∀ (H1 : Heap) (locs1 : List Loc) (ls1 : Array Slot) (pc1 : Nat), decode cX11_isLetter pc1 = .ok (.ireturn, 1) → zb r = true → va_P D vwCl (wd ce b kdM lnM 21 I L R) H1 → WT kdM R → va_S (box b 21) s.heap H1 locs1 → W p l e rmX11_isLetter s m av below meth c H1 locs1 0 0 QQ (F0 m pc1 ls1 [.int r]) := by
    intro r hq H1 locs1 ls1 pc1 hd hz hP hT hS
    cases hq
    rw [hQQ]
    exact mm_zret hx hb hr hlocks hz hP hT hS hd
  unfold f_X11_isLetter at hf
  obtain ⟨H, hH⟩ : ∃ z, z = s.heap := ⟨_, rfl⟩
  obtain ⟨locs, hlo⟩ : ∃ z : List Loc, z = [] := ⟨_, rfl⟩
  have hP : va_P D vwCl (wd ce b kdM lnM 21 I L R) H := by rw [hH]; exact hP
  have hS : va_S (box b 21) s.heap H locs := by rw [hH, hlo]; exact hS
  rw [show W p l e rmX11_isLetter s m av below meth c s.heap [] 0 0 QQ = W p l e rmX11_isLetter s m av below meth c H locs 0 0 QQ by rw [hH, hlo]]
  clear hH hlo
  clear hQQ
  show W p l e rmX11_isLetter s m av below meth c H locs 0 0 QQ (F0 m 0 ls [])
  refine lv_iload_n hx hb dX11_isLetter_0 rfl (lv_at hl 0 rfl) ?_
  refine lv_bipush (v := (97 : Int32)) hx hb dX11_isLetter_1 (by decide) ?_
  refine lv_bipush (v := (98 : Int32)) hx hb dX11_isLetter_3 (by decide) ?_
  obtain ⟨r1, e1, hf⟩ := bd1_o hf
  refine mm_Si (rest := []) hx hb hml hown hts hKK hP hS hA skX11_96 (k_X11_in l D ce b I L R hT x0 (97 : Int32) (98 : Int32)  r1 e1) rfl hl.1 rfl (Nat.le_of_ble_eq_true rfl) ⟨rfl, rfl⟩ ⟨Nat.le_of_ble_eq_true rfl, Nat.le_of_ble_eq_true rfl⟩ ⟨Nat.zero_le _, Nat.zero_le _⟩ dX11_isLetter_5 (fun H locs hP hT hS => ?_)
  refine jnE hf (fun j29_2 ej_2 hf => ?_)
  have hJ29_2 : ∀ (H : Heap) (locs : List Loc) (ls : Array Slot), va_P D vwCl (wd ce b kdM lnM 21 I L R) H → va_S (box b 21) s.heap H locs → lv_has ls 1 [] → j29_2  = some o1 → W p l e rmX11_isLetter s m av below meth c H locs 0 0 QQ (F0 m 29 ls []) := by
    intro  H locs ls hP hS  hl hf
    rw [ej_2] at hf
    try dsimp only at hf
    refine lv_iconst (v := (1 : Int32)) hx hb dX11_isLetter_29 (by decide) ?_
    refine lv_goto (tgt := 34) hx hb dX11_isLetter_30 (by decide) ?_
    exact hret (1 : Int32) hf H locs ls _ dX11_isLetter_34 rfl hP hT hS
  clear ej_2
  refine lv_if_ne (tgt := 29) hx hb dX11_isLetter_8 (by decide) (fun c3 => ?_) (fun c3 => ?_)
  · have hf := ifF hf c3
    exact hJ29_2  H locs ls hP hS  (lv_sub hl [] rfl) hf
  · have hf := ifT hf c3
    refine lv_iload_n hx hb dX11_isLetter_11 rfl (lv_at hl 0 rfl) ?_
    refine lv_bipush (v := (102 : Int32)) hx hb dX11_isLetter_12 (by decide) ?_
    refine lv_bipush (v := (103 : Int32)) hx hb dX11_isLetter_14 (by decide) ?_
    obtain ⟨r4, e4, hf⟩ := bd1_o hf
    refine mm_Si (rest := []) hx hb hml hown hts hKK hP hS hA skX11_96 (k_X11_in l D ce b I L R hT x0 (102 : Int32) (103 : Int32)  r4 e4) rfl hl.1 rfl (Nat.le_of_ble_eq_true rfl) ⟨rfl, rfl⟩ ⟨Nat.le_of_ble_eq_true rfl, Nat.le_of_ble_eq_true rfl⟩ ⟨Nat.zero_le _, Nat.zero_le _⟩ dX11_isLetter_16 (fun H locs hP hT hS => ?_)
    refine lv_if_ne (tgt := 29) hx hb dX11_isLetter_19 (by decide) (fun c5 => ?_) (fun c5 => ?_)
    · have hf := ifF hf c5
      exact hJ29_2  H locs ls hP hS  (lv_sub hl [] rfl) hf
    · have hf := ifT hf c5
      refine lv_iload_n hx hb dX11_isLetter_22 rfl (lv_at hl 0 rfl) ?_
      obtain ⟨r6, e6, hf⟩ := bd1_o hf
      refine mm_Si (rest := []) hx hb hml hown hts hKK hP hS hA skX11_100 (k_X11_isUnknown l D ce b I L R hT x0  r6 e6) rfl hl.1 rfl (Nat.le_of_ble_eq_true rfl) ⟨rfl, rfl⟩ ⟨Nat.le_of_ble_eq_true rfl, Nat.le_of_ble_eq_true rfl⟩ ⟨Nat.zero_le _, Nat.zero_le _⟩ dX11_isLetter_23 (fun H locs hP hT hS => ?_)
      refine lv_if_eq (tgt := 33) hx hb dX11_isLetter_26 (by decide) (fun c7 => ?_) (fun c7 => ?_)
      · have hf := ifT hf c7
        refine lv_iconst (v := (0 : Int32)) hx hb dX11_isLetter_33 (by decide) ?_
        exact hret (0 : Int32) hf H locs ls _ dX11_isLetter_34 rfl hP hT hS
      · have hf := ifF hf c7
        exact hJ29_2  H locs ls hP hS  (lv_sub hl [] rfl) hf
def rmX11_opens : Room := { frames := 1, cells := 0, slots := 0, locals := 21 }
set_option maxHeartbeats 4000000 in
set_option maxRecDepth 100000 in
theorem k_X11_opens (l : Launch) (D : va_G) (ce : Nat → ClassId) (b : Nat) (I : mI) (L : mL) (R : mR) (hT : WT kdM R) (x0 : Nat) (x1 : Int32) (h0 : kdM x0 = 17) (o1 : mI) (hf : f_X11_opens x0 x1 I R = some o1) : Met l yX11_opens (Cond.code yX11_opens cX11_opens 2 none :: GW) rmX11_opens (va_Pc [.ref (b + x0), .int x1] (PW D ce b kdM lnM 21 I L R)) (va_Qv (fun u => u = (o1, L, R)) (QW D ce b kdM lnM 21) (box b 21)) 0 0 (box b 21) := by
  refine Met.ofW (cc := cX11_opens) (maxL := 2) (ret := none) (by decide) rfl ?_
  intro p e s m args below meth c s₁ B hml hv
  obtain ⟨rfl, hP, hKK⟩ := hv
  have hx := B.exec
  have hb := B.bytes
  have hr := B.returns
  have hts0 := atoms_spec (ws := Cond.code yX11_opens cX11_opens 2 none :: GW) B.pre
  have hts : ∀ w ∈ GW, w.before _ s = true := fun w h => hts0 w (List.mem_cons_of_mem _ h)
  clear hts0
  have hown : s.vm.findClass RX11 = some m.cls := findClass_of_methodNamed B.named
  have hlocks := B.notSynchronized
  have hA : ∀ q, box b 21 q → box b 21 q := fun _ h => h
  have hS : va_S (box b 21) s.heap s.heap [] := va_S.rf
  have hl := lv_entry ([.ref (b + x0), .int x1]) (n := 2) (Nat.le_of_ble_eq_true rfl)
  rw [lg_entry_eq]
  generalize (lg_sl ([.ref (b + x0), .int x1]) ++ List.replicate (2 - (lg_sl ([.ref (b + x0), .int x1])).length) Slot.unset).toArray = ls at hl ⊢
  have hl : lv_has ls 2 [(0, .ref (b + x0)), (1, .int x1)] := hl
  generalize ([.ref (b + x0), .int x1] : List Value).toArray = av at hts ⊢
  show W p l e rmX11_opens s m av below meth c s.heap [] 0 0 _ _
  obtain ⟨QQ, hQQ⟩ : ∃ z, z = MQ below (va_Qv (fun u => u = (o1, L, R)) (QW D ce b kdM lnM 21) (box b 21)) av s 0 0 (box b 21) := ⟨_, rfl⟩
  rw [← hQQ]
  have hret : ∀ (I1 : mI), some I1 = some o1 → ∀ (H1 : Heap) (locs1 : List Loc) (ls1 : Array Slot) (pc1 : Nat), decode cX11_opens pc1 = .ok (.return_, 1) → va_P D vwCl (wd ce b kdM lnM 21 I1 L R) H1 → WT kdM R → va_S (box b 21) s.heap H1 locs1 → W p l e rmX11_opens s m av below meth c H1 locs1 0 0 QQ (F0 m pc1 ls1 []) := by
    intro I1 hq H1 locs1 ls1 pc1 hd hP hT hS
    cases hq
    rw [hQQ]
    exact mm_vret hx hb hr hlocks hP hT hS hd
  unfold f_X11_opens at hf
  obtain ⟨H, hH⟩ : ∃ z, z = s.heap := ⟨_, rfl⟩
  obtain ⟨locs, hlo⟩ : ∃ z : List Loc, z = [] := ⟨_, rfl⟩
  have hP : va_P D vwCl (wd ce b kdM lnM 21 I L R) H := by rw [hH]; exact hP
  have hS : va_S (box b 21) s.heap H locs := by rw [hH, hlo]; exact hS
  rw [show W p l e rmX11_opens s m av below meth c s.heap [] 0 0 QQ = W p l e rmX11_opens s m av below meth c H locs 0 0 QQ by rw [hH, hlo]]
  clear hH hlo
  clear hQQ
  show W p l e rmX11_opens s m av below meth c H locs 0 0 QQ (F0 m 0 ls [])
  refine lv_iload_n hx hb dX11_opens_0 rfl (lv_at hl 1 rfl) ?_
  obtain ⟨r1, e1, hf⟩ := bd1_o hf
  refine mm_Si (rest := []) hx hb hml hown hts hKK hP hS hA skX11_84 (k_X11_wants l D ce b I L R hT x1  r1 e1) rfl hl.1 rfl (Nat.le_of_ble_eq_true rfl) ⟨rfl, rfl⟩ ⟨Nat.le_of_ble_eq_true rfl, Nat.le_of_ble_eq_true rfl⟩ ⟨Nat.zero_le _, Nat.zero_le _⟩ dX11_opens_1 (fun H locs hP hT hS => ?_)
  refine lv_if_le (tgt := 45) hx hb dX11_opens_4 (by decide) (fun c2 => ?_) (fun c2 => ?_)
  · have hf := ifT hf c2
    exact hret I hf H locs ls _ dX11_opens_45 hP hT hS
  · have hf := ifF hf c2
    refine lv_aload_n hx hb dX11_opens_7 rfl (lv_at hl 0 rfl) ?_
    refine lv_bipush (v := (41 : Int32)) hx hb dX11_opens_8 (by decide) ?_
    obtain ⟨I3, e3, hf⟩ := bd1_o hf
    refine mm_Vv (rest := []) hx hb hml hown hts hKK hP hS hA (kdM_lt h0 (Nat.succ_ne_zero _)) h0 (show vwCl[11]? = some (yX11_wantsMore.cls, TX11, 32) from rfl) vkX11_104 (k_X11_wantsMore l D ce b I L R hT x0 (41 : Int32) h0 I3 e3) rfl hl.1 rfl (Nat.le_of_ble_eq_true rfl) ⟨rfl, rfl⟩ ⟨Nat.le_of_ble_eq_true rfl, Nat.le_of_ble_eq_true rfl⟩ ⟨Nat.zero_le _, Nat.zero_le _⟩ dX11_opens_10 (fun H locs hP hT hS => ?_)
    refine lv_aload_n hx hb dX11_opens_13 rfl (lv_at hl 0 rfl) ?_
    refine lv_bipush (v := (84 : Int32)) hx hb dX11_opens_14 (by decide) ?_
    obtain ⟨I4, e4, hf⟩ := bd1_o hf
    refine mm_Vv (rest := []) hx hb hml hown hts hKK hP hS hA (kdM_lt h0 (Nat.succ_ne_zero _)) h0 (show vwCl[11]? = some (yX11_wantsMore.cls, TX11, 32) from rfl) vkX11_104 (k_X11_wantsMore l D ce b I3 L R hT x0 (84 : Int32) h0 I4 e4) rfl hl.1 rfl (Nat.le_of_ble_eq_true rfl) ⟨rfl, rfl⟩ ⟨Nat.le_of_ble_eq_true rfl, Nat.le_of_ble_eq_true rfl⟩ ⟨Nat.zero_le _, Nat.zero_le _⟩ dX11_opens_16 (fun H locs hP hT hS => ?_)
    refine lv_iload_n hx hb dX11_opens_19 rfl (lv_at hl 1 rfl) ?_
    obtain ⟨r5, e5, hf⟩ := bd1_o hf
    refine mm_Si (rest := []) hx hb hml hown hts hKK hP hS hA skX11_84 (k_X11_wants l D ce b I4 L R hT x1  r5 e5) rfl hl.1 rfl (Nat.le_of_ble_eq_true rfl) ⟨rfl, rfl⟩ ⟨Nat.le_of_ble_eq_true rfl, Nat.le_of_ble_eq_true rfl⟩ ⟨Nat.zero_le _, Nat.zero_le _⟩ dX11_opens_20 (fun H locs hP hT hS => ?_)
    refine lv_iconst (v := (1 : Int32)) hx hb dX11_opens_23 (by decide) ?_
    refine jnE hf (fun j39_6 ej_6 hf => ?_)
    have hJ39_6 : ∀ (I_6 : mI) (H : Heap) (locs : List Loc) (ls : Array Slot), va_P D vwCl (wd ce b kdM lnM 21 I_6 L R) H → va_S (box b 21) s.heap H locs → lv_has ls 2 [(0, .ref (b + x0))] → j39_6 I_6 = some o1 → W p l e rmX11_opens s m av below meth c H locs 0 0 QQ (F0 m 39 ls []) := by
      intro I_6 H locs ls hP hS  hl hf
      rw [ej_6] at hf
      try dsimp only at hf
      refine lv_aload_n hx hb dX11_opens_39 rfl (lv_at hl 0 rfl) ?_
      refine lv_bipush (v := (40 : Int32)) hx hb dX11_opens_40 (by decide) ?_
      obtain ⟨I7, e7, hf⟩ := bd1_o hf
      refine mm_Vv (rest := []) hx hb hml hown hts hKK hP hS hA (kdM_lt h0 (Nat.succ_ne_zero _)) h0 (show vwCl[11]? = some (yX11_wantsMore.cls, TX11, 32) from rfl) vkX11_104 (k_X11_wantsMore l D ce b I_6 L R hT x0 (40 : Int32) h0 I7 e7) rfl hl.1 rfl (Nat.le_of_ble_eq_true rfl) ⟨rfl, rfl⟩ ⟨Nat.le_of_ble_eq_true rfl, Nat.le_of_ble_eq_true rfl⟩ ⟨Nat.zero_le _, Nat.zero_le _⟩ dX11_opens_42 (fun H locs hP hT hS => ?_)
      exact hret I7 hf H locs ls _ dX11_opens_45 hP hT hS
    clear ej_6
    refine lv_icmp_le (tgt := 39) hx hb dX11_opens_24 (by decide) (fun c8 => ?_) (fun c8 => ?_)
    · have hf := ifT hf c8
      exact hJ39_6 I4 H locs ls hP hS  (lv_sub hl [0] rfl) hf
    · have hf := ifF hf c8
      refine lv_aload_n hx hb dX11_opens_27 rfl (lv_at hl 0 rfl) ?_
      refine lv_bipush (v := (44 : Int32)) hx hb dX11_opens_28 (by decide) ?_
      obtain ⟨I9, e9, hf⟩ := bd1_o hf
      refine mm_Vv (rest := []) hx hb hml hown hts hKK hP hS hA (kdM_lt h0 (Nat.succ_ne_zero _)) h0 (show vwCl[11]? = some (yX11_wantsMore.cls, TX11, 32) from rfl) vkX11_104 (k_X11_wantsMore l D ce b I4 L R hT x0 (44 : Int32) h0 I9 e9) rfl hl.1 rfl (Nat.le_of_ble_eq_true rfl) ⟨rfl, rfl⟩ ⟨Nat.le_of_ble_eq_true rfl, Nat.le_of_ble_eq_true rfl⟩ ⟨Nat.zero_le _, Nat.zero_le _⟩ dX11_opens_30 (fun H locs hP hT hS => ?_)
      refine lv_aload_n hx hb dX11_opens_33 rfl (lv_at hl 0 rfl) ?_
      refine lv_bipush (v := (84 : Int32)) hx hb dX11_opens_34 (by decide) ?_
      obtain ⟨I10, e10, hf⟩ := bd1_o hf
      refine mm_Vv (rest := []) hx hb hml hown hts hKK hP hS hA (kdM_lt h0 (Nat.succ_ne_zero _)) h0 (show vwCl[11]? = some (yX11_wantsMore.cls, TX11, 32) from rfl) vkX11_104 (k_X11_wantsMore l D ce b I9 L R hT x0 (84 : Int32) h0 I10 e10) rfl hl.1 rfl (Nat.le_of_ble_eq_true rfl) ⟨rfl, rfl⟩ ⟨Nat.le_of_ble_eq_true rfl, Nat.le_of_ble_eq_true rfl⟩ ⟨Nat.zero_le _, Nat.zero_le _⟩ dX11_opens_36 (fun H locs hP hT hS => ?_)
      exact hJ39_6 I10 H locs ls hP hS  (lv_sub hl [0] rfl) hf
def rmX11_takesTerm : Room := { frames := 2, cells := 0, slots := 0, locals := 42 }
set_option maxHeartbeats 4000000 in
set_option maxRecDepth 100000 in
theorem k_X11_takesTerm (l : Launch) (D : va_G) (ce : Nat → ClassId) (b : Nat) (I : mI) (L : mL) (R : mR) (hT : WT kdM R) (x0 : Nat) (x1 : Int32) (x2 : Int32) (x3 : Int32) (h0 : kdM x0 = 17) (o1 : Int32) (o2 : mI) (hf : f_X11_takesTerm x0 x1 x2 x3 I R = some (o1, o2)) : Met l yX11_takesTerm (Cond.code yX11_takesTerm cX11_takesTerm 7 (some .int) :: GW) rmX11_takesTerm (va_Pc [.ref (b + x0), .int x1, .int x2, .int x3] (PW D ce b kdM lnM 21 I L R)) (va_Qi (fun r u => r = o1 ∧ u = (o2, L, R)) (QW D ce b kdM lnM 21) (box b 21)) 0 0 (box b 21) := by
  refine Met.ofW (cc := cX11_takesTerm) (maxL := 7) (ret := (some .int)) (by decide) rfl ?_
  intro p e s m args below meth c s₁ B hml hv
  obtain ⟨rfl, hP, hKK⟩ := hv
  have hx := B.exec
  have hb := B.bytes
  have hr := B.returns
  have hts0 := atoms_spec (ws := Cond.code yX11_takesTerm cX11_takesTerm 7 (some .int) :: GW) B.pre
  have hts : ∀ w ∈ GW, w.before _ s = true := fun w h => hts0 w (List.mem_cons_of_mem _ h)
  clear hts0
  have hown : s.vm.findClass RX11 = some m.cls := findClass_of_methodNamed B.named
  have hlocks := B.notSynchronized
  have hA : ∀ q, box b 21 q → box b 21 q := fun _ h => h
  have hS : va_S (box b 21) s.heap s.heap [] := va_S.rf
  have hl := lv_entry ([.ref (b + x0), .int x1, .int x2, .int x3]) (n := 7) (Nat.le_of_ble_eq_true rfl)
  rw [lg_entry_eq]
  generalize (lg_sl ([.ref (b + x0), .int x1, .int x2, .int x3]) ++ List.replicate (7 - (lg_sl ([.ref (b + x0), .int x1, .int x2, .int x3])).length) Slot.unset).toArray = ls at hl ⊢
  have hl : lv_has ls 7 [(0, .ref (b + x0)), (1, .int x1), (2, .int x2), (3, .int x3)] := hl
  generalize ([.ref (b + x0), .int x1, .int x2, .int x3] : List Value).toArray = av at hts ⊢
  show W p l e rmX11_takesTerm s m av below meth c s.heap [] 0 0 _ _
  obtain ⟨QQ, hQQ⟩ : ∃ z, z = MQ below (va_Qi (fun r u => r = o1 ∧ u = (o2, L, R)) (QW D ce b kdM lnM 21) (box b 21)) av s 0 0 (box b 21) := ⟨_, rfl⟩
  rw [← hQQ]
  have hret : ∀ (r : Int32) (I1 : mI), some (r, I1) = some (o1, o2) → ∀ (H1 : Heap) (locs1 : List Loc) (ls1 : Array Slot) (pc1 : Nat), decode cX11_takesTerm pc1 = .ok (.ireturn, 1) → va_P D vwCl (wd ce b kdM lnM 21 I1 L R) H1 → WT kdM R → va_S (box b 21) s.heap H1 locs1 → W p l e rmX11_takesTerm s m av below meth c H1 locs1 0 0 QQ (F0 m pc1 ls1 [.int r]) := by
    intro r I1 hq H1 locs1 ls1 pc1 hd hP hT hS
    cases hq
    rw [hQQ]
    exact mm_iret hx hb hr hlocks hP hT hS hd
  unfold f_X11_takesTerm at hf
  obtain ⟨H, hH⟩ : ∃ z, z = s.heap := ⟨_, rfl⟩
  obtain ⟨locs, hlo⟩ : ∃ z : List Loc, z = [] := ⟨_, rfl⟩
  have hP : va_P D vwCl (wd ce b kdM lnM 21 I L R) H := by rw [hH]; exact hP
  have hS : va_S (box b 21) s.heap H locs := by rw [hH, hlo]; exact hS
  rw [show W p l e rmX11_takesTerm s m av below meth c s.heap [] 0 0 QQ = W p l e rmX11_takesTerm s m av below meth c H locs 0 0 QQ by rw [hH, hlo]]
  clear hH hlo
  clear hQQ
  show W p l e rmX11_takesTerm s m av below meth c H locs 0 0 QQ (F0 m 0 ls [])
  refine lv_iconst (v := (0 : Int32)) hx hb dX11_takesTerm_0 (by decide) ?_
  refine lv_istore (lv' := [(4, .int (0 : Int32)), (0, .ref (b + x0)), (1, .int x1), (2, .int x2), (3, .int x3)]) hx hb dX11_takesTerm_1 hl (Nat.le_of_ble_eq_true rfl) rfl (fun ls hl => ?_)
  refine lv_aload_n hx hb dX11_takesTerm_3 rfl (lv_at hl 1 rfl) ?_
  refine lv_iconst (v := (0 : Int32)) hx hb dX11_takesTerm_4 (by decide) ?_
  refine jnE hf (fun I1 eI1 hf => ?_)
  refine mm_puti hx hb hts hown hKK hP hA hS fk11_9 (Or.inl rfl) fw11_9 lkX11_87 (kdM_lt h0 (Nat.succ_ne_zero _)) h0 rfl rfl dX11_takesTerm_5 (fun H locs hP hS => ?_)
  rw [← eI1] at hP
  refine lv_aload_n hx hb dX11_takesTerm_8 rfl (lv_at hl 1 rfl) ?_
  refine lv_bipush (v := (84 : Int32)) hx hb dX11_takesTerm_9 (by decide) ?_
  obtain ⟨I2, e2, hf⟩ := bd1_o hf
  refine mm_Vv (rest := []) hx hb hml hown hts hKK hP hS hA (kdM_lt h0 (Nat.succ_ne_zero _)) h0 (show vwCl[11]? = some (yX11_wantsMore.cls, TX11, 32) from rfl) vkX11_104 (k_X11_wantsMore l D ce b I1 L R hT x0 (84 : Int32) h0 I2 e2) rfl hl.1 rfl (Nat.le_of_ble_eq_true rfl) ⟨rfl, rfl⟩ ⟨Nat.le_of_ble_eq_true rfl, Nat.le_of_ble_eq_true rfl⟩ ⟨Nat.zero_le _, Nat.zero_le _⟩ dX11_takesTerm_11 (fun H locs hP hT hS => ?_)
  have lp14 : ∀ (n : Nat) (x0 : Nat) (x1 : Int32) (x2 : Int32) (x3 : Int32) (x4 : Int32) (I : mI) (L : mL) (R : mR) (q : (Int32 × mI) ⊕ (Int32 × mI)) (H : Heap) (locs : List Loc) (ls : Array Slot), va_P D vwCl (wd ce b kdM lnM 21 I L R) H → va_S (box b 21) s.heap H locs → WT kdM R → kdM x0 = 17 → lv_has ls 7 [(0, .ref (b + x0)), (1, .int x1), (2, .int x2), (3, .int x3), (4, .int x4)] → f_X11_takesTerm_L14 n x0 x1 x2 x3 x4 I R = some q → (∀ (y4 : Int32) (I1 : mI), some (Sum.inr (y4, I1)) = some q → ∀ (H1 : Heap) (locs1 : List Loc) (ls1 : Array Slot), va_P D vwCl (wd ce b kdM lnM 21 I1 L R) H1 → va_S (box b 21) s.heap H1 locs1 → lv_has ls1 7 [(0, .ref (b + x0)), (4, .int y4)] → W p l e rmX11_takesTerm s m av below meth c H1 locs1 0 0 QQ (F0 m 174 ls1 [])) → (∀ (r : Int32) (I1 : mI), some (Sum.inl (r, I1)) = some q → ∀ (H1 : Heap) (locs1 : List Loc) (ls1 : Array Slot) (pc1 : Nat), decode cX11_takesTerm pc1 = .ok (.ireturn, 1) → va_P D vwCl (wd ce b kdM lnM 21 I1 L R) H1 → WT kdM R → va_S (box b 21) s.heap H1 locs1 → W p l e rmX11_takesTerm s m av below meth c H1 locs1 0 0 QQ (F0 m pc1 ls1 [.int r])) → W p l e rmX11_takesTerm s m av below meth c H locs 0 0 QQ (F0 m 14 ls []) := by
    intro n
    induction n with
    | zero =>
      intro x0 x1 x2 x3 x4 I L R q H locs ls hP hS hT h0 hl hf kx kr
      exact absurd (show (none : Option ((Int32 × mI) ⊕ (Int32 × mI))) = some _ from hf) (by simp)
    | succ n ih =>
      intro x0 x1 x2 x3 x4 I L R q H locs ls hP hS hT h0 hl hf kx kr
      rw [f_X11_takesTerm_L14] at hf
      refine lv_aload_n hx hb dX11_takesTerm_14 rfl (lv_at hl 0 rfl) ?_
      refine mm_geti hx hb hts hown hKK hP fk11_9 (Or.inl rfl) lkX11_87 (kdM_lt h0 (Nat.succ_ne_zero _)) h0 dX11_takesTerm_15 ?_
      refine lv_if_le (tgt := 174) hx hb dX11_takesTerm_18 (by decide) (fun c3 => ?_) (fun c3 => ?_)
      · have hf := ifT hf c3
        exact kx x4 I hf H locs ls hP hS (lv_sub hl [0, 4] rfl)
      · have hf := ifF hf c3
        refine lv_aload_n hx hb dX11_takesTerm_21 rfl (lv_at hl 0 rfl) ?_
        obtain ⟨I4, e4, hf⟩ := bd1_o hf
        refine mm_Vv (rest := []) hx hb hml hown hts hKK hP hS hA (kdM_lt h0 (Nat.succ_ne_zero _)) h0 (show vwCl[11]? = some (yX11_blanks.cls, TX11, 32) from rfl) vkX11_108 (k_X11_blanks l D ce b I L R hT x0 h0 I4 e4) rfl hl.1 rfl (Nat.le_of_ble_eq_true rfl) ⟨rfl, rfl⟩ ⟨Nat.le_of_ble_eq_true rfl, Nat.le_of_ble_eq_true rfl⟩ ⟨Nat.zero_le _, Nat.zero_le _⟩ dX11_takesTerm_22 (fun H locs hP hT hS => ?_)
        refine lv_aload_n hx hb dX11_takesTerm_25 rfl (lv_at hl 0 rfl) ?_
        refine mm_geti hx hb hts hown hKK hP fk11_7 (Or.inl rfl) lkX11_90 (kdM_lt h0 (Nat.succ_ne_zero _)) h0 dX11_takesTerm_26 ?_
        refine lv_aload_n hx hb dX11_takesTerm_29 rfl (lv_at hl 0 rfl) ?_
        refine mm_geti hx hb hts hown hKK hP fk11_6 (Or.inl rfl) lkX11_93 (kdM_lt h0 (Nat.succ_ne_zero _)) h0 dX11_takesTerm_30 ?_
        refine lv_icmp_ne (tgt := 38) hx hb dX11_takesTerm_33 (by decide) (fun c5 => ?_) (fun c5 => ?_)
        · have hf := ifF hf c5
          refine lv_aload_n hx hb dX11_takesTerm_38 rfl (lv_at hl 0 rfl) ?_
          have t6 : kdM (R x0 5) = 1 := wt hT h0 rfl
          refine mm_getr hx hb hts hown hKK hP fk11_5 (Nat.le_of_ble_eq_true rfl) lkX11_22 (kdM_lt h0 (Nat.succ_ne_zero _)) h0 (nM t6 (Nat.succ_ne_zero _)) dX11_takesTerm_39 ?_
          refine lv_aload_n hx hb dX11_takesTerm_42 rfl (lv_at hl 0 rfl) ?_
          refine mm_geti hx hb hts hown hKK hP fk11_7 (Or.inl rfl) lkX11_90 (kdM_lt h0 (Nat.succ_ne_zero _)) h0 dX11_takesTerm_43 ?_
          obtain ⟨g7, hf⟩ := grd hf
          refine mm_iald hx hb hKK hP (kdM_lt t6 (Nat.succ_ne_zero _)) t6 g7 dX11_takesTerm_46 ?_
          refine lv_istore (lv' := [(5, .int (I4 (R x0 5) ((I4 x0 7)).toNatClampNeg)), (0, .ref (b + x0)), (1, .int x1), (2, .int x2), (3, .int x3), (4, .int x4)]) hx hb dX11_takesTerm_47 hl (Nat.le_of_ble_eq_true rfl) rfl (fun ls hl => ?_)
          refine lv_aload_n hx hb dX11_takesTerm_49 rfl (lv_at hl 1 rfl) ?_
          refine lv_dup hx hb dX11_takesTerm_50 rfl ?_
          refine mm_geti hx hb hts hown hKK hP fk11_9 (Or.inl rfl) lkX11_87 (kdM_lt h0 (Nat.succ_ne_zero _)) h0 dX11_takesTerm_51 ?_
          refine lv_iconst (v := (1 : Int32)) hx hb dX11_takesTerm_54 (by decide) ?_
          refine lv_isub hx hb dX11_takesTerm_55 ?_
          refine jnE hf (fun I8 eI8 hf => ?_)
          refine mm_puti hx hb hts hown hKK hP hA hS fk11_9 (Or.inl rfl) fw11_9 lkX11_87 (kdM_lt h0 (Nat.succ_ne_zero _)) h0 rfl rfl dX11_takesTerm_56 (fun H locs hP hS => ?_)
          rw [← eI8] at hP
          refine lv_aload_n hx hb dX11_takesTerm_59 rfl (lv_at hl 1 rfl) ?_
          have t9 : kdM (R x0 8) = 1 := wt hT h0 rfl
          refine mm_getr hx hb hts hown hKK hP fk11_8 (Nat.le_of_ble_eq_true rfl) lkX11_25 (kdM_lt h0 (Nat.succ_ne_zero _)) h0 (nM t9 (Nat.succ_ne_zero _)) dX11_takesTerm_60 ?_
          refine lv_aload_n hx hb dX11_takesTerm_63 rfl (lv_at hl 1 rfl) ?_
          refine mm_geti hx hb hts hown hKK hP fk11_9 (Or.inl rfl) lkX11_87 (kdM_lt h0 (Nat.succ_ne_zero _)) h0 dX11_takesTerm_64 ?_
          obtain ⟨g10, hf⟩ := grd hf
          refine mm_iald hx hb hKK hP (kdM_lt t9 (Nat.succ_ne_zero _)) t9 g10 dX11_takesTerm_67 ?_
          refine lv_bipush (v := (84 : Int32)) hx hb dX11_takesTerm_68 (by decide) ?_
          refine jnE hf (fun j161_11 ej_11 hf => ?_)
          have hJ161_11 : ∀ (v4_11 : Int32) (I_11 : mI) (H : Heap) (locs : List Loc) (ls : Array Slot), va_P D vwCl (wd ce b kdM lnM 21 I_11 L R) H → va_S (box b 21) s.heap H locs → lv_has ls 7 [(0, .ref (b + x0)), (1, .int x1), (2, .int x2), (3, .int x3), (4, .int v4_11)] → j161_11 v4_11 I_11 = some q → W p l e rmX11_takesTerm s m av below meth c H locs 0 0 QQ (F0 m 161 ls []) := by
            intro v4_11 I_11 H locs ls hP hS  hl hf
            rw [ej_11] at hf
            try dsimp only at hf
            refine lv_aload_n hx hb dX11_takesTerm_161 rfl (lv_at hl 0 rfl) ?_
            refine lv_dup hx hb dX11_takesTerm_162 rfl ?_
            refine mm_geti hx hb hts hown hKK hP fk11_7 (Or.inl rfl) lkX11_90 (kdM_lt h0 (Nat.succ_ne_zero _)) h0 dX11_takesTerm_163 ?_
            refine lv_iconst (v := (1 : Int32)) hx hb dX11_takesTerm_166 (by decide) ?_
            refine lv_iadd hx hb dX11_takesTerm_167 ?_
            refine jnE hf (fun I12 eI12 hf => ?_)
            refine mm_puti hx hb hts hown hKK hP hA hS fk11_7 (Or.inl rfl) fw11_7 lkX11_90 (kdM_lt h0 (Nat.succ_ne_zero _)) h0 rfl rfl dX11_takesTerm_168 (fun H locs hP hS => ?_)
            rw [← eI12] at hP
            refine lv_goto (tgt := 14) hx hb dX11_takesTerm_171 (by decide) ?_
            exact ih x0 x1 x2 x3 v4_11 I12 L R q H locs ls hP hS hT h0 (lv_sub hl [0, 1, 2, 3, 4] rfl) hf kx kr
          clear ej_11
          refine lv_icmp_ne (tgt := 145) hx hb dX11_takesTerm_70 (by decide) (fun c13 => ?_) (fun c13 => ?_)
          · have hf := ifF hf c13
            refine lv_iload hx hb dX11_takesTerm_145 (lv_at hl 0 rfl) ?_
            refine lv_aload_n hx hb dX11_takesTerm_147 rfl (lv_at hl 1 rfl) ?_
            refine mm_getr hx hb hts hown hKK hP fk11_8 (Nat.le_of_ble_eq_true rfl) lkX11_25 (kdM_lt h0 (Nat.succ_ne_zero _)) h0 (nM t9 (Nat.succ_ne_zero _)) dX11_takesTerm_148 ?_
            refine lv_aload_n hx hb dX11_takesTerm_151 rfl (lv_at hl 1 rfl) ?_
            refine mm_geti hx hb hts hown hKK hP fk11_9 (Or.inl rfl) lkX11_87 (kdM_lt h0 (Nat.succ_ne_zero _)) h0 dX11_takesTerm_152 ?_
            refine mm_iald hx hb hKK hP (kdM_lt t9 (Nat.succ_ne_zero _)) t9 g10 dX11_takesTerm_155 ?_
            refine lv_icmp_eq (tgt := 161) hx hb dX11_takesTerm_156 (by decide) (fun c14 => ?_) (fun c14 => ?_)
            · have hf := ifT hf c14
              exact hJ161_11 x4 I8 H locs ls hP hS  (lv_sub hl [1, 2, 3, 4, 5] rfl) hf
            · have hf := ifF hf c14
              refine lv_iconst (v := (-1 : Int32)) hx hb dX11_takesTerm_159 (by decide) ?_
              exact kr (-1 : Int32) I8 hf H locs ls _ dX11_takesTerm_160 hP hT hS
          · have hf := ifT hf c13
            refine lv_iload hx hb dX11_takesTerm_73 (lv_at hl 0 rfl) ?_
            obtain ⟨r15, e15, hf⟩ := bd1_o hf
            refine mm_Si (rest := []) hx hb hml hown hts hKK hP hS hA skX11_100 (k_X11_isUnknown l D ce b I8 L R hT (I4 (R x0 5) ((I4 x0 7)).toNatClampNeg)  r15 e15) rfl hl.1 rfl (Nat.le_of_ble_eq_true rfl) ⟨rfl, rfl⟩ ⟨Nat.le_of_ble_eq_true rfl, Nat.le_of_ble_eq_true rfl⟩ ⟨Nat.zero_le _, Nat.zero_le _⟩ dX11_takesTerm_75 (fun H locs hP hT hS => ?_)
            refine jnE hf (fun j99_16 ej_16 hf => ?_)
            have hJ99_16 : ∀ (w0_16 : Int32) (H : Heap) (locs : List Loc) (ls : Array Slot), va_P D vwCl (wd ce b kdM lnM 21 I8 L R) H → va_S (box b 21) s.heap H locs → lv_has ls 7 [(0, .ref (b + x0)), (1, .int x1), (2, .int x2), (3, .int x3), (4, .int x4), (5, .int (I4 (R x0 5) ((I4 x0 7)).toNatClampNeg))] → j99_16 w0_16 = some q → W p l e rmX11_takesTerm s m av below meth c H locs 0 0 QQ (F0 m 99 ls [.int w0_16]) := by
              intro w0_16 H locs ls hP hS  hl hf
              rw [ej_16] at hf
              try dsimp only at hf
              refine lv_istore (lv' := [(6, .int w0_16), (0, .ref (b + x0)), (1, .int x1), (2, .int x2), (3, .int x3), (4, .int x4), (5, .int (I4 (R x0 5) ((I4 x0 7)).toNatClampNeg))]) hx hb dX11_takesTerm_99 hl (Nat.le_of_ble_eq_true rfl) rfl (fun ls hl => ?_)
              refine lv_iload hx hb dX11_takesTerm_101 (lv_at hl 6 rfl) ?_
              obtain ⟨r17, e17, hf⟩ := bd1_o hf
              refine mm_Si (rest := []) hx hb hml hown hts hKK hP hS hA skX11_111 (k_X11_isLetter l D ce b I8 L R hT (I4 (R x0 5) ((I4 x0 7)).toNatClampNeg)  r17 e17) rfl hl.1 rfl (Nat.le_of_ble_eq_true rfl) ⟨rfl, rfl⟩ ⟨Nat.le_of_ble_eq_true rfl, Nat.le_of_ble_eq_true rfl⟩ ⟨Nat.zero_le _, Nat.zero_le _⟩ dX11_takesTerm_103 (fun H locs hP hT hS => ?_)
              refine lv_if_eq (tgt := 120) hx hb dX11_takesTerm_106 (by decide) (fun c18 => ?_) (fun c18 => ?_)
              · have hf := ifT hf c18
                refine lv_iconst (v := (-1 : Int32)) hx hb dX11_takesTerm_120 (by decide) ?_
                exact kr (-1 : Int32) I8 hf H locs ls _ dX11_takesTerm_121 hP hT hS
              · have hf := ifF hf c18
                refine lv_iload hx hb dX11_takesTerm_109 (lv_at hl 5 rfl) ?_
                refine lv_iload_n hx hb dX11_takesTerm_111 rfl (lv_at hl 3 rfl) ?_
                refine lv_icmp_eq (tgt := 120) hx hb dX11_takesTerm_112 (by decide) (fun c19 => ?_) (fun c19 => ?_)
                · have hf := ifT hf c19
                  refine lv_iconst (v := (-1 : Int32)) hx hb dX11_takesTerm_120 (by decide) ?_
                  exact kr (-1 : Int32) I8 hf H locs ls _ dX11_takesTerm_121 hP hT hS
                · have hf := ifF hf c19
                  refine lv_iload hx hb dX11_takesTerm_115 (lv_at hl 0 rfl) ?_
                  refine lv_if_ne (tgt := 122) hx hb dX11_takesTerm_117 (by decide) (fun c20 => ?_) (fun c20 => ?_)
                  · have hf := ifF hf c20
                    refine lv_aload_n hx hb dX11_takesTerm_122 rfl (lv_at hl 1 rfl) ?_
                    have t21 : kdM (R x0 1) = 1 := wt hT h0 rfl
                    refine mm_getr hx hb hts hown hKK hP fk11_1 (Nat.le_of_ble_eq_true rfl) lkX11_13 (kdM_lt h0 (Nat.succ_ne_zero _)) h0 (nM t21 (Nat.succ_ne_zero _)) dX11_takesTerm_123 ?_
                    refine lv_iload_n hx hb dX11_takesTerm_126 rfl (lv_at hl 2 rfl) ?_
                    refine lv_iload hx hb dX11_takesTerm_127 (lv_at hl 5 rfl) ?_
                    refine lv_iadd hx hb dX11_takesTerm_129 ?_
                    refine lv_iload hx hb dX11_takesTerm_130 (lv_at hl 6 rfl) ?_
                    obtain ⟨g22, hf⟩ := grd hf
                    refine jnE hf (fun I23 eI23 hf => ?_)
                    refine mm_iast hx hb hKK hP hA hS (kdM_lt t21 (Nat.succ_ne_zero _)) t21 g22 dX11_takesTerm_132 (fun H locs hP hS => ?_)
                    rw [← eI23] at hP
                    refine lv_iinc (v := (x4 + (1 : Int32))) (lv' := [(4, .int (x4 + (1 : Int32))), (6, .int w0_16), (0, .ref (b + x0)), (1, .int x1), (2, .int x2), (3, .int x3), (5, .int (I4 (R x0 5) ((I4 x0 7)).toNatClampNeg))]) hx hb dX11_takesTerm_133 hl (k := 5) rfl rfl (Nat.le_of_ble_eq_true rfl) rfl (fun ls hl => ?_)
                    refine lv_aload_n hx hb dX11_takesTerm_136 rfl (lv_at hl 2 rfl) ?_
                    refine lv_iload hx hb dX11_takesTerm_137 (lv_at hl 6 rfl) ?_
                    obtain ⟨I24, e24, hf⟩ := bd1_o hf
                    refine mm_Vv (rest := []) hx hb hml hown hts hKK hP hS hA (kdM_lt h0 (Nat.succ_ne_zero _)) h0 (show vwCl[11]? = some (yX11_opens.cls, TX11, 32) from rfl) vkX11_114 (k_X11_opens l D ce b I23 L R hT x0 (I4 (R x0 5) ((I4 x0 7)).toNatClampNeg) h0 I24 e24) rfl hl.1 rfl (Nat.le_of_ble_eq_true rfl) ⟨rfl, rfl⟩ ⟨Nat.le_of_ble_eq_true rfl, Nat.le_of_ble_eq_true rfl⟩ ⟨Nat.zero_le _, Nat.zero_le _⟩ dX11_takesTerm_139 (fun H locs hP hT hS => ?_)
                    refine lv_goto (tgt := 161) hx hb dX11_takesTerm_142 (by decide) ?_
                    exact hJ161_11 (x4 + (1 : Int32)) I24 H locs ls hP hS  (lv_sub hl [2, 3, 4, 5, 0] rfl) hf
                  · have hf := ifT hf c20
                    refine lv_iconst (v := (-1 : Int32)) hx hb dX11_takesTerm_120 (by decide) ?_
                    exact kr (-1 : Int32) I8 hf H locs ls _ dX11_takesTerm_121 hP hT hS
            clear ej_16
            refine jnE hf (fun j94_25 ej_25 hf => ?_)
            have hJ94_25 : ∀ (H : Heap) (locs : List Loc) (ls : Array Slot), va_P D vwCl (wd ce b kdM lnM 21 I8 L R) H → va_S (box b 21) s.heap H locs → lv_has ls 7 [(0, .ref (b + x0)), (1, .int x1), (2, .int x2), (3, .int x3), (4, .int x4), (5, .int (I4 (R x0 5) ((I4 x0 7)).toNatClampNeg))] → j94_25  = some q → W p l e rmX11_takesTerm s m av below meth c H locs 0 0 QQ (F0 m 94 ls []) := by
              intro  H locs ls hP hS  hl hf
              rw [ej_25] at hf
              try dsimp only at hf
              refine lv_iconst (v := (1 : Int32)) hx hb dX11_takesTerm_94 (by decide) ?_
              refine lv_goto (tgt := 99) hx hb dX11_takesTerm_95 (by decide) ?_
              exact hJ99_16 (1 : Int32) H locs ls hP hS  (lv_sub hl [0, 1, 2, 3, 4, 5] rfl) hf
            clear ej_25
            refine lv_if_eq (tgt := 94) hx hb dX11_takesTerm_78 (by decide) (fun c26 => ?_) (fun c26 => ?_)
            · have hf := ifT hf c26
              exact hJ94_25  H locs ls hP hS  (lv_sub hl [1, 2, 3, 4, 5, 0] rfl) hf
            · have hf := ifF hf c26
              refine lv_iload_n hx hb dX11_takesTerm_81 rfl (lv_at hl 4 rfl) ?_
              refine lv_iload hx hb dX11_takesTerm_82 (lv_at hl 0 rfl) ?_
              refine lv_bipush (v := (120 : Int32)) hx hb dX11_takesTerm_84 (by decide) ?_
              refine lv_isub hx hb dX11_takesTerm_86 ?_
              refine lv_ishr hx hb dX11_takesTerm_87 ?_
              refine lv_iconst (v := (1 : Int32)) hx hb dX11_takesTerm_88 (by decide) ?_
              refine lv_iand hx hb dX11_takesTerm_89 ?_
              refine lv_iconst (v := (1 : Int32)) hx hb dX11_takesTerm_90 (by decide) ?_
              refine lv_icmp_ne (tgt := 98) hx hb dX11_takesTerm_91 (by decide) (fun c27 => ?_) (fun c27 => ?_)
              · have hf := ifF hf c27
                refine lv_iconst (v := (0 : Int32)) hx hb dX11_takesTerm_98 (by decide) ?_
                exact hJ99_16 (0 : Int32) H locs ls hP hS  (lv_sub hl [1, 2, 3, 4, 5, 0] rfl) hf
              · have hf := ifT hf c27
                exact hJ94_25  H locs ls hP hS  (lv_sub hl [1, 2, 3, 4, 5, 0] rfl) hf
        · have hf := ifT hf c5
          refine lv_iconst (v := (-1 : Int32)) hx hb dX11_takesTerm_36 (by decide) ?_
          exact kr (-1 : Int32) I4 hf H locs ls _ dX11_takesTerm_37 hP hT hS
  obtain ⟨q_28, e_28, hf⟩ := bdS_o hf
  refine lp14 FU x0 x1 x2 x3 (0 : Int32) I2 L R q_28 H locs ls hP hS hT h0 (lv_sub hl [1, 2, 3, 4, 0] rfl) e_28 (fun y4_28 I_28 hq H locs ls hP hS hl => ?_) (fun r_28 I_28 hq H locs ls pc1 hd hP hT hS => ?_)
  · have hf := elR2 hf (Option.some.inj hq).symm
    refine lv_aload_n hx hb dX11_takesTerm_174 rfl (lv_at hl 0 rfl) ?_
    obtain ⟨I29, e29, hf⟩ := bd1_o hf
    refine mm_Vv (rest := []) hx hb hml hown hts hKK hP hS hA (kdM_lt h0 (Nat.succ_ne_zero _)) h0 (show vwCl[11]? = some (yX11_blanks.cls, TX11, 32) from rfl) vkX11_108 (k_X11_blanks l D ce b I_28 L R hT x0 h0 I29 e29) rfl hl.1 rfl (Nat.le_of_ble_eq_true rfl) ⟨rfl, rfl⟩ ⟨Nat.le_of_ble_eq_true rfl, Nat.le_of_ble_eq_true rfl⟩ ⟨Nat.zero_le _, Nat.zero_le _⟩ dX11_takesTerm_175 (fun H locs hP hT hS => ?_)
    refine lv_iload hx hb dX11_takesTerm_178 (lv_at hl 1 rfl) ?_
    exact hret y4_28 I29 hf H locs ls _ dX11_takesTerm_180 hP hT hS
  · have hf := elL2 hf (Option.some.inj hq).symm
    exact hret r_28 I_28 hf H locs ls pc1 hd hP hT hS
def rmX11_takesSign : Room := { frames := 0, cells := 0, slots := 0, locals := 0 }
set_option maxHeartbeats 4000000 in
set_option maxRecDepth 100000 in
theorem k_X11_takesSign (l : Launch) (D : va_G) (ce : Nat → ClassId) (b : Nat) (I : mI) (L : mL) (R : mR) (hT : WT kdM R) (x0 : Nat) (x1 : Int32) (h0 : kdM x0 = 17) (o1 : Int32) (o2 : mI) (hf : f_X11_takesSign x0 x1 I R = some (o1, o2)) : Met l yX11_takesSign (Cond.code yX11_takesSign cX11_takesSign 3 (some .boolean) :: GW) rmX11_takesSign (va_Pc [.ref (b + x0), .int x1] (PW D ce b kdM lnM 21 I L R)) (va_Qi (fun r u => r = o1 ∧ u = (o2, L, R)) (QW D ce b kdM lnM 21) (box b 21)) 0 0 (box b 21) := by
  refine Met.ofW (cc := cX11_takesSign) (maxL := 3) (ret := (some .boolean)) (by decide) rfl ?_
  intro p e s m args below meth c s₁ B hml hv
  obtain ⟨rfl, hP, hKK⟩ := hv
  have hx := B.exec
  have hb := B.bytes
  have hr := B.returns
  have hts0 := atoms_spec (ws := Cond.code yX11_takesSign cX11_takesSign 3 (some .boolean) :: GW) B.pre
  have hts : ∀ w ∈ GW, w.before _ s = true := fun w h => hts0 w (List.mem_cons_of_mem _ h)
  clear hts0
  have hown : s.vm.findClass RX11 = some m.cls := findClass_of_methodNamed B.named
  have hlocks := B.notSynchronized
  have hA : ∀ q, box b 21 q → box b 21 q := fun _ h => h
  have hS : va_S (box b 21) s.heap s.heap [] := va_S.rf
  have hl := lv_entry ([.ref (b + x0), .int x1]) (n := 3) (Nat.le_of_ble_eq_true rfl)
  rw [lg_entry_eq]
  generalize (lg_sl ([.ref (b + x0), .int x1]) ++ List.replicate (3 - (lg_sl ([.ref (b + x0), .int x1])).length) Slot.unset).toArray = ls at hl ⊢
  have hl : lv_has ls 3 [(0, .ref (b + x0)), (1, .int x1)] := hl
  generalize ([.ref (b + x0), .int x1] : List Value).toArray = av at hts ⊢
  show W p l e rmX11_takesSign s m av below meth c s.heap [] 0 0 _ _
  obtain ⟨QQ, hQQ⟩ : ∃ z, z = MQ below (va_Qi (fun r u => r = o1 ∧ u = (o2, L, R)) (QW D ce b kdM lnM 21) (box b 21)) av s 0 0 (box b 21) := ⟨_, rfl⟩
  rw [← hQQ]
  have hret : ∀ (r : Int32) (I1 : mI), some (r, I1) = some (o1, o2) → ∀ (H1 : Heap) (locs1 : List Loc) (ls1 : Array Slot) (pc1 : Nat), decode cX11_takesSign pc1 = .ok (.ireturn, 1) → zb r = true → va_P D vwCl (wd ce b kdM lnM 21 I1 L R) H1 → WT kdM R → va_S (box b 21) s.heap H1 locs1 → W p l e rmX11_takesSign s m av below meth c H1 locs1 0 0 QQ (F0 m pc1 ls1 [.int r]) := by
    intro r I1 hq H1 locs1 ls1 pc1 hd hz hP hT hS
    cases hq
    rw [hQQ]
    exact mm_zret hx hb hr hlocks hz hP hT hS hd
  unfold f_X11_takesSign at hf
  obtain ⟨H, hH⟩ : ∃ z, z = s.heap := ⟨_, rfl⟩
  obtain ⟨locs, hlo⟩ : ∃ z : List Loc, z = [] := ⟨_, rfl⟩
  have hP : va_P D vwCl (wd ce b kdM lnM 21 I L R) H := by rw [hH]; exact hP
  have hS : va_S (box b 21) s.heap H locs := by rw [hH, hlo]; exact hS
  rw [show W p l e rmX11_takesSign s m av below meth c s.heap [] 0 0 QQ = W p l e rmX11_takesSign s m av below meth c H locs 0 0 QQ by rw [hH, hlo]]
  clear hH hlo
  clear hQQ
  show W p l e rmX11_takesSign s m av below meth c H locs 0 0 QQ (F0 m 0 ls [])
  refine lv_aload_n hx hb dX11_takesSign_0 rfl (lv_at hl 0 rfl) ?_
  refine mm_geti hx hb hts hown hKK hP fk11_7 (Or.inl rfl) lkX11_90 (kdM_lt h0 (Nat.succ_ne_zero _)) h0 dX11_takesSign_1 ?_
  refine lv_aload_n hx hb dX11_takesSign_4 rfl (lv_at hl 0 rfl) ?_
  refine mm_geti hx hb hts hown hKK hP fk11_6 (Or.inl rfl) lkX11_93 (kdM_lt h0 (Nat.succ_ne_zero _)) h0 dX11_takesSign_5 ?_
  refine jnE hf (fun j29_1 ej_1 hf => ?_)
  have hJ29_1 : ∀ (w0_1 : Int32) (H : Heap) (locs : List Loc) (ls : Array Slot), va_P D vwCl (wd ce b kdM lnM 21 I L R) H → va_S (box b 21) s.heap H locs → lv_has ls 3 [(0, .ref (b + x0))] → j29_1 w0_1 = some (o1, o2) → W p l e rmX11_takesSign s m av below meth c H locs 0 0 QQ (F0 m 29 ls [.int w0_1]) := by
    intro w0_1 H locs ls hP hS  hl hf
    rw [ej_1] at hf
    try dsimp only at hf
    refine lv_istore_n (lv' := [(2, .int w0_1), (0, .ref (b + x0))]) hx hb dX11_takesSign_29 rfl hl (Nat.le_of_ble_eq_true rfl) rfl (fun ls hl => ?_)
    refine lv_aload_n hx hb dX11_takesSign_30 rfl (lv_at hl 1 rfl) ?_
    refine lv_dup hx hb dX11_takesSign_31 rfl ?_
    refine mm_geti hx hb hts hown hKK hP fk11_7 (Or.inl rfl) lkX11_90 (kdM_lt h0 (Nat.succ_ne_zero _)) h0 dX11_takesSign_32 ?_
    refine lv_iload_n hx hb dX11_takesSign_35 rfl (lv_at hl 0 rfl) ?_
    refine jnE hf (fun j44_2 ej_2 hf => ?_)
    have hJ44_2 : ∀ (w2_2 : Int32) (H : Heap) (locs : List Loc) (ls : Array Slot), va_P D vwCl (wd ce b kdM lnM 21 I L R) H → va_S (box b 21) s.heap H locs → lv_has ls 3 [(2, .int w0_1)] → j44_2 w2_2 = some (o1, o2) → W p l e rmX11_takesSign s m av below meth c H locs 0 0 QQ (F0 m 44 ls [.int w2_2, .int (I x0 7), .ref (b + x0)]) := by
      intro w2_2 H locs ls hP hS  hl hf
      rw [ej_2] at hf
      try dsimp only at hf
      refine lv_iadd hx hb dX11_takesSign_44 ?_
      refine jnE hf (fun I3 eI3 hf => ?_)
      refine mm_puti hx hb hts hown hKK hP hA hS fk11_7 (Or.inl rfl) fw11_7 lkX11_90 (kdM_lt h0 (Nat.succ_ne_zero _)) h0 rfl rfl dX11_takesSign_45 (fun H locs hP hS => ?_)
      rw [← eI3] at hP
      refine lv_iload_n hx hb dX11_takesSign_48 rfl (lv_at hl 0 rfl) ?_
      obtain ⟨g4, hf⟩ := grd hf
      exact hret w0_1 I3 hf H locs ls _ dX11_takesSign_49 g4 hP hT hS
    clear ej_2
    refine lv_if_eq (tgt := 43) hx hb dX11_takesSign_36 (by decide) (fun c5 => ?_) (fun c5 => ?_)
    · have hf := ifT hf c5
      refine lv_iconst (v := (0 : Int32)) hx hb dX11_takesSign_43 (by decide) ?_
      exact hJ44_2 (0 : Int32) H locs ls hP hS  (lv_sub hl [0] rfl) hf
    · have hf := ifF hf c5
      refine lv_iconst (v := (1 : Int32)) hx hb dX11_takesSign_39 (by decide) ?_
      refine lv_goto (tgt := 44) hx hb dX11_takesSign_40 (by decide) ?_
      exact hJ44_2 (1 : Int32) H locs ls hP hS  (lv_sub hl [0] rfl) hf
  clear ej_1
  refine jnE hf (fun j28_6 ej_6 hf => ?_)
  have hJ28_6 : ∀ (H : Heap) (locs : List Loc) (ls : Array Slot), va_P D vwCl (wd ce b kdM lnM 21 I L R) H → va_S (box b 21) s.heap H locs → lv_has ls 3 [(0, .ref (b + x0))] → j28_6  = some (o1, o2) → W p l e rmX11_takesSign s m av below meth c H locs 0 0 QQ (F0 m 28 ls []) := by
    intro  H locs ls hP hS  hl hf
    rw [ej_6] at hf
    try dsimp only at hf
    refine lv_iconst (v := (0 : Int32)) hx hb dX11_takesSign_28 (by decide) ?_
    exact hJ29_1 (0 : Int32) H locs ls hP hS  (lv_sub hl [0] rfl) hf
  clear ej_6
  refine lv_icmp_ge (tgt := 28) hx hb dX11_takesSign_8 (by decide) (fun c7 => ?_) (fun c7 => ?_)
  · have hf := ifT hf c7
    exact hJ28_6  H locs ls hP hS  (lv_sub hl [0] rfl) hf
  · have hf := ifF hf c7
    refine lv_aload_n hx hb dX11_takesSign_11 rfl (lv_at hl 0 rfl) ?_
    have t8 : kdM (R x0 5) = 1 := wt hT h0 rfl
    refine mm_getr hx hb hts hown hKK hP fk11_5 (Nat.le_of_ble_eq_true rfl) lkX11_22 (kdM_lt h0 (Nat.succ_ne_zero _)) h0 (nM t8 (Nat.succ_ne_zero _)) dX11_takesSign_12 ?_
    refine lv_aload_n hx hb dX11_takesSign_15 rfl (lv_at hl 0 rfl) ?_
    refine mm_geti hx hb hts hown hKK hP fk11_7 (Or.inl rfl) lkX11_90 (kdM_lt h0 (Nat.succ_ne_zero _)) h0 dX11_takesSign_16 ?_
    obtain ⟨g9, hf⟩ := grd hf
    refine mm_iald hx hb hKK hP (kdM_lt t8 (Nat.succ_ne_zero _)) t8 g9 dX11_takesSign_19 ?_
    refine lv_iload_n hx hb dX11_takesSign_20 rfl (lv_at hl 1 rfl) ?_
    refine lv_icmp_ne (tgt := 28) hx hb dX11_takesSign_21 (by decide) (fun c10 => ?_) (fun c10 => ?_)
    · have hf := ifF hf c10
      exact hJ28_6  H locs ls hP hS  (lv_sub hl [0] rfl) hf
    · have hf := ifT hf c10
      refine lv_iconst (v := (1 : Int32)) hx hb dX11_takesSign_24 (by decide) ?_
      refine lv_goto (tgt := 29) hx hb dX11_takesSign_25 (by decide) ?_
      exact hJ29_1 (1 : Int32) H locs ls hP hS  (lv_sub hl [0] rfl) hf
def rmX11_takesRule : Room := { frames := 3, cells := 0, slots := 0, locals := 68 }
set_option maxHeartbeats 4000000 in
set_option maxRecDepth 100000 in
theorem k_X11_takesRule (l : Launch) (D : va_G) (ce : Nat → ClassId) (b : Nat) (I : mI) (L : mL) (R : mR) (hT : WT kdM R) (x0 : Nat) (h0 : kdM x0 = 17) (o1 : Int32) (o2 : mI) (hf : f_X11_takesRule x0 I R = some (o1, o2)) : Met l yX11_takesRule (Cond.code yX11_takesRule cX11_takesRule 4 (some .boolean) :: GW) rmX11_takesRule (va_Pc [.ref (b + x0)] (PW D ce b kdM lnM 21 I L R)) (va_Qi (fun r u => r = o1 ∧ u = (o2, L, R)) (QW D ce b kdM lnM 21) (box b 21)) 0 0 (box b 21) := by
  refine Met.ofW (cc := cX11_takesRule) (maxL := 4) (ret := (some .boolean)) (by decide) rfl ?_
  intro p e s m args below meth c s₁ B hml hv
  obtain ⟨rfl, hP, hKK⟩ := hv
  have hx := B.exec
  have hb := B.bytes
  have hr := B.returns
  have hts0 := atoms_spec (ws := Cond.code yX11_takesRule cX11_takesRule 4 (some .boolean) :: GW) B.pre
  have hts : ∀ w ∈ GW, w.before _ s = true := fun w h => hts0 w (List.mem_cons_of_mem _ h)
  clear hts0
  have hown : s.vm.findClass RX11 = some m.cls := findClass_of_methodNamed B.named
  have hlocks := B.notSynchronized
  have hA : ∀ q, box b 21 q → box b 21 q := fun _ h => h
  have hS : va_S (box b 21) s.heap s.heap [] := va_S.rf
  have hl := lv_entry ([.ref (b + x0)]) (n := 4) (Nat.le_of_ble_eq_true rfl)
  rw [lg_entry_eq]
  generalize (lg_sl ([.ref (b + x0)]) ++ List.replicate (4 - (lg_sl ([.ref (b + x0)])).length) Slot.unset).toArray = ls at hl ⊢
  have hl : lv_has ls 4 [(0, .ref (b + x0))] := hl
  generalize ([.ref (b + x0)] : List Value).toArray = av at hts ⊢
  show W p l e rmX11_takesRule s m av below meth c s.heap [] 0 0 _ _
  obtain ⟨QQ, hQQ⟩ : ∃ z, z = MQ below (va_Qi (fun r u => r = o1 ∧ u = (o2, L, R)) (QW D ce b kdM lnM 21) (box b 21)) av s 0 0 (box b 21) := ⟨_, rfl⟩
  rw [← hQQ]
  have hret : ∀ (r : Int32) (I1 : mI), some (r, I1) = some (o1, o2) → ∀ (H1 : Heap) (locs1 : List Loc) (ls1 : Array Slot) (pc1 : Nat), decode cX11_takesRule pc1 = .ok (.ireturn, 1) → zb r = true → va_P D vwCl (wd ce b kdM lnM 21 I1 L R) H1 → WT kdM R → va_S (box b 21) s.heap H1 locs1 → W p l e rmX11_takesRule s m av below meth c H1 locs1 0 0 QQ (F0 m pc1 ls1 [.int r]) := by
    intro r I1 hq H1 locs1 ls1 pc1 hd hz hP hT hS
    cases hq
    rw [hQQ]
    exact mm_zret hx hb hr hlocks hz hP hT hS hd
  unfold f_X11_takesRule at hf
  obtain ⟨H, hH⟩ : ∃ z, z = s.heap := ⟨_, rfl⟩
  obtain ⟨locs, hlo⟩ : ∃ z : List Loc, z = [] := ⟨_, rfl⟩
  have hP : va_P D vwCl (wd ce b kdM lnM 21 I L R) H := by rw [hH]; exact hP
  have hS : va_S (box b 21) s.heap H locs := by rw [hH, hlo]; exact hS
  rw [show W p l e rmX11_takesRule s m av below meth c s.heap [] 0 0 QQ = W p l e rmX11_takesRule s m av below meth c H locs 0 0 QQ by rw [hH, hlo]]
  clear hH hlo
  clear hQQ
  show W p l e rmX11_takesRule s m av below meth c H locs 0 0 QQ (F0 m 0 ls [])
  refine lv_aload_n hx hb dX11_takesRule_0 rfl (lv_at hl 0 rfl) ?_
  have t1 : kdM (R x0 1) = 1 := wt hT h0 rfl
  refine mm_getr hx hb hts hown hKK hP fk11_1 (Nat.le_of_ble_eq_true rfl) lkX11_13 (kdM_lt h0 (Nat.succ_ne_zero _)) h0 (nM t1 (Nat.succ_ne_zero _)) dX11_takesRule_1 ?_
  refine lv_iconst (v := (0 : Int32)) hx hb dX11_takesRule_4 (by decide) ?_
  obtain ⟨g2, hf⟩ := grd hf
  refine mm_iald hx hb hKK hP (kdM_lt t1 (Nat.succ_ne_zero _)) t1 g2 dX11_takesRule_5 ?_
  refine lv_istore_n (lv' := [(1, .int (I (R x0 1) ((0 : Int32)).toNatClampNeg)), (0, .ref (b + x0))]) hx hb dX11_takesRule_6 rfl hl (Nat.le_of_ble_eq_true rfl) rfl (fun ls hl => ?_)
  refine lv_iload_n hx hb dX11_takesRule_7 rfl (lv_at hl 0 rfl) ?_
  refine lv_iconst (v := (5 : Int32)) hx hb dX11_takesRule_8 (by decide) ?_
  refine lv_icmp_eq (tgt := 38) hx hb dX11_takesRule_9 (by decide) (fun c3 => ?_) (fun c3 => ?_)
  · have hf := ifT hf c3
    refine lv_iconst (v := (0 : Int32)) hx hb dX11_takesRule_38 (by decide) ?_
    exact hret (0 : Int32) I hf H locs ls _ dX11_takesRule_39 rfl hP hT hS
  · have hf := ifF hf c3
    refine lv_aload_n hx hb dX11_takesRule_12 rfl (lv_at hl 1 rfl) ?_
    refine mm_geti hx hb hts hown hKK hP fk11_7 (Or.inl rfl) lkX11_90 (kdM_lt h0 (Nat.succ_ne_zero _)) h0 dX11_takesRule_13 ?_
    refine lv_aload_n hx hb dX11_takesRule_16 rfl (lv_at hl 1 rfl) ?_
    refine mm_geti hx hb hts hown hKK hP fk11_6 (Or.inl rfl) lkX11_93 (kdM_lt h0 (Nat.succ_ne_zero _)) h0 dX11_takesRule_17 ?_
    refine jnE hf (fun j40_4 ej_4 hf => ?_)
    have hJ40_4 : ∀ (H : Heap) (locs : List Loc) (ls : Array Slot), va_P D vwCl (wd ce b kdM lnM 21 I L R) H → va_S (box b 21) s.heap H locs → lv_has ls 4 [(0, .ref (b + x0)), (1, .int (I (R x0 1) ((0 : Int32)).toNatClampNeg))] → j40_4  = some (o1, o2) → W p l e rmX11_takesRule s m av below meth c H locs 0 0 QQ (F0 m 40 ls []) := by
      intro  H locs ls hP hS  hl hf
      rw [ej_4] at hf
      try dsimp only at hf
      refine lv_aload_n hx hb dX11_takesRule_40 rfl (lv_at hl 0 rfl) ?_
      refine lv_iload_n hx hb dX11_takesRule_41 rfl (lv_at hl 1 rfl) ?_
      obtain ⟨r5, e5, hf⟩ := bd1_o hf
      refine mm_Si (rest := [.ref (b + x0)]) hx hb hml hown hts hKK hP hS hA skX11_117 (k_X11_leftOf l D ce b I L R hT (I (R x0 1) ((0 : Int32)).toNatClampNeg)  r5 e5) rfl hl.1 rfl (Nat.le_of_ble_eq_true rfl) ⟨rfl, rfl⟩ ⟨Nat.le_of_ble_eq_true rfl, Nat.le_of_ble_eq_true rfl⟩ ⟨Nat.zero_le _, Nat.zero_le _⟩ dX11_takesRule_42 (fun H locs hP hT hS => ?_)
      refine lv_bipush (v := (12 : Int32)) hx hb dX11_takesRule_45 (by decide) ?_
      refine lv_iconst (v := (3 : Int32)) hx hb dX11_takesRule_47 (by decide) ?_
      obtain ⟨r6, I6, e6, hf⟩ := bd2_o hf
      refine mm_Vi (rest := []) hx hb hml hown hts hKK hP hS hA (kdM_lt h0 (Nat.succ_ne_zero _)) h0 (show vwCl[11]? = some (yX11_takesTerm.cls, TX11, 32) from rfl) vkX11_120 (k_X11_takesTerm l D ce b I L R hT x0 r5 (12 : Int32) (3 : Int32) h0 r6 I6 e6) rfl hl.1 rfl (Nat.le_of_ble_eq_true rfl) ⟨rfl, rfl⟩ ⟨Nat.le_of_ble_eq_true rfl, Nat.le_of_ble_eq_true rfl⟩ ⟨Nat.zero_le _, Nat.zero_le _⟩ dX11_takesRule_48 (fun H locs hP hT hS => ?_)
      refine lv_istore_n (lv' := [(2, .int r6), (0, .ref (b + x0)), (1, .int (I (R x0 1) ((0 : Int32)).toNatClampNeg))]) hx hb dX11_takesRule_51 rfl hl (Nat.le_of_ble_eq_true rfl) rfl (fun ls hl => ?_)
      refine lv_iload_n hx hb dX11_takesRule_52 rfl (lv_at hl 0 rfl) ?_
      refine lv_iconst (v := (-1 : Int32)) hx hb dX11_takesRule_53 (by decide) ?_
      refine lv_icmp_eq (tgt := 66) hx hb dX11_takesRule_54 (by decide) (fun c7 => ?_) (fun c7 => ?_)
      · have hf := ifT hf c7
        refine lv_iconst (v := (0 : Int32)) hx hb dX11_takesRule_66 (by decide) ?_
        exact hret (0 : Int32) I6 hf H locs ls _ dX11_takesRule_67 rfl hP hT hS
      · have hf := ifF hf c7
        refine lv_aload_n hx hb dX11_takesRule_57 rfl (lv_at hl 1 rfl) ?_
        refine lv_bipush (v := (62 : Int32)) hx hb dX11_takesRule_58 (by decide) ?_
        obtain ⟨r8, I8, e8, hf⟩ := bd2_o hf
        refine mm_Vi (rest := []) hx hb hml hown hts hKK hP hS hA (kdM_lt h0 (Nat.succ_ne_zero _)) h0 (show vwCl[11]? = some (yX11_takesSign.cls, TX11, 32) from rfl) vkX11_124 (k_X11_takesSign l D ce b I6 L R hT x0 (62 : Int32) h0 r8 I8 e8) rfl hl.1 rfl (Nat.le_of_ble_eq_true rfl) ⟨rfl, rfl⟩ ⟨Nat.le_of_ble_eq_true rfl, Nat.le_of_ble_eq_true rfl⟩ ⟨Nat.zero_le _, Nat.zero_le _⟩ dX11_takesRule_60 (fun H locs hP hT hS => ?_)
        refine lv_if_ne (tgt := 68) hx hb dX11_takesRule_63 (by decide) (fun c9 => ?_) (fun c9 => ?_)
        · have hf := ifF hf c9
          refine lv_aload_n hx hb dX11_takesRule_68 rfl (lv_at hl 1 rfl) ?_
          refine lv_iload_n hx hb dX11_takesRule_69 rfl (lv_at hl 2 rfl) ?_
          obtain ⟨r10, e10, hf⟩ := bd1_o hf
          refine mm_Si (rest := [.ref (b + x0)]) hx hb hml hown hts hKK hP hS hA skX11_127 (k_X11_rightOf l D ce b I8 L R hT (I (R x0 1) ((0 : Int32)).toNatClampNeg)  r10 e10) rfl hl.1 rfl (Nat.le_of_ble_eq_true rfl) ⟨rfl, rfl⟩ ⟨Nat.le_of_ble_eq_true rfl, Nat.le_of_ble_eq_true rfl⟩ ⟨Nat.zero_le _, Nat.zero_le _⟩ dX11_takesRule_70 (fun H locs hP hT hS => ?_)
          refine lv_bipush (v := (12 : Int32)) hx hb dX11_takesRule_73 (by decide) ?_
          refine lv_aload_n hx hb dX11_takesRule_75 rfl (lv_at hl 1 rfl) ?_
          refine mm_getr hx hb hts hown hKK hP fk11_1 (Nat.le_of_ble_eq_true rfl) lkX11_13 (kdM_lt h0 (Nat.succ_ne_zero _)) h0 (nM t1 (Nat.succ_ne_zero _)) dX11_takesRule_76 ?_
          refine lv_iload_n hx hb dX11_takesRule_79 rfl (lv_at hl 2 rfl) ?_
          obtain ⟨r11, e11, hf⟩ := bd1_o hf
          refine mm_Si (rest := [.ref (b + (R x0 1)), .int (12 : Int32), .int r10, .ref (b + x0)]) hx hb hml hown hts hKK hP hS hA skX11_117 (k_X11_leftOf l D ce b I8 L R hT (I (R x0 1) ((0 : Int32)).toNatClampNeg)  r11 e11) rfl hl.1 rfl (Nat.le_of_ble_eq_true rfl) ⟨rfl, rfl⟩ ⟨Nat.le_of_ble_eq_true rfl, Nat.le_of_ble_eq_true rfl⟩ ⟨Nat.zero_le _, Nat.zero_le _⟩ dX11_takesRule_80 (fun H locs hP hT hS => ?_)
          refine lv_iload_n hx hb dX11_takesRule_83 rfl (lv_at hl 0 rfl) ?_
          obtain ⟨r12, e12, hf⟩ := bd1_o hf
          refine mm_Si (rest := [.int (12 : Int32), .int r10, .ref (b + x0)]) hx hb hml hown hts hKK hP hS hA skX11_130 (k_X11_unknowns l D ce b I8 L R hT (R x0 1) r11 r6 t1 r12 e12) rfl hl.1 rfl (Nat.le_of_ble_eq_true rfl) ⟨rfl, rfl⟩ ⟨Nat.le_of_ble_eq_true rfl, Nat.le_of_ble_eq_true rfl⟩ ⟨Nat.zero_le _, Nat.zero_le _⟩ dX11_takesRule_84 (fun H locs hP hT hS => ?_)
          obtain ⟨r13, I13, e13, hf⟩ := bd2_o hf
          refine mm_Vi (rest := []) hx hb hml hown hts hKK hP hS hA (kdM_lt h0 (Nat.succ_ne_zero _)) h0 (show vwCl[11]? = some (yX11_takesTerm.cls, TX11, 32) from rfl) vkX11_120 (k_X11_takesTerm l D ce b I8 L R hT x0 r10 (12 : Int32) r12 h0 r13 I13 e13) rfl hl.1 rfl (Nat.le_of_ble_eq_true rfl) ⟨rfl, rfl⟩ ⟨Nat.le_of_ble_eq_true rfl, Nat.le_of_ble_eq_true rfl⟩ ⟨Nat.zero_le _, Nat.zero_le _⟩ dX11_takesRule_87 (fun H locs hP hT hS => ?_)
          refine lv_istore_n (lv' := [(3, .int r13), (2, .int r6), (0, .ref (b + x0)), (1, .int (I (R x0 1) ((0 : Int32)).toNatClampNeg))]) hx hb dX11_takesRule_90 rfl hl (Nat.le_of_ble_eq_true rfl) rfl (fun ls hl => ?_)
          refine lv_iload_n hx hb dX11_takesRule_91 rfl (lv_at hl 0 rfl) ?_
          refine lv_iconst (v := (-1 : Int32)) hx hb dX11_takesRule_92 (by decide) ?_
          refine lv_icmp_eq (tgt := 105) hx hb dX11_takesRule_93 (by decide) (fun c14 => ?_) (fun c14 => ?_)
          · have hf := ifT hf c14
            refine lv_iconst (v := (0 : Int32)) hx hb dX11_takesRule_105 (by decide) ?_
            exact hret (0 : Int32) I13 hf H locs ls _ dX11_takesRule_106 rfl hP hT hS
          · have hf := ifF hf c14
            refine lv_aload_n hx hb dX11_takesRule_96 rfl (lv_at hl 2 rfl) ?_
            refine lv_bipush (v := (59 : Int32)) hx hb dX11_takesRule_97 (by decide) ?_
            obtain ⟨r15, I15, e15, hf⟩ := bd2_o hf
            refine mm_Vi (rest := []) hx hb hml hown hts hKK hP hS hA (kdM_lt h0 (Nat.succ_ne_zero _)) h0 (show vwCl[11]? = some (yX11_takesSign.cls, TX11, 32) from rfl) vkX11_124 (k_X11_takesSign l D ce b I13 L R hT x0 (59 : Int32) h0 r15 I15 e15) rfl hl.1 rfl (Nat.le_of_ble_eq_true rfl) ⟨rfl, rfl⟩ ⟨Nat.le_of_ble_eq_true rfl, Nat.le_of_ble_eq_true rfl⟩ ⟨Nat.zero_le _, Nat.zero_le _⟩ dX11_takesRule_99 (fun H locs hP hT hS => ?_)
            refine lv_if_ne (tgt := 107) hx hb dX11_takesRule_102 (by decide) (fun c16 => ?_) (fun c16 => ?_)
            · have hf := ifF hf c16
              refine lv_aload_n hx hb dX11_takesRule_107 rfl (lv_at hl 2 rfl) ?_
              refine mm_getr hx hb hts hown hKK hP fk11_1 (Nat.le_of_ble_eq_true rfl) lkX11_13 (kdM_lt h0 (Nat.succ_ne_zero _)) h0 (nM t1 (Nat.succ_ne_zero _)) dX11_takesRule_108 ?_
              refine lv_iconst (v := (1 : Int32)) hx hb dX11_takesRule_111 (by decide) ?_
              refine lv_bipush (v := (26 : Int32)) hx hb dX11_takesRule_112 (by decide) ?_
              refine lv_iload_n hx hb dX11_takesRule_114 rfl (lv_at hl 3 rfl) ?_
              refine lv_imul hx hb dX11_takesRule_115 ?_
              refine lv_iadd hx hb dX11_takesRule_116 ?_
              refine lv_iload_n hx hb dX11_takesRule_117 rfl (lv_at hl 1 rfl) ?_
              obtain ⟨g17, hf⟩ := grd hf
              refine jnE hf (fun I18 eI18 hf => ?_)
              refine mm_iast hx hb hKK hP hA hS (kdM_lt t1 (Nat.succ_ne_zero _)) t1 g17 dX11_takesRule_118 (fun H locs hP hS => ?_)
              rw [← eI18] at hP
              refine lv_aload_n hx hb dX11_takesRule_119 rfl (lv_at hl 2 rfl) ?_
              refine mm_getr hx hb hts hown hKK hP fk11_1 (Nat.le_of_ble_eq_true rfl) lkX11_13 (kdM_lt h0 (Nat.succ_ne_zero _)) h0 (nM t1 (Nat.succ_ne_zero _)) dX11_takesRule_120 ?_
              refine lv_iconst (v := (1 : Int32)) hx hb dX11_takesRule_123 (by decide) ?_
              refine lv_bipush (v := (26 : Int32)) hx hb dX11_takesRule_124 (by decide) ?_
              refine lv_iload_n hx hb dX11_takesRule_126 rfl (lv_at hl 3 rfl) ?_
              refine lv_imul hx hb dX11_takesRule_127 ?_
              refine lv_iadd hx hb dX11_takesRule_128 ?_
              refine lv_iconst (v := (1 : Int32)) hx hb dX11_takesRule_129 (by decide) ?_
              refine lv_iadd hx hb dX11_takesRule_130 ?_
              refine lv_iload_n hx hb dX11_takesRule_131 rfl (lv_at hl 0 rfl) ?_
              obtain ⟨g19, hf⟩ := grd hf
              refine jnE hf (fun I20 eI20 hf => ?_)
              refine mm_iast hx hb hKK hP hA hS (kdM_lt t1 (Nat.succ_ne_zero _)) t1 g19 dX11_takesRule_132 (fun H locs hP hS => ?_)
              rw [← eI20] at hP
              refine lv_aload_n hx hb dX11_takesRule_133 rfl (lv_at hl 2 rfl) ?_
              refine mm_getr hx hb hts hown hKK hP fk11_1 (Nat.le_of_ble_eq_true rfl) lkX11_13 (kdM_lt h0 (Nat.succ_ne_zero _)) h0 (nM t1 (Nat.succ_ne_zero _)) dX11_takesRule_134 ?_
              refine lv_iconst (v := (0 : Int32)) hx hb dX11_takesRule_137 (by decide) ?_
              refine lv_dup2_11 hx hb dX11_takesRule_138 rfl rfl ?_
              refine mm_iald hx hb hKK hP (kdM_lt t1 (Nat.succ_ne_zero _)) t1 g2 dX11_takesRule_139 ?_
              refine lv_iconst (v := (1 : Int32)) hx hb dX11_takesRule_140 (by decide) ?_
              refine lv_iadd hx hb dX11_takesRule_141 ?_
              refine jnE hf (fun I21 eI21 hf => ?_)
              refine mm_iast hx hb hKK hP hA hS (kdM_lt t1 (Nat.succ_ne_zero _)) t1 g2 dX11_takesRule_142 (fun H locs hP hS => ?_)
              rw [← eI21] at hP
              refine lv_aload_n hx hb dX11_takesRule_143 rfl (lv_at hl 2 rfl) ?_
              obtain ⟨I22, e22, hf⟩ := bd1_o hf
              refine mm_Vv (rest := []) hx hb hml hown hts hKK hP hS hA (kdM_lt h0 (Nat.succ_ne_zero _)) h0 (show vwCl[11]? = some (yX11_blanks.cls, TX11, 32) from rfl) vkX11_108 (k_X11_blanks l D ce b I21 L R hT x0 h0 I22 e22) rfl hl.1 rfl (Nat.le_of_ble_eq_true rfl) ⟨rfl, rfl⟩ ⟨Nat.le_of_ble_eq_true rfl, Nat.le_of_ble_eq_true rfl⟩ ⟨Nat.zero_le _, Nat.zero_le _⟩ dX11_takesRule_144 (fun H locs hP hT hS => ?_)
              refine lv_iconst (v := (1 : Int32)) hx hb dX11_takesRule_147 (by decide) ?_
              exact hret (1 : Int32) I22 hf H locs ls _ dX11_takesRule_148 rfl hP hT hS
            · have hf := ifT hf c16
              refine lv_iconst (v := (0 : Int32)) hx hb dX11_takesRule_105 (by decide) ?_
              exact hret (0 : Int32) I15 hf H locs ls _ dX11_takesRule_106 rfl hP hT hS
        · have hf := ifT hf c9
          refine lv_iconst (v := (0 : Int32)) hx hb dX11_takesRule_66 (by decide) ?_
          exact hret (0 : Int32) I8 hf H locs ls _ dX11_takesRule_67 rfl hP hT hS
    clear ej_4
    refine lv_icmp_ge (tgt := 40) hx hb dX11_takesRule_20 (by decide) (fun c23 => ?_) (fun c23 => ?_)
    · have hf := ifT hf c23
      exact hJ40_4  H locs ls hP hS  (lv_sub hl [1, 0] rfl) hf
    · have hf := ifF hf c23
      refine lv_aload_n hx hb dX11_takesRule_23 rfl (lv_at hl 1 rfl) ?_
      have t24 : kdM (R x0 5) = 1 := wt hT h0 rfl
      refine mm_getr hx hb hts hown hKK hP fk11_5 (Nat.le_of_ble_eq_true rfl) lkX11_22 (kdM_lt h0 (Nat.succ_ne_zero _)) h0 (nM t24 (Nat.succ_ne_zero _)) dX11_takesRule_24 ?_
      refine lv_aload_n hx hb dX11_takesRule_27 rfl (lv_at hl 1 rfl) ?_
      refine mm_geti hx hb hts hown hKK hP fk11_7 (Or.inl rfl) lkX11_90 (kdM_lt h0 (Nat.succ_ne_zero _)) h0 dX11_takesRule_28 ?_
      obtain ⟨g25, hf⟩ := grd hf
      refine mm_iald hx hb hKK hP (kdM_lt t24 (Nat.succ_ne_zero _)) t24 g25 dX11_takesRule_31 ?_
      obtain ⟨r26, e26, hf⟩ := bd1_o hf
      refine mm_Si (rest := []) hx hb hml hown hts hKK hP hS hA skX11_100 (k_X11_isUnknown l D ce b I L R hT (I (R x0 5) ((I x0 7)).toNatClampNeg)  r26 e26) rfl hl.1 rfl (Nat.le_of_ble_eq_true rfl) ⟨rfl, rfl⟩ ⟨Nat.le_of_ble_eq_true rfl, Nat.le_of_ble_eq_true rfl⟩ ⟨Nat.zero_le _, Nat.zero_le _⟩ dX11_takesRule_32 (fun H locs hP hT hS => ?_)
      refine lv_if_eq (tgt := 40) hx hb dX11_takesRule_35 (by decide) (fun c27 => ?_) (fun c27 => ?_)
      · have hf := ifT hf c27
        exact hJ40_4  H locs ls hP hS  (lv_sub hl [1, 0] rfl) hf
      · have hf := ifF hf c27
        refine lv_iconst (v := (0 : Int32)) hx hb dX11_takesRule_38 (by decide) ?_
        exact hret (0 : Int32) I hf H locs ls _ dX11_takesRule_39 rfl hP hT hS
def rmX11_readsRules : Room := { frames := 4, cells := 0, slots := 0, locals := 91 }
set_option maxHeartbeats 4000000 in
set_option maxRecDepth 100000 in
theorem k_X11_readsRules (l : Launch) (D : va_G) (ce : Nat → ClassId) (b : Nat) (I : mI) (L : mL) (R : mR) (hT : WT kdM R) (x0 : Nat) (h0 : kdM x0 = 17) (o1 : Int32) (o2 : mI) (hf : f_X11_readsRules x0 I R = some (o1, o2)) : Met l yX11_readsRules (Cond.code yX11_readsRules cX11_readsRules 2 (some .int) :: GW) rmX11_readsRules (va_Pc [.ref (b + x0)] (PW D ce b kdM lnM 21 I L R)) (va_Qi (fun r u => r = o1 ∧ u = (o2, L, R)) (QW D ce b kdM lnM 21) (box b 21)) 0 0 (box b 21) := by
  refine Met.ofW (cc := cX11_readsRules) (maxL := 2) (ret := (some .int)) (by decide) rfl ?_
  intro p e s m args below meth c s₁ B hml hv
  obtain ⟨rfl, hP, hKK⟩ := hv
  have hx := B.exec
  have hb := B.bytes
  have hr := B.returns
  have hts0 := atoms_spec (ws := Cond.code yX11_readsRules cX11_readsRules 2 (some .int) :: GW) B.pre
  have hts : ∀ w ∈ GW, w.before _ s = true := fun w h => hts0 w (List.mem_cons_of_mem _ h)
  clear hts0
  have hown : s.vm.findClass RX11 = some m.cls := findClass_of_methodNamed B.named
  have hlocks := B.notSynchronized
  have hA : ∀ q, box b 21 q → box b 21 q := fun _ h => h
  have hS : va_S (box b 21) s.heap s.heap [] := va_S.rf
  have hl := lv_entry ([.ref (b + x0)]) (n := 2) (Nat.le_of_ble_eq_true rfl)
  rw [lg_entry_eq]
  generalize (lg_sl ([.ref (b + x0)]) ++ List.replicate (2 - (lg_sl ([.ref (b + x0)])).length) Slot.unset).toArray = ls at hl ⊢
  have hl : lv_has ls 2 [(0, .ref (b + x0))] := hl
  generalize ([.ref (b + x0)] : List Value).toArray = av at hts ⊢
  show W p l e rmX11_readsRules s m av below meth c s.heap [] 0 0 _ _
  obtain ⟨QQ, hQQ⟩ : ∃ z, z = MQ below (va_Qi (fun r u => r = o1 ∧ u = (o2, L, R)) (QW D ce b kdM lnM 21) (box b 21)) av s 0 0 (box b 21) := ⟨_, rfl⟩
  rw [← hQQ]
  have hret : ∀ (r : Int32) (I1 : mI), some (r, I1) = some (o1, o2) → ∀ (H1 : Heap) (locs1 : List Loc) (ls1 : Array Slot) (pc1 : Nat), decode cX11_readsRules pc1 = .ok (.ireturn, 1) → va_P D vwCl (wd ce b kdM lnM 21 I1 L R) H1 → WT kdM R → va_S (box b 21) s.heap H1 locs1 → W p l e rmX11_readsRules s m av below meth c H1 locs1 0 0 QQ (F0 m pc1 ls1 [.int r]) := by
    intro r I1 hq H1 locs1 ls1 pc1 hd hP hT hS
    cases hq
    rw [hQQ]
    exact mm_iret hx hb hr hlocks hP hT hS hd
  unfold f_X11_readsRules at hf
  obtain ⟨H, hH⟩ : ∃ z, z = s.heap := ⟨_, rfl⟩
  obtain ⟨locs, hlo⟩ : ∃ z : List Loc, z = [] := ⟨_, rfl⟩
  have hP : va_P D vwCl (wd ce b kdM lnM 21 I L R) H := by rw [hH]; exact hP
  have hS : va_S (box b 21) s.heap H locs := by rw [hH, hlo]; exact hS
  rw [show W p l e rmX11_readsRules s m av below meth c s.heap [] 0 0 QQ = W p l e rmX11_readsRules s m av below meth c H locs 0 0 QQ by rw [hH, hlo]]
  clear hH hlo
  clear hQQ
  show W p l e rmX11_readsRules s m av below meth c H locs 0 0 QQ (F0 m 0 ls [])
  refine lv_aload_n hx hb dX11_readsRules_0 rfl (lv_at hl 0 rfl) ?_
  have t1 : kdM (R x0 0) = 1 := wt hT h0 rfl
  refine mm_getr hx hb hts hown hKK hP fk11_0 (Nat.le_of_ble_eq_true rfl) lkX11_7 (kdM_lt h0 (Nat.succ_ne_zero _)) h0 (nM t1 (Nat.succ_ne_zero _)) dX11_readsRules_1 ?_
  refine lv_iconst (v := (0 : Int32)) hx hb dX11_readsRules_4 (by decide) ?_
  refine lv_aload_n hx hb dX11_readsRules_5 rfl (lv_at hl 0 rfl) ?_
  have t2 : kdM (R x0 1) = 1 := wt hT h0 rfl
  refine mm_getr hx hb hts hown hKK hP fk11_1 (Nat.le_of_ble_eq_true rfl) lkX11_13 (kdM_lt h0 (Nat.succ_ne_zero _)) h0 (nM t2 (Nat.succ_ne_zero _)) dX11_readsRules_6 ?_
  refine lv_iconst (v := (0 : Int32)) hx hb dX11_readsRules_9 (by decide) ?_
  obtain ⟨I3, e3, hf⟩ := bd1_o hf
  refine mm_Sv (rest := []) hx hb hml hown hts hKK hP hS hA skX11_76 (k_X11_copies l D ce b I L R hT (R x0 0) (0 : Int32) (R x0 1) (0 : Int32) t1 t2 I3 e3) rfl hl.1 rfl (Nat.le_of_ble_eq_true rfl) ⟨rfl, rfl⟩ ⟨Nat.le_of_ble_eq_true rfl, Nat.le_of_ble_eq_true rfl⟩ ⟨Nat.zero_le _, Nat.zero_le _⟩ dX11_readsRules_10 (fun H locs hP hT hS => ?_)
  refine lv_aload_n hx hb dX11_readsRules_13 rfl (lv_at hl 0 rfl) ?_
  refine lv_iconst (v := (0 : Int32)) hx hb dX11_readsRules_14 (by decide) ?_
  refine jnE hf (fun I4 eI4 hf => ?_)
  refine mm_puti hx hb hts hown hKK hP hA hS fk11_7 (Or.inl rfl) fw11_7 lkX11_90 (kdM_lt h0 (Nat.succ_ne_zero _)) h0 rfl rfl dX11_readsRules_15 (fun H locs hP hS => ?_)
  rw [← eI4] at hP
  refine lv_aload_n hx hb dX11_readsRules_18 rfl (lv_at hl 0 rfl) ?_
  obtain ⟨I5, e5, hf⟩ := bd1_o hf
  refine mm_Vv (rest := []) hx hb hml hown hts hKK hP hS hA (kdM_lt h0 (Nat.succ_ne_zero _)) h0 (show vwCl[11]? = some (yX11_blanks.cls, TX11, 32) from rfl) vkX11_108 (k_X11_blanks l D ce b I4 L R hT x0 h0 I5 e5) rfl hl.1 rfl (Nat.le_of_ble_eq_true rfl) ⟨rfl, rfl⟩ ⟨Nat.le_of_ble_eq_true rfl, Nat.le_of_ble_eq_true rfl⟩ ⟨Nat.zero_le _, Nat.zero_le _⟩ dX11_readsRules_19 (fun H locs hP hT hS => ?_)
  refine lv_aload_n hx hb dX11_readsRules_22 rfl (lv_at hl 0 rfl) ?_
  refine mm_geti hx hb hts hown hKK hP fk11_7 (Or.inl rfl) lkX11_90 (kdM_lt h0 (Nat.succ_ne_zero _)) h0 dX11_readsRules_23 ?_
  refine lv_aload_n hx hb dX11_readsRules_26 rfl (lv_at hl 0 rfl) ?_
  refine mm_geti hx hb hts hown hKK hP fk11_6 (Or.inl rfl) lkX11_93 (kdM_lt h0 (Nat.succ_ne_zero _)) h0 dX11_readsRules_27 ?_
  refine jnE hf (fun j38_6 ej_6 hf => ?_)
  have hJ38_6 : ∀ (w0_6 : Int32) (H : Heap) (locs : List Loc) (ls : Array Slot), va_P D vwCl (wd ce b kdM lnM 21 I5 L R) H → va_S (box b 21) s.heap H locs → lv_has ls 2 [(0, .ref (b + x0))] → j38_6 w0_6 = some (o1, o2) → W p l e rmX11_readsRules s m av below meth c H locs 0 0 QQ (F0 m 38 ls [.int w0_6]) := by
    intro w0_6 H locs ls hP hS  hl hf
    rw [ej_6] at hf
    try dsimp only at hf
    refine lv_istore_n (lv' := [(1, .int w0_6), (0, .ref (b + x0))]) hx hb dX11_readsRules_38 rfl hl (Nat.le_of_ble_eq_true rfl) rfl (fun ls hl => ?_)
    have lp39 : ∀ (n : Nat) (x0 : Nat) (x1 : Int32) (I : mI) (L : mL) (R : mR) (a1 : Int32) (a2 : mI) (H : Heap) (locs : List Loc) (ls : Array Slot), va_P D vwCl (wd ce b kdM lnM 21 I L R) H → va_S (box b 21) s.heap H locs → WT kdM R → kdM x0 = 17 → lv_has ls 2 [(0, .ref (b + x0)), (1, .int x1)] → f_X11_readsRules_L39 n x0 x1 I R = some (a1, a2) → (∀ (H1 : Heap) (locs1 : List Loc) (ls1 : Array Slot), va_P D vwCl (wd ce b kdM lnM 21 a2 L R) H1 → va_S (box b 21) s.heap H1 locs1 → lv_has ls1 2 [(0, .ref (b + x0)), (1, .int a1)] → W p l e rmX11_readsRules s m av below meth c H1 locs1 0 0 QQ (F0 m 62 ls1 [])) → W p l e rmX11_readsRules s m av below meth c H locs 0 0 QQ (F0 m 39 ls []) := by
      intro n
      induction n with
      | zero =>
        intro x0 x1 I L R a1 a2 H locs ls hP hS hT h0 hl hf kx
        exact absurd (show (none : Option (Int32 × mI)) = some _ from hf) (by simp)
      | succ n ih =>
        intro x0 x1 I L R a1 a2 H locs ls hP hS hT h0 hl hf kx
        rw [f_X11_readsRules_L39] at hf
        refine lv_iload_n hx hb dX11_readsRules_39 rfl (lv_at hl 1 rfl) ?_
        refine lv_if_eq (tgt := 62) hx hb dX11_readsRules_40 (by decide) (fun c7 => ?_) (fun c7 => ?_)
        · have hf := ifT hf c7
          cases hf
          exact kx H locs ls hP hS (lv_sub hl [0, 1] rfl)
        · have hf := ifF hf c7
          refine lv_aload_n hx hb dX11_readsRules_43 rfl (lv_at hl 0 rfl) ?_
          refine mm_geti hx hb hts hown hKK hP fk11_7 (Or.inl rfl) lkX11_90 (kdM_lt h0 (Nat.succ_ne_zero _)) h0 dX11_readsRules_44 ?_
          refine lv_aload_n hx hb dX11_readsRules_47 rfl (lv_at hl 0 rfl) ?_
          refine mm_geti hx hb hts hown hKK hP fk11_6 (Or.inl rfl) lkX11_93 (kdM_lt h0 (Nat.succ_ne_zero _)) h0 dX11_readsRules_48 ?_
          refine lv_icmp_ge (tgt := 62) hx hb dX11_readsRules_51 (by decide) (fun c8 => ?_) (fun c8 => ?_)
          · have hf := ifT hf c8
            cases hf
            exact kx H locs ls hP hS (lv_sub hl [0, 1] rfl)
          · have hf := ifF hf c8
            refine lv_aload_n hx hb dX11_readsRules_54 rfl (lv_at hl 0 rfl) ?_
            obtain ⟨r9, I9, e9, hf⟩ := bd2_o hf
            refine mm_Vi (rest := []) hx hb hml hown hts hKK hP hS hA (kdM_lt h0 (Nat.succ_ne_zero _)) h0 (show vwCl[11]? = some (yX11_takesRule.cls, TX11, 32) from rfl) vkX11_134 (k_X11_takesRule l D ce b I L R hT x0 h0 r9 I9 e9) rfl hl.1 rfl (Nat.le_of_ble_eq_true rfl) ⟨rfl, rfl⟩ ⟨Nat.le_of_ble_eq_true rfl, Nat.le_of_ble_eq_true rfl⟩ ⟨Nat.zero_le _, Nat.zero_le _⟩ dX11_readsRules_55 (fun H locs hP hT hS => ?_)
            refine lv_istore_n (lv' := [(1, .int r9), (0, .ref (b + x0))]) hx hb dX11_readsRules_58 rfl hl (Nat.le_of_ble_eq_true rfl) rfl (fun ls hl => ?_)
            refine lv_goto (tgt := 39) hx hb dX11_readsRules_59 (by decide) ?_
            exact ih x0 r9 I9 L R a1 a2 H locs ls hP hS hT h0 (lv_sub hl [1, 0] rfl) hf kx
    obtain ⟨y1_10, I_10, e_10, hf⟩ := bd2_o hf
    refine lp39 FU x0 w0_6 I5 L R y1_10 I_10 H locs ls hP hS hT h0 (lv_sub hl [1, 0] rfl) e_10 (fun H locs ls hP hS hl => ?_)
    refine lv_iload_n hx hb dX11_readsRules_62 rfl (lv_at hl 1 rfl) ?_
    refine lv_if_eq (tgt := 70) hx hb dX11_readsRules_63 (by decide) (fun c11 => ?_) (fun c11 => ?_)
    · have hf := ifT hf c11
      refine lv_aload_n hx hb dX11_readsRules_70 rfl (lv_at hl 0 rfl) ?_
      refine mm_geti hx hb hts hown hKK hP fk11_7 (Or.inl rfl) lkX11_90 (kdM_lt h0 (Nat.succ_ne_zero _)) h0 dX11_readsRules_71 ?_
      exact hret (I_10 x0 7) I_10 hf H locs ls _ dX11_readsRules_74 hP hT hS
    · have hf := ifF hf c11
      refine lv_iconst (v := (-1 : Int32)) hx hb dX11_readsRules_66 (by decide) ?_
      refine lv_goto (tgt := 74) hx hb dX11_readsRules_67 (by decide) ?_
      exact hret (-1 : Int32) I_10 hf H locs ls _ dX11_readsRules_74 hP hT hS
  clear ej_6
  refine lv_icmp_ge (tgt := 37) hx hb dX11_readsRules_30 (by decide) (fun c12 => ?_) (fun c12 => ?_)
  · have hf := ifT hf c12
    refine lv_iconst (v := (0 : Int32)) hx hb dX11_readsRules_37 (by decide) ?_
    exact hJ38_6 (0 : Int32) H locs ls hP hS  (lv_sub hl [0] rfl) hf
  · have hf := ifF hf c12
    refine lv_iconst (v := (1 : Int32)) hx hb dX11_readsRules_33 (by decide) ?_
    refine lv_goto (tgt := 38) hx hb dX11_readsRules_34 (by decide) ?_
    exact hJ38_6 (1 : Int32) H locs ls hP hS  (lv_sub hl [0] rfl) hf
def rmX11_readsTerm : Room := { frames := 3, cells := 0, slots := 0, locals := 68 }
set_option maxHeartbeats 4000000 in
set_option maxRecDepth 100000 in
theorem k_X11_readsTerm (l : Launch) (D : va_G) (ce : Nat → ClassId) (b : Nat) (I : mI) (L : mL) (R : mR) (hT : WT kdM R) (x0 : Nat) (h0 : kdM x0 = 17) (o1 : Int32) (o2 : mI) (hf : f_X11_readsTerm x0 I R = some (o1, o2)) : Met l yX11_readsTerm (Cond.code yX11_readsTerm cX11_readsTerm 2 (some .int) :: GW) rmX11_readsTerm (va_Pc [.ref (b + x0)] (PW D ce b kdM lnM 21 I L R)) (va_Qi (fun r u => r = o1 ∧ u = (o2, L, R)) (QW D ce b kdM lnM 21) (box b 21)) 0 0 (box b 21) := by
  refine Met.ofW (cc := cX11_readsTerm) (maxL := 2) (ret := (some .int)) (by decide) rfl ?_
  intro p e s m args below meth c s₁ B hml hv
  obtain ⟨rfl, hP, hKK⟩ := hv
  have hx := B.exec
  have hb := B.bytes
  have hr := B.returns
  have hts0 := atoms_spec (ws := Cond.code yX11_readsTerm cX11_readsTerm 2 (some .int) :: GW) B.pre
  have hts : ∀ w ∈ GW, w.before _ s = true := fun w h => hts0 w (List.mem_cons_of_mem _ h)
  clear hts0
  have hown : s.vm.findClass RX11 = some m.cls := findClass_of_methodNamed B.named
  have hlocks := B.notSynchronized
  have hA : ∀ q, box b 21 q → box b 21 q := fun _ h => h
  have hS : va_S (box b 21) s.heap s.heap [] := va_S.rf
  have hl := lv_entry ([.ref (b + x0)]) (n := 2) (Nat.le_of_ble_eq_true rfl)
  rw [lg_entry_eq]
  generalize (lg_sl ([.ref (b + x0)]) ++ List.replicate (2 - (lg_sl ([.ref (b + x0)])).length) Slot.unset).toArray = ls at hl ⊢
  have hl : lv_has ls 2 [(0, .ref (b + x0))] := hl
  generalize ([.ref (b + x0)] : List Value).toArray = av at hts ⊢
  show W p l e rmX11_readsTerm s m av below meth c s.heap [] 0 0 _ _
  obtain ⟨QQ, hQQ⟩ : ∃ z, z = MQ below (va_Qi (fun r u => r = o1 ∧ u = (o2, L, R)) (QW D ce b kdM lnM 21) (box b 21)) av s 0 0 (box b 21) := ⟨_, rfl⟩
  rw [← hQQ]
  have hret : ∀ (r : Int32) (I1 : mI), some (r, I1) = some (o1, o2) → ∀ (H1 : Heap) (locs1 : List Loc) (ls1 : Array Slot) (pc1 : Nat), decode cX11_readsTerm pc1 = .ok (.ireturn, 1) → va_P D vwCl (wd ce b kdM lnM 21 I1 L R) H1 → WT kdM R → va_S (box b 21) s.heap H1 locs1 → W p l e rmX11_readsTerm s m av below meth c H1 locs1 0 0 QQ (F0 m pc1 ls1 [.int r]) := by
    intro r I1 hq H1 locs1 ls1 pc1 hd hP hT hS
    cases hq
    rw [hQQ]
    exact mm_iret hx hb hr hlocks hP hT hS hd
  unfold f_X11_readsTerm at hf
  obtain ⟨H, hH⟩ : ∃ z, z = s.heap := ⟨_, rfl⟩
  obtain ⟨locs, hlo⟩ : ∃ z : List Loc, z = [] := ⟨_, rfl⟩
  have hP : va_P D vwCl (wd ce b kdM lnM 21 I L R) H := by rw [hH]; exact hP
  have hS : va_S (box b 21) s.heap H locs := by rw [hH, hlo]; exact hS
  rw [show W p l e rmX11_readsTerm s m av below meth c s.heap [] 0 0 QQ = W p l e rmX11_readsTerm s m av below meth c H locs 0 0 QQ by rw [hH, hlo]]
  clear hH hlo
  clear hQQ
  show W p l e rmX11_readsTerm s m av below meth c H locs 0 0 QQ (F0 m 0 ls [])
  refine lv_aload_n hx hb dX11_readsTerm_0 rfl (lv_at hl 0 rfl) ?_
  have t1 : kdM (R x0 0) = 1 := wt hT h0 rfl
  refine mm_getr hx hb hts hown hKK hP fk11_0 (Nat.le_of_ble_eq_true rfl) lkX11_7 (kdM_lt h0 (Nat.succ_ne_zero _)) h0 (nM t1 (Nat.succ_ne_zero _)) dX11_readsTerm_1 ?_
  refine lv_iconst (v := (0 : Int32)) hx hb dX11_readsTerm_4 (by decide) ?_
  refine lv_aload_n hx hb dX11_readsTerm_5 rfl (lv_at hl 0 rfl) ?_
  have t2 : kdM (R x0 1) = 1 := wt hT h0 rfl
  refine mm_getr hx hb hts hown hKK hP fk11_1 (Nat.le_of_ble_eq_true rfl) lkX11_13 (kdM_lt h0 (Nat.succ_ne_zero _)) h0 (nM t2 (Nat.succ_ne_zero _)) dX11_readsTerm_6 ?_
  refine lv_iconst (v := (0 : Int32)) hx hb dX11_readsTerm_9 (by decide) ?_
  obtain ⟨I3, e3, hf⟩ := bd1_o hf
  refine mm_Sv (rest := []) hx hb hml hown hts hKK hP hS hA skX11_76 (k_X11_copies l D ce b I L R hT (R x0 0) (0 : Int32) (R x0 1) (0 : Int32) t1 t2 I3 e3) rfl hl.1 rfl (Nat.le_of_ble_eq_true rfl) ⟨rfl, rfl⟩ ⟨Nat.le_of_ble_eq_true rfl, Nat.le_of_ble_eq_true rfl⟩ ⟨Nat.zero_le _, Nat.zero_le _⟩ dX11_readsTerm_10 (fun H locs hP hT hS => ?_)
  refine lv_aload_n hx hb dX11_readsTerm_13 rfl (lv_at hl 0 rfl) ?_
  refine lv_iconst (v := (0 : Int32)) hx hb dX11_readsTerm_14 (by decide) ?_
  refine jnE hf (fun I4 eI4 hf => ?_)
  refine mm_puti hx hb hts hown hKK hP hA hS fk11_7 (Or.inl rfl) fw11_7 lkX11_90 (kdM_lt h0 (Nat.succ_ne_zero _)) h0 rfl rfl dX11_readsTerm_15 (fun H locs hP hS => ?_)
  rw [← eI4] at hP
  refine lv_aload_n hx hb dX11_readsTerm_18 rfl (lv_at hl 0 rfl) ?_
  refine lv_sipush (v := (132 : Int32)) hx hb dX11_readsTerm_19 (by decide) ?_
  refine lv_bipush (v := (60 : Int32)) hx hb dX11_readsTerm_22 (by decide) ?_
  refine lv_iconst (v := (3 : Int32)) hx hb dX11_readsTerm_24 (by decide) ?_
  obtain ⟨r5, I5, e5, hf⟩ := bd2_o hf
  refine mm_Vi (rest := []) hx hb hml hown hts hKK hP hS hA (kdM_lt h0 (Nat.succ_ne_zero _)) h0 (show vwCl[11]? = some (yX11_takesTerm.cls, TX11, 32) from rfl) vkX11_120 (k_X11_takesTerm l D ce b I4 L R hT x0 (132 : Int32) (60 : Int32) (3 : Int32) h0 r5 I5 e5) rfl hl.1 rfl (Nat.le_of_ble_eq_true rfl) ⟨rfl, rfl⟩ ⟨Nat.le_of_ble_eq_true rfl, Nat.le_of_ble_eq_true rfl⟩ ⟨Nat.zero_le _, Nat.zero_le _⟩ dX11_readsTerm_25 (fun H locs hP hT hS => ?_)
  refine lv_istore_n (lv' := [(1, .int r5), (0, .ref (b + x0))]) hx hb dX11_readsTerm_28 rfl hl (Nat.le_of_ble_eq_true rfl) rfl (fun ls hl => ?_)
  refine lv_aload_n hx hb dX11_readsTerm_29 rfl (lv_at hl 1 rfl) ?_
  refine mm_getr hx hb hts hown hKK hP fk11_1 (Nat.le_of_ble_eq_true rfl) lkX11_13 (kdM_lt h0 (Nat.succ_ne_zero _)) h0 (nM t2 (Nat.succ_ne_zero _)) dX11_readsTerm_30 ?_
  refine lv_sipush (v := (131 : Int32)) hx hb dX11_readsTerm_33 (by decide) ?_
  refine lv_iload_n hx hb dX11_readsTerm_36 rfl (lv_at hl 0 rfl) ?_
  obtain ⟨g6, hf⟩ := grd hf
  refine jnE hf (fun I7 eI7 hf => ?_)
  refine mm_iast hx hb hKK hP hA hS (kdM_lt t2 (Nat.succ_ne_zero _)) t2 g6 dX11_readsTerm_37 (fun H locs hP hS => ?_)
  rw [← eI7] at hP
  refine lv_iload_n hx hb dX11_readsTerm_38 rfl (lv_at hl 0 rfl) ?_
  refine lv_iconst (v := (-1 : Int32)) hx hb dX11_readsTerm_39 (by decide) ?_
  refine jnE hf (fun j54_8 ej_8 hf => ?_)
  have hJ54_8 : ∀ (H : Heap) (locs : List Loc) (ls : Array Slot), va_P D vwCl (wd ce b kdM lnM 21 I7 L R) H → va_S (box b 21) s.heap H locs → lv_has ls 2 [(0, .ref (b + x0))] → j54_8  = some (o1, o2) → W p l e rmX11_readsTerm s m av below meth c H locs 0 0 QQ (F0 m 54 ls []) := by
    intro  H locs ls hP hS  hl hf
    rw [ej_8] at hf
    try dsimp only at hf
    refine lv_aload_n hx hb dX11_readsTerm_54 rfl (lv_at hl 0 rfl) ?_
    refine mm_geti hx hb hts hown hKK hP fk11_7 (Or.inl rfl) lkX11_90 (kdM_lt h0 (Nat.succ_ne_zero _)) h0 dX11_readsTerm_55 ?_
    refine lv_goto (tgt := 62) hx hb dX11_readsTerm_58 (by decide) ?_
    exact hret (I7 x0 7) I7 hf H locs ls _ dX11_readsTerm_62 hP hT hS
  clear ej_8
  refine lv_icmp_eq (tgt := 54) hx hb dX11_readsTerm_40 (by decide) (fun c9 => ?_) (fun c9 => ?_)
  · have hf := ifT hf c9
    exact hJ54_8  H locs ls hP hS  (lv_sub hl [1] rfl) hf
  · have hf := ifF hf c9
    refine lv_aload_n hx hb dX11_readsTerm_43 rfl (lv_at hl 1 rfl) ?_
    refine mm_geti hx hb hts hown hKK hP fk11_7 (Or.inl rfl) lkX11_90 (kdM_lt h0 (Nat.succ_ne_zero _)) h0 dX11_readsTerm_44 ?_
    refine lv_aload_n hx hb dX11_readsTerm_47 rfl (lv_at hl 1 rfl) ?_
    refine mm_geti hx hb hts hown hKK hP fk11_6 (Or.inl rfl) lkX11_93 (kdM_lt h0 (Nat.succ_ne_zero _)) h0 dX11_readsTerm_48 ?_
    refine lv_icmp_ge (tgt := 61) hx hb dX11_readsTerm_51 (by decide) (fun c10 => ?_) (fun c10 => ?_)
    · have hf := ifT hf c10
      refine lv_iconst (v := (-1 : Int32)) hx hb dX11_readsTerm_61 (by decide) ?_
      exact hret (-1 : Int32) I7 hf H locs ls _ dX11_readsTerm_62 hP hT hS
    · have hf := ifF hf c10
      exact hJ54_8  H locs ls hP hS  (lv_sub hl [1] rfl) hf
