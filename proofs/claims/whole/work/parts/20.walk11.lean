def rmX11_calls : Room := { frames := 7, cells := 0, slots := 0, locals := 170 }
set_option maxHeartbeats 4000000 in
set_option maxRecDepth 100000 in
theorem k_X11_calls (l : Launch) (D : va_G) (ce : Nat → ClassId) (b : Nat) (I : mI) (L : mL) (R : mR) (hT : WT kdM R) (x0 : Nat) (x1 : Int32) (h0 : kdM x0 = 17) (o1 : Int32) (o2 : mI) (o3 : mL) (hf : f_X11_calls x0 x1 I L R = some (o1, o2, o3)) : Met l yX11_calls (Cond.code yX11_calls cX11_calls 2 (some .int) :: GW) rmX11_calls (va_Pc [.ref (b + x0), .int x1] (PW D ce b kdM lnM 21 I L R)) (va_Qi (fun r u => r = o1 ∧ u = (o2, o3, R)) (QW D ce b kdM lnM 21) (box b 21)) 0 0 (box b 21) := by
  refine Met.ofW (cc := cX11_calls) (maxL := 2) (ret := (some .int)) (by decide) rfl ?_
  intro p e s m args below meth c s₁ B hml hv
  obtain ⟨rfl, hP, hKK⟩ := hv
  have hx := B.exec
  have hb := B.bytes
  have hr := B.returns
  have hts0 := atoms_spec (ws := Cond.code yX11_calls cX11_calls 2 (some .int) :: GW) B.pre
  have hts : ∀ w ∈ GW, w.before _ s = true := fun w h => hts0 w (List.mem_cons_of_mem _ h)
  clear hts0
  have hown : s.vm.findClass RX11 = some m.cls := findClass_of_methodNamed B.named
  have hlocks := B.notSynchronized
  have hA : ∀ q, box b 21 q → box b 21 q := fun _ h => h
  have hS : va_S (box b 21) s.heap s.heap [] := va_S.rf
  have hl := lv_entry ([.ref (b + x0), .int x1]) (n := 2) (Nat.le_of_ble_eq_true rfl)
  rw [lg_entry_eq]
  generalize (lg_sl ([.ref (b + x0), .int x1]) ++ List.replicate (2 - (lg_sl ([.ref (b + x0), .int x1])).length) Slot.unset).toArray = ls at hl ⊢
  have hl : lv_has ls 2 [(0, .ref (b + x0)), (1, .int x1)] := hl
  generalize ([.ref (b + x0), .int x1] : List Value).toArray = av at hts ⊢
  show W p l e rmX11_calls s m av below meth c s.heap [] 0 0 _ _
  obtain ⟨QQ, hQQ⟩ : ∃ z, z = MQ below (va_Qi (fun r u => r = o1 ∧ u = (o2, o3, R)) (QW D ce b kdM lnM 21) (box b 21)) av s 0 0 (box b 21) := ⟨_, rfl⟩
  rw [← hQQ]
  have hret : ∀ (r : Int32) (I1 : mI) (L1 : mL), some (r, I1, L1) = some (o1, o2, o3) → ∀ (H1 : Heap) (locs1 : List Loc) (ls1 : Array Slot) (pc1 : Nat), decode cX11_calls pc1 = .ok (.ireturn, 1) → va_P D vwCl (wd ce b kdM lnM 21 I1 L1 R) H1 → WT kdM R → va_S (box b 21) s.heap H1 locs1 → W p l e rmX11_calls s m av below meth c H1 locs1 0 0 QQ (F0 m pc1 ls1 [.int r]) := by
    intro r I1 L1 hq H1 locs1 ls1 pc1 hd hP hT hS
    cases hq
    rw [hQQ]
    exact mm_iret hx hb hr hlocks hP hT hS hd
  unfold f_X11_calls at hf
  obtain ⟨H, hH⟩ : ∃ z, z = s.heap := ⟨_, rfl⟩
  obtain ⟨locs, hlo⟩ : ∃ z : List Loc, z = [] := ⟨_, rfl⟩
  have hP : va_P D vwCl (wd ce b kdM lnM 21 I L R) H := by rw [hH]; exact hP
  have hS : va_S (box b 21) s.heap H locs := by rw [hH, hlo]; exact hS
  rw [show W p l e rmX11_calls s m av below meth c s.heap [] 0 0 QQ = W p l e rmX11_calls s m av below meth c H locs 0 0 QQ by rw [hH, hlo]]
  clear hH hlo
  clear hQQ
  show W p l e rmX11_calls s m av below meth c H locs 0 0 QQ (F0 m 0 ls [])
  refine lv_iload_n hx hb dX11_calls_0 rfl (lv_at hl 1 rfl) ?_
  refine lv_iconst (v := (0 : Int32)) hx hb dX11_calls_1 (by decide) ?_
  refine lv_iconst (v := (2 : Int32)) hx hb dX11_calls_2 (by decide) ?_
  obtain ⟨r1, e1, hf⟩ := bd1_o hf
  refine mm_Si (rest := []) hx hb hml hown hts hKK hP hS hA skX11_96 (k_X11_in l D ce b I L R hT x1 (0 : Int32) (2 : Int32)  r1 e1) rfl hl.1 rfl (Nat.le_of_ble_eq_true rfl) ⟨rfl, rfl⟩ ⟨Nat.le_of_ble_eq_true rfl, Nat.le_of_ble_eq_true rfl⟩ ⟨Nat.zero_le _, Nat.zero_le _⟩ dX11_calls_3 (fun H locs hP hT hS => ?_)
  refine lv_if_ne (tgt := 16) hx hb dX11_calls_6 (by decide) (fun c2 => ?_) (fun c2 => ?_)
  · have hf := ifF hf c2
    refine lv_aload_n hx hb dX11_calls_16 rfl (lv_at hl 0 rfl) ?_
    obtain ⟨I3, e3, hf⟩ := bd1_o hf
    refine mm_Vv (rest := []) hx hb hml hown hts hKK hP hS hA (kdM_lt h0 (Nat.succ_ne_zero _)) h0 (show vwCl[11]? = some (yX11_laysCalls.cls, TX11, 32) from rfl) vkX11_228 (k_X11_laysCalls l D ce b I L R hT x0 h0 I3 e3) rfl hl.1 rfl (Nat.le_of_ble_eq_true rfl) ⟨rfl, rfl⟩ ⟨Nat.le_of_ble_eq_true rfl, Nat.le_of_ble_eq_true rfl⟩ ⟨Nat.zero_le _, Nat.zero_le _⟩ dX11_calls_17 (fun H locs hP hT hS => ?_)
    refine lv_aload_n hx hb dX11_calls_20 rfl (lv_at hl 0 rfl) ?_
    refine lv_iload_n hx hb dX11_calls_21 rfl (lv_at hl 1 rfl) ?_
    obtain ⟨r4, I4, L4, e4, hf⟩ := bd3_o hf
    refine mm_Vi (rest := []) hx hb hml hown hts hKK hP hS hA (kdM_lt h0 (Nat.succ_ne_zero _)) h0 (show vwCl[11]? = some (yX11_callsTold.cls, TX11, 32) from rfl) vkX11_231 (k_X11_callsTold l D ce b I3 L R hT x0 x1 h0 r4 I4 L4 e4) rfl hl.1 rfl (Nat.le_of_ble_eq_true rfl) ⟨rfl, rfl⟩ ⟨Nat.le_of_ble_eq_true rfl, Nat.le_of_ble_eq_true rfl⟩ ⟨Nat.zero_le _, Nat.zero_le _⟩ dX11_calls_22 (fun H locs hP hT hS => ?_)
    exact hret r4 I4 L4 hf H locs ls _ dX11_calls_25 hP hT hS
  · have hf := ifT hf c2
    refine lv_aload_n hx hb dX11_calls_9 rfl (lv_at hl 0 rfl) ?_
    refine lv_bipush (v := (-2 : Int32)) hx hb dX11_calls_10 (by decide) ?_
    obtain ⟨r5, I5, e5, hf⟩ := bd2_o hf
    refine mm_Vi (rest := []) hx hb hml hown hts hKK hP hS hA (kdM_lt h0 (Nat.succ_ne_zero _)) h0 (show vwCl[11]? = some (yX11_refuses.cls, TX11, 32) from rfl) vkX11_80 (k_X11_refuses l D ce b I L R hT x0 (-2 : Int32) h0 r5 I5 e5) rfl hl.1 rfl (Nat.le_of_ble_eq_true rfl) ⟨rfl, rfl⟩ ⟨Nat.le_of_ble_eq_true rfl, Nat.le_of_ble_eq_true rfl⟩ ⟨Nat.zero_le _, Nat.zero_le _⟩ dX11_calls_12 (fun H locs hP hT hS => ?_)
    exact hret r5 I5 L hf H locs ls _ dX11_calls_15 hP hT hS
def rmX11_callTold : Room := { frames := 2, cells := 0, slots := 0, locals := 43 }
set_option maxHeartbeats 4000000 in
set_option maxRecDepth 100000 in
theorem k_X11_callTold (l : Launch) (D : va_G) (ce : Nat → ClassId) (b : Nat) (I : mI) (L : mL) (R : mR) (hT : WT kdM R) (x0 : Nat) (x1 : Int32) (x2 : Int32) (h0 : kdM x0 = 17) (o1 : Int32) (hf : f_X11_callTold x0 x1 x2 I R = some o1) : Met l yX11_callTold (Cond.code yX11_callTold cX11_callTold 5 (some .int) :: GW) rmX11_callTold (va_Pc [.ref (b + x0), .int x1, .int x2] (PW D ce b kdM lnM 21 I L R)) (va_Qi (fun r u => r = o1 ∧ u = (I, L, R)) (QW D ce b kdM lnM 21) (box b 21)) 0 0 (box b 21) := by
  refine Met.ofW (cc := cX11_callTold) (maxL := 5) (ret := (some .int)) (by decide) rfl ?_
  intro p e s m args below meth c s₁ B hml hv
  obtain ⟨rfl, hP, hKK⟩ := hv
  have hx := B.exec
  have hb := B.bytes
  have hr := B.returns
  have hts0 := atoms_spec (ws := Cond.code yX11_callTold cX11_callTold 5 (some .int) :: GW) B.pre
  have hts : ∀ w ∈ GW, w.before _ s = true := fun w h => hts0 w (List.mem_cons_of_mem _ h)
  clear hts0
  have hown : s.vm.findClass RX11 = some m.cls := findClass_of_methodNamed B.named
  have hlocks := B.notSynchronized
  have hA : ∀ q, box b 21 q → box b 21 q := fun _ h => h
  have hS : va_S (box b 21) s.heap s.heap [] := va_S.rf
  have hl := lv_entry ([.ref (b + x0), .int x1, .int x2]) (n := 5) (Nat.le_of_ble_eq_true rfl)
  rw [lg_entry_eq]
  generalize (lg_sl ([.ref (b + x0), .int x1, .int x2]) ++ List.replicate (5 - (lg_sl ([.ref (b + x0), .int x1, .int x2])).length) Slot.unset).toArray = ls at hl ⊢
  have hl : lv_has ls 5 [(0, .ref (b + x0)), (1, .int x1), (2, .int x2)] := hl
  generalize ([.ref (b + x0), .int x1, .int x2] : List Value).toArray = av at hts ⊢
  show W p l e rmX11_callTold s m av below meth c s.heap [] 0 0 _ _
  obtain ⟨QQ, hQQ⟩ : ∃ z, z = MQ below (va_Qi (fun r u => r = o1 ∧ u = (I, L, R)) (QW D ce b kdM lnM 21) (box b 21)) av s 0 0 (box b 21) := ⟨_, rfl⟩
  rw [← hQQ]
  have hret : ∀ (r : Int32), some r = some o1 → ∀ (H1 : Heap) (locs1 : List Loc) (ls1 : Array Slot) (pc1 : Nat), decode cX11_callTold pc1 = .ok (.ireturn, 1) → va_P D vwCl (wd ce b kdM lnM 21 I L R) H1 → WT kdM R → va_S (box b 21) s.heap H1 locs1 → W p l e rmX11_callTold s m av below meth c H1 locs1 0 0 QQ (F0 m pc1 ls1 [.int r]) := by
    intro r hq H1 locs1 ls1 pc1 hd hP hT hS
    cases hq
    rw [hQQ]
    exact mm_iret hx hb hr hlocks hP hT hS hd
  unfold f_X11_callTold at hf
  obtain ⟨H, hH⟩ : ∃ z, z = s.heap := ⟨_, rfl⟩
  obtain ⟨locs, hlo⟩ : ∃ z : List Loc, z = [] := ⟨_, rfl⟩
  have hP : va_P D vwCl (wd ce b kdM lnM 21 I L R) H := by rw [hH]; exact hP
  have hS : va_S (box b 21) s.heap H locs := by rw [hH, hlo]; exact hS
  rw [show W p l e rmX11_callTold s m av below meth c s.heap [] 0 0 QQ = W p l e rmX11_callTold s m av below meth c H locs 0 0 QQ by rw [hH, hlo]]
  clear hH hlo
  clear hQQ
  show W p l e rmX11_callTold s m av below meth c H locs 0 0 QQ (F0 m 0 ls [])
  refine lv_iload_n hx hb dX11_callTold_0 rfl (lv_at hl 2 rfl) ?_
  by_cases c1 : x2 = (0 : Int32)
  · have hf := ifT hf c1
    refine lv_tableIn (off := 27) (tgt := 28) hx hb dX11_callTold_1 (by rw [c1]; decide) (by rw [c1]; decide) (by rw [c1]; first | done | rfl) (by decide) ?_
    refine lv_aload_n hx hb dX11_callTold_28 rfl (lv_at hl 0 rfl) ?_
    have t2 : kdM (R x0 16) = 1 := wt hT h0 rfl
    refine mm_getr hx hb hts hown hKK hP fk11_16 (Nat.le_of_ble_eq_true rfl) lkX11_44 (kdM_lt h0 (Nat.succ_ne_zero _)) h0 (nM t2 (Nat.succ_ne_zero _)) dX11_callTold_29 ?_
    refine lv_iload_n hx hb dX11_callTold_32 rfl (lv_at hl 1 rfl) ?_
    obtain ⟨g3, hf⟩ := grd hf
    refine mm_iald hx hb hKK hP (kdM_lt t2 (Nat.succ_ne_zero _)) t2 g3 dX11_callTold_33 ?_
    exact hret (I (R x0 16) x1.toNatClampNeg) hf H locs ls _ dX11_callTold_34 hP hT hS
  · have hf := ifF hf c1
    by_cases c4 : x2 = (1 : Int32)
    · have hf := ifT hf c4
      refine lv_tableIn (off := 34) (tgt := 35) hx hb dX11_callTold_1 (by rw [c4]; decide) (by rw [c4]; decide) (by rw [c4]; first | done | rfl) (by decide) ?_
      refine lv_aload_n hx hb dX11_callTold_35 rfl (lv_at hl 0 rfl) ?_
      have t5 : kdM (R x0 0) = 1 := wt hT h0 rfl
      refine mm_getr hx hb hts hown hKK hP fk11_0 (Nat.le_of_ble_eq_true rfl) lkX11_7 (kdM_lt h0 (Nat.succ_ne_zero _)) h0 (nM t5 (Nat.succ_ne_zero _)) dX11_callTold_36 ?_
      refine lv_aload_n hx hb dX11_callTold_39 rfl (lv_at hl 0 rfl) ?_
      have t6 : kdM (R x0 17) = 1 := wt hT h0 rfl
      refine mm_getr hx hb hts hown hKK hP fk11_17 (Nat.le_of_ble_eq_true rfl) lkX11_47 (kdM_lt h0 (Nat.succ_ne_zero _)) h0 (nM t6 (Nat.succ_ne_zero _)) dX11_callTold_40 ?_
      refine lv_iload_n hx hb dX11_callTold_43 rfl (lv_at hl 1 rfl) ?_
      obtain ⟨g7, hf⟩ := grd hf
      refine mm_iald hx hb hKK hP (kdM_lt t6 (Nat.succ_ne_zero _)) t6 g7 dX11_callTold_44 ?_
      obtain ⟨r8, e8, hf⟩ := bd1_o hf
      refine mm_Si (rest := []) hx hb hml hown hts hKK hP hS hA skX11_207 (k_X11_longAt l D ce b I L R hT (R x0 0) (I (R x0 17) x1.toNatClampNeg) t5 r8 e8) rfl hl.1 rfl (Nat.le_of_ble_eq_true rfl) ⟨rfl, rfl⟩ ⟨Nat.le_of_ble_eq_true rfl, Nat.le_of_ble_eq_true rfl⟩ ⟨Nat.zero_le _, Nat.zero_le _⟩ dX11_callTold_45 (fun H locs hP hT hS => ?_)
      exact hret r8 hf H locs ls _ dX11_callTold_48 hP hT hS
    · have hf := ifF hf c4
      by_cases c9 : x2 = (2 : Int32)
      · have hf := ifT hf c9
        refine lv_tableIn (off := 48) (tgt := 49) hx hb dX11_callTold_1 (by rw [c9]; decide) (by rw [c9]; decide) (by rw [c9]; first | done | rfl) (by decide) ?_
        refine lv_aload_n hx hb dX11_callTold_49 rfl (lv_at hl 0 rfl) ?_
        have t10 : kdM (R x0 21) = 1 := wt hT h0 rfl
        refine mm_getr hx hb hts hown hKK hP fk11_21 (Nat.le_of_ble_eq_true rfl) lkX11_57 (kdM_lt h0 (Nat.succ_ne_zero _)) h0 (nM t10 (Nat.succ_ne_zero _)) dX11_callTold_50 ?_
        refine lv_iload_n hx hb dX11_callTold_53 rfl (lv_at hl 1 rfl) ?_
        obtain ⟨g11, hf⟩ := grd hf
        refine mm_iald hx hb hKK hP (kdM_lt t10 (Nat.succ_ne_zero _)) t10 g11 dX11_callTold_54 ?_
        exact hret (I (R x0 21) x1.toNatClampNeg) hf H locs ls _ dX11_callTold_55 hP hT hS
      · have hf := ifF hf c9
        have qc1 := lv_neT c1 (a := 0) rfl
        have qc4 := lv_neT c4 (a := 1) rfl
        have qc9 := lv_neT c9 (a := 2) rfl
        refine lv_tableOut (tgt := 56) hx hb dX11_callTold_1 (by omega) (by decide) ?_
        refine lv_iconst (v := (0 : Int32)) hx hb dX11_callTold_56 (by decide) ?_
        refine lv_istore_n (lv' := [(3, .int (0 : Int32)), (0, .ref (b + x0)), (1, .int x1), (2, .int x2)]) hx hb dX11_callTold_57 rfl hl (Nat.le_of_ble_eq_true rfl) rfl (fun ls hl => ?_)
        refine lv_iconst (v := (0 : Int32)) hx hb dX11_callTold_58 (by decide) ?_
        refine lv_istore (lv' := [(4, .int (0 : Int32)), (3, .int (0 : Int32)), (0, .ref (b + x0)), (1, .int x1), (2, .int x2)]) hx hb dX11_callTold_59 hl (Nat.le_of_ble_eq_true rfl) rfl (fun ls hl => ?_)
        have lp61 : ∀ (n : Nat) (x0 : Nat) (x1 : Int32) (x3 : Int32) (x4 : Int32) (I : mI) (L : mL) (R : mR) (a1 : Int32) (H : Heap) (locs : List Loc) (ls : Array Slot), va_P D vwCl (wd ce b kdM lnM 21 I L R) H → va_S (box b 21) s.heap H locs → WT kdM R → kdM x0 = 17 → lv_has ls 5 [(0, .ref (b + x0)), (1, .int x1), (3, .int x3), (4, .int x4)] → f_X11_callTold_L61 n x0 x1 x3 x4 I R = some a1 → (∀ (H1 : Heap) (locs1 : List Loc) (ls1 : Array Slot), va_P D vwCl (wd ce b kdM lnM 21 I L R) H1 → va_S (box b 21) s.heap H1 locs1 → lv_has ls1 5 [(3, .int a1)] → W p l e rmX11_callTold s m av below meth c H1 locs1 0 0 QQ (F0 m 99 ls1 [])) → W p l e rmX11_callTold s m av below meth c H locs 0 0 QQ (F0 m 61 ls []) := by
          intro n
          induction n with
          | zero =>
            intro x0 x1 x3 x4 I L R a1 H locs ls hP hS hT h0 hl hf kx
            exact absurd (show (none : Option (Int32)) = some _ from hf) (by simp)
          | succ n ih =>
            intro x0 x1 x3 x4 I L R a1 H locs ls hP hS hT h0 hl hf kx
            rw [f_X11_callTold_L61] at hf
            refine lv_iload hx hb dX11_callTold_61 (lv_at hl 3 rfl) ?_
            refine lv_aload_n hx hb dX11_callTold_63 rfl (lv_at hl 0 rfl) ?_
            refine mm_geti hx hb hts hown hKK hP fk11_18 (Or.inl rfl) lkX11_213 (kdM_lt h0 (Nat.succ_ne_zero _)) h0 dX11_callTold_64 ?_
            refine lv_icmp_ge (tgt := 99) hx hb dX11_callTold_67 (by decide) (fun c12 => ?_) (fun c12 => ?_)
            · have hf := ifT hf c12
              cases hf
              exact kx H locs ls hP hS (lv_sub hl [2] rfl)
            · have hf := ifF hf c12
              refine lv_iload_n hx hb dX11_callTold_70 rfl (lv_at hl 2 rfl) ?_
              refine lv_aload_n hx hb dX11_callTold_71 rfl (lv_at hl 0 rfl) ?_
              have t13 : kdM (R x0 19) = 3 := wt hT h0 rfl
              refine mm_getr hx hb hts hown hKK hP fk11_19 (Nat.le_of_ble_eq_true rfl) lkX11_50 (kdM_lt h0 (Nat.succ_ne_zero _)) h0 (nM t13 (Nat.succ_ne_zero _)) dX11_callTold_72 ?_
              refine lv_bipush (v := (60 : Int32)) hx hb dX11_callTold_75 (by decide) ?_
              refine lv_iload_n hx hb dX11_callTold_77 rfl (lv_at hl 1 rfl) ?_
              refine lv_imul hx hb dX11_callTold_78 ?_
              refine lv_iload hx hb dX11_callTold_79 (lv_at hl 3 rfl) ?_
              refine lv_iadd hx hb dX11_callTold_81 ?_
              obtain ⟨g14, hf⟩ := grd hf
              refine mm_zald hx hb hKK hP (kdM_lt t13 (Nat.succ_ne_zero _)) t13 g14 dX11_callTold_82 ?_
              refine jnE hf (fun j91_15 ej_15 hf => ?_)
              have hJ91_15 : ∀ (w1_15 : Int32) (H : Heap) (locs : List Loc) (ls : Array Slot), va_P D vwCl (wd ce b kdM lnM 21 I L R) H → va_S (box b 21) s.heap H locs → lv_has ls 5 [(0, .ref (b + x0)), (1, .int x1), (4, .int x4)] → j91_15 w1_15 = some a1 → W p l e rmX11_callTold s m av below meth c H locs 0 0 QQ (F0 m 91 ls [.int w1_15, .int x3]) := by
                intro w1_15 H locs ls hP hS  hl hf
                rw [ej_15] at hf
                try dsimp only at hf
                refine lv_iadd hx hb dX11_callTold_91 ?_
                refine lv_istore_n (lv' := [(3, .int (x3 + w1_15)), (0, .ref (b + x0)), (1, .int x1), (4, .int x4)]) hx hb dX11_callTold_92 rfl hl (Nat.le_of_ble_eq_true rfl) rfl (fun ls hl => ?_)
                refine lv_iinc (v := (x4 + (1 : Int32))) (lv' := [(4, .int (x4 + (1 : Int32))), (3, .int (x3 + w1_15)), (0, .ref (b + x0)), (1, .int x1)]) hx hb dX11_callTold_93 hl (k := 3) rfl rfl (Nat.le_of_ble_eq_true rfl) rfl (fun ls hl => ?_)
                refine lv_goto (tgt := 61) hx hb dX11_callTold_96 (by decide) ?_
                exact ih x0 x1 (x3 + w1_15) (x4 + (1 : Int32)) I L R a1 H locs ls hP hS hT h0 (lv_sub hl [2, 3, 1, 0] rfl) hf kx
              clear ej_15
              refine lv_if_eq (tgt := 90) hx hb dX11_callTold_83 (by decide) (fun c16 => ?_) (fun c16 => ?_)
              · have hf := ifT hf c16
                refine lv_iconst (v := (0 : Int32)) hx hb dX11_callTold_90 (by decide) ?_
                exact hJ91_15 (0 : Int32) H locs ls hP hS  (lv_sub hl [0, 1, 3] rfl) hf
              · have hf := ifF hf c16
                refine lv_iconst (v := (1 : Int32)) hx hb dX11_callTold_86 (by decide) ?_
                refine lv_goto (tgt := 91) hx hb dX11_callTold_87 (by decide) ?_
                exact hJ91_15 (1 : Int32) H locs ls hP hS  (lv_sub hl [0, 1, 3] rfl) hf
        obtain ⟨y3_17, e_17, hf⟩ := bd1_o hf
        refine lp61 FU x0 x1 (0 : Int32) (0 : Int32) I L R y3_17 H locs ls hP hS hT h0 (lv_sub hl [2, 3, 1, 0] rfl) e_17 (fun H locs ls hP hS hl => ?_)
        refine lv_iload_n hx hb dX11_callTold_99 rfl (lv_at hl 0 rfl) ?_
        exact hret y3_17 hf H locs ls _ dX11_callTold_100 hP hT hS
def rmX11_call : Room := { frames := 5, cells := 0, slots := 0, locals := 111 }
set_option maxHeartbeats 4000000 in
set_option maxRecDepth 100000 in
theorem k_X11_call (l : Launch) (D : va_G) (ce : Nat → ClassId) (b : Nat) (I : mI) (L : mL) (R : mR) (hT : WT kdM R) (x0 : Nat) (x1 : Int32) (x2 : Int32) (h0 : kdM x0 = 17) (o1 : Int32) (o2 : mI) (hf : f_X11_call x0 x1 x2 I R = some (o1, o2)) : Met l yX11_call (Cond.code yX11_call cX11_call 3 (some .int) :: GW) rmX11_call (va_Pc [.ref (b + x0), .int x1, .int x2] (PW D ce b kdM lnM 21 I L R)) (va_Qi (fun r u => r = o1 ∧ u = (o2, L, R)) (QW D ce b kdM lnM 21) (box b 21)) 0 0 (box b 21) := by
  refine Met.ofW (cc := cX11_call) (maxL := 3) (ret := (some .int)) (by decide) rfl ?_
  intro p e s m args below meth c s₁ B hml hv
  obtain ⟨rfl, hP, hKK⟩ := hv
  have hx := B.exec
  have hb := B.bytes
  have hr := B.returns
  have hts0 := atoms_spec (ws := Cond.code yX11_call cX11_call 3 (some .int) :: GW) B.pre
  have hts : ∀ w ∈ GW, w.before _ s = true := fun w h => hts0 w (List.mem_cons_of_mem _ h)
  clear hts0
  have hown : s.vm.findClass RX11 = some m.cls := findClass_of_methodNamed B.named
  have hlocks := B.notSynchronized
  have hA : ∀ q, box b 21 q → box b 21 q := fun _ h => h
  have hS : va_S (box b 21) s.heap s.heap [] := va_S.rf
  have hl := lv_entry ([.ref (b + x0), .int x1, .int x2]) (n := 3) (Nat.le_of_ble_eq_true rfl)
  rw [lg_entry_eq]
  generalize (lg_sl ([.ref (b + x0), .int x1, .int x2]) ++ List.replicate (3 - (lg_sl ([.ref (b + x0), .int x1, .int x2])).length) Slot.unset).toArray = ls at hl ⊢
  have hl : lv_has ls 3 [(0, .ref (b + x0)), (1, .int x1), (2, .int x2)] := hl
  generalize ([.ref (b + x0), .int x1, .int x2] : List Value).toArray = av at hts ⊢
  show W p l e rmX11_call s m av below meth c s.heap [] 0 0 _ _
  obtain ⟨QQ, hQQ⟩ : ∃ z, z = MQ below (va_Qi (fun r u => r = o1 ∧ u = (o2, L, R)) (QW D ce b kdM lnM 21) (box b 21)) av s 0 0 (box b 21) := ⟨_, rfl⟩
  rw [← hQQ]
  have hret : ∀ (r : Int32) (I1 : mI), some (r, I1) = some (o1, o2) → ∀ (H1 : Heap) (locs1 : List Loc) (ls1 : Array Slot) (pc1 : Nat), decode cX11_call pc1 = .ok (.ireturn, 1) → va_P D vwCl (wd ce b kdM lnM 21 I1 L R) H1 → WT kdM R → va_S (box b 21) s.heap H1 locs1 → W p l e rmX11_call s m av below meth c H1 locs1 0 0 QQ (F0 m pc1 ls1 [.int r]) := by
    intro r I1 hq H1 locs1 ls1 pc1 hd hP hT hS
    cases hq
    rw [hQQ]
    exact mm_iret hx hb hr hlocks hP hT hS hd
  unfold f_X11_call at hf
  obtain ⟨H, hH⟩ : ∃ z, z = s.heap := ⟨_, rfl⟩
  obtain ⟨locs, hlo⟩ : ∃ z : List Loc, z = [] := ⟨_, rfl⟩
  have hP : va_P D vwCl (wd ce b kdM lnM 21 I L R) H := by rw [hH]; exact hP
  have hS : va_S (box b 21) s.heap H locs := by rw [hH, hlo]; exact hS
  rw [show W p l e rmX11_call s m av below meth c s.heap [] 0 0 QQ = W p l e rmX11_call s m av below meth c H locs 0 0 QQ by rw [hH, hlo]]
  clear hH hlo
  clear hQQ
  show W p l e rmX11_call s m av below meth c H locs 0 0 QQ (F0 m 0 ls [])
  refine lv_aload_n hx hb dX11_call_0 rfl (lv_at hl 0 rfl) ?_
  obtain ⟨I1, e1, hf⟩ := bd1_o hf
  refine mm_Vv (rest := []) hx hb hml hown hts hKK hP hS hA (kdM_lt h0 (Nat.succ_ne_zero _)) h0 (show vwCl[11]? = some (yX11_laysCalls.cls, TX11, 32) from rfl) vkX11_228 (k_X11_laysCalls l D ce b I L R hT x0 h0 I1 e1) rfl hl.1 rfl (Nat.le_of_ble_eq_true rfl) ⟨rfl, rfl⟩ ⟨Nat.le_of_ble_eq_true rfl, Nat.le_of_ble_eq_true rfl⟩ ⟨Nat.zero_le _, Nat.zero_le _⟩ dX11_call_1 (fun H locs hP hT hS => ?_)
  refine lv_iload_n hx hb dX11_call_4 rfl (lv_at hl 1 rfl) ?_
  refine lv_iconst (v := (0 : Int32)) hx hb dX11_call_5 (by decide) ?_
  refine lv_aload_n hx hb dX11_call_6 rfl (lv_at hl 0 rfl) ?_
  refine mm_geti hx hb hts hown hKK hP fk11_18 (Or.inl rfl) lkX11_213 (kdM_lt h0 (Nat.succ_ne_zero _)) h0 dX11_call_7 ?_
  refine lv_iconst (v := (1 : Int32)) hx hb dX11_call_10 (by decide) ?_
  refine lv_isub hx hb dX11_call_11 ?_
  obtain ⟨r2, e2, hf⟩ := bd1_o hf
  refine mm_Si (rest := []) hx hb hml hown hts hKK hP hS hA skX11_96 (k_X11_in l D ce b I1 L R hT x1 (0 : Int32) ((I1 x0 18) - (1 : Int32))  r2 e2) rfl hl.1 rfl (Nat.le_of_ble_eq_true rfl) ⟨rfl, rfl⟩ ⟨Nat.le_of_ble_eq_true rfl, Nat.le_of_ble_eq_true rfl⟩ ⟨Nat.zero_le _, Nat.zero_le _⟩ dX11_call_12 (fun H locs hP hT hS => ?_)
  refine jnE hf (fun j36_3 ej_3 hf => ?_)
  have hJ36_3 : ∀ (H : Heap) (locs : List Loc) (ls : Array Slot), va_P D vwCl (wd ce b kdM lnM 21 I1 L R) H → va_S (box b 21) s.heap H locs → lv_has ls 3 [(0, .ref (b + x0))] → j36_3  = some (o1, o2) → W p l e rmX11_call s m av below meth c H locs 0 0 QQ (F0 m 36 ls []) := by
    intro  H locs ls hP hS  hl hf
    rw [ej_3] at hf
    try dsimp only at hf
    refine lv_aload_n hx hb dX11_call_36 rfl (lv_at hl 0 rfl) ?_
    refine lv_bipush (v := (-2 : Int32)) hx hb dX11_call_37 (by decide) ?_
    obtain ⟨r4, I4, e4, hf⟩ := bd2_o hf
    refine mm_Vi (rest := []) hx hb hml hown hts hKK hP hS hA (kdM_lt h0 (Nat.succ_ne_zero _)) h0 (show vwCl[11]? = some (yX11_refuses.cls, TX11, 32) from rfl) vkX11_80 (k_X11_refuses l D ce b I1 L R hT x0 (-2 : Int32) h0 r4 I4 e4) rfl hl.1 rfl (Nat.le_of_ble_eq_true rfl) ⟨rfl, rfl⟩ ⟨Nat.le_of_ble_eq_true rfl, Nat.le_of_ble_eq_true rfl⟩ ⟨Nat.zero_le _, Nat.zero_le _⟩ dX11_call_39 (fun H locs hP hT hS => ?_)
    exact hret r4 I4 hf H locs ls _ dX11_call_42 hP hT hS
  clear ej_3
  refine lv_if_eq (tgt := 36) hx hb dX11_call_15 (by decide) (fun c5 => ?_) (fun c5 => ?_)
  · have hf := ifT hf c5
    exact hJ36_3  H locs ls hP hS  (lv_sub hl [0] rfl) hf
  · have hf := ifF hf c5
    refine lv_iload_n hx hb dX11_call_18 rfl (lv_at hl 2 rfl) ?_
    refine lv_iconst (v := (0 : Int32)) hx hb dX11_call_19 (by decide) ?_
    refine lv_iconst (v := (3 : Int32)) hx hb dX11_call_20 (by decide) ?_
    obtain ⟨r6, e6, hf⟩ := bd1_o hf
    refine mm_Si (rest := []) hx hb hml hown hts hKK hP hS hA skX11_96 (k_X11_in l D ce b I1 L R hT x2 (0 : Int32) (3 : Int32)  r6 e6) rfl hl.1 rfl (Nat.le_of_ble_eq_true rfl) ⟨rfl, rfl⟩ ⟨Nat.le_of_ble_eq_true rfl, Nat.le_of_ble_eq_true rfl⟩ ⟨Nat.zero_le _, Nat.zero_le _⟩ dX11_call_21 (fun H locs hP hT hS => ?_)
    refine lv_if_eq (tgt := 36) hx hb dX11_call_24 (by decide) (fun c7 => ?_) (fun c7 => ?_)
    · have hf := ifT hf c7
      exact hJ36_3  H locs ls hP hS  (lv_sub hl [0] rfl) hf
    · have hf := ifF hf c7
      refine lv_aload_n hx hb dX11_call_27 rfl (lv_at hl 0 rfl) ?_
      refine lv_iload_n hx hb dX11_call_28 rfl (lv_at hl 1 rfl) ?_
      refine lv_iload_n hx hb dX11_call_29 rfl (lv_at hl 2 rfl) ?_
      obtain ⟨r8, e8, hf⟩ := bd1_o hf
      refine mm_Vi (rest := []) hx hb hml hown hts hKK hP hS hA (kdM_lt h0 (Nat.succ_ne_zero _)) h0 (show vwCl[11]? = some (yX11_callTold.cls, TX11, 32) from rfl) vkX11_234 (k_X11_callTold l D ce b I1 L R hT x0 x1 x2 h0 r8 e8) rfl hl.1 rfl (Nat.le_of_ble_eq_true rfl) ⟨rfl, rfl⟩ ⟨Nat.le_of_ble_eq_true rfl, Nat.le_of_ble_eq_true rfl⟩ ⟨Nat.zero_le _, Nat.zero_le _⟩ dX11_call_30 (fun H locs hP hT hS => ?_)
      refine lv_goto (tgt := 42) hx hb dX11_call_33 (by decide) ?_
      exact hret r8 I1 hf H locs ls _ dX11_call_42 hP hT hS
def rmX11_follows : Room := { frames := 5, cells := 0, slots := 0, locals := 111 }
set_option maxHeartbeats 4000000 in
set_option maxRecDepth 100000 in
theorem k_X11_follows (l : Launch) (D : va_G) (ce : Nat → ClassId) (b : Nat) (I : mI) (L : mL) (R : mR) (hT : WT kdM R) (x0 : Nat) (x1 : Int32) (x2 : Int32) (h0 : kdM x0 = 17) (o1 : Int32) (o2 : mI) (hf : f_X11_follows x0 x1 x2 I R = some (o1, o2)) : Met l yX11_follows (Cond.code yX11_follows cX11_follows 3 (some .int) :: GW) rmX11_follows (va_Pc [.ref (b + x0), .int x1, .int x2] (PW D ce b kdM lnM 21 I L R)) (va_Qi (fun r u => r = o1 ∧ u = (o2, L, R)) (QW D ce b kdM lnM 21) (box b 21)) 0 0 (box b 21) := by
  refine Met.ofW (cc := cX11_follows) (maxL := 3) (ret := (some .int)) (by decide) rfl ?_
  intro p e s m args below meth c s₁ B hml hv
  obtain ⟨rfl, hP, hKK⟩ := hv
  have hx := B.exec
  have hb := B.bytes
  have hr := B.returns
  have hts0 := atoms_spec (ws := Cond.code yX11_follows cX11_follows 3 (some .int) :: GW) B.pre
  have hts : ∀ w ∈ GW, w.before _ s = true := fun w h => hts0 w (List.mem_cons_of_mem _ h)
  clear hts0
  have hown : s.vm.findClass RX11 = some m.cls := findClass_of_methodNamed B.named
  have hlocks := B.notSynchronized
  have hA : ∀ q, box b 21 q → box b 21 q := fun _ h => h
  have hS : va_S (box b 21) s.heap s.heap [] := va_S.rf
  have hl := lv_entry ([.ref (b + x0), .int x1, .int x2]) (n := 3) (Nat.le_of_ble_eq_true rfl)
  rw [lg_entry_eq]
  generalize (lg_sl ([.ref (b + x0), .int x1, .int x2]) ++ List.replicate (3 - (lg_sl ([.ref (b + x0), .int x1, .int x2])).length) Slot.unset).toArray = ls at hl ⊢
  have hl : lv_has ls 3 [(0, .ref (b + x0)), (1, .int x1), (2, .int x2)] := hl
  generalize ([.ref (b + x0), .int x1, .int x2] : List Value).toArray = av at hts ⊢
  show W p l e rmX11_follows s m av below meth c s.heap [] 0 0 _ _
  obtain ⟨QQ, hQQ⟩ : ∃ z, z = MQ below (va_Qi (fun r u => r = o1 ∧ u = (o2, L, R)) (QW D ce b kdM lnM 21) (box b 21)) av s 0 0 (box b 21) := ⟨_, rfl⟩
  rw [← hQQ]
  have hret : ∀ (r : Int32) (I1 : mI), some (r, I1) = some (o1, o2) → ∀ (H1 : Heap) (locs1 : List Loc) (ls1 : Array Slot) (pc1 : Nat), decode cX11_follows pc1 = .ok (.ireturn, 1) → va_P D vwCl (wd ce b kdM lnM 21 I1 L R) H1 → WT kdM R → va_S (box b 21) s.heap H1 locs1 → W p l e rmX11_follows s m av below meth c H1 locs1 0 0 QQ (F0 m pc1 ls1 [.int r]) := by
    intro r I1 hq H1 locs1 ls1 pc1 hd hP hT hS
    cases hq
    rw [hQQ]
    exact mm_iret hx hb hr hlocks hP hT hS hd
  unfold f_X11_follows at hf
  obtain ⟨H, hH⟩ : ∃ z, z = s.heap := ⟨_, rfl⟩
  obtain ⟨locs, hlo⟩ : ∃ z : List Loc, z = [] := ⟨_, rfl⟩
  have hP : va_P D vwCl (wd ce b kdM lnM 21 I L R) H := by rw [hH]; exact hP
  have hS : va_S (box b 21) s.heap H locs := by rw [hH, hlo]; exact hS
  rw [show W p l e rmX11_follows s m av below meth c s.heap [] 0 0 QQ = W p l e rmX11_follows s m av below meth c H locs 0 0 QQ by rw [hH, hlo]]
  clear hH hlo
  clear hQQ
  show W p l e rmX11_follows s m av below meth c H locs 0 0 QQ (F0 m 0 ls [])
  refine lv_aload_n hx hb dX11_follows_0 rfl (lv_at hl 0 rfl) ?_
  obtain ⟨I1, e1, hf⟩ := bd1_o hf
  refine mm_Vv (rest := []) hx hb hml hown hts hKK hP hS hA (kdM_lt h0 (Nat.succ_ne_zero _)) h0 (show vwCl[11]? = some (yX11_laysCalls.cls, TX11, 32) from rfl) vkX11_228 (k_X11_laysCalls l D ce b I L R hT x0 h0 I1 e1) rfl hl.1 rfl (Nat.le_of_ble_eq_true rfl) ⟨rfl, rfl⟩ ⟨Nat.le_of_ble_eq_true rfl, Nat.le_of_ble_eq_true rfl⟩ ⟨Nat.zero_le _, Nat.zero_le _⟩ dX11_follows_1 (fun H locs hP hT hS => ?_)
  refine lv_iload_n hx hb dX11_follows_4 rfl (lv_at hl 1 rfl) ?_
  refine lv_iconst (v := (0 : Int32)) hx hb dX11_follows_5 (by decide) ?_
  refine lv_aload_n hx hb dX11_follows_6 rfl (lv_at hl 0 rfl) ?_
  refine mm_geti hx hb hts hown hKK hP fk11_18 (Or.inl rfl) lkX11_213 (kdM_lt h0 (Nat.succ_ne_zero _)) h0 dX11_follows_7 ?_
  refine lv_iconst (v := (1 : Int32)) hx hb dX11_follows_10 (by decide) ?_
  refine lv_isub hx hb dX11_follows_11 ?_
  obtain ⟨r2, e2, hf⟩ := bd1_o hf
  refine mm_Si (rest := []) hx hb hml hown hts hKK hP hS hA skX11_96 (k_X11_in l D ce b I1 L R hT x1 (0 : Int32) ((I1 x0 18) - (1 : Int32))  r2 e2) rfl hl.1 rfl (Nat.le_of_ble_eq_true rfl) ⟨rfl, rfl⟩ ⟨Nat.le_of_ble_eq_true rfl, Nat.le_of_ble_eq_true rfl⟩ ⟨Nat.zero_le _, Nat.zero_le _⟩ dX11_follows_12 (fun H locs hP hT hS => ?_)
  refine jnE hf (fun j32_3 ej_3 hf => ?_)
  have hJ32_3 : ∀ (H : Heap) (locs : List Loc) (ls : Array Slot), va_P D vwCl (wd ce b kdM lnM 21 I1 L R) H → va_S (box b 21) s.heap H locs → lv_has ls 3 [(0, .ref (b + x0))] → j32_3  = some (o1, o2) → W p l e rmX11_follows s m av below meth c H locs 0 0 QQ (F0 m 32 ls []) := by
    intro  H locs ls hP hS  hl hf
    rw [ej_3] at hf
    try dsimp only at hf
    refine lv_aload_n hx hb dX11_follows_32 rfl (lv_at hl 0 rfl) ?_
    refine lv_bipush (v := (-2 : Int32)) hx hb dX11_follows_33 (by decide) ?_
    obtain ⟨r4, I4, e4, hf⟩ := bd2_o hf
    refine mm_Vi (rest := []) hx hb hml hown hts hKK hP hS hA (kdM_lt h0 (Nat.succ_ne_zero _)) h0 (show vwCl[11]? = some (yX11_refuses.cls, TX11, 32) from rfl) vkX11_80 (k_X11_refuses l D ce b I1 L R hT x0 (-2 : Int32) h0 r4 I4 e4) rfl hl.1 rfl (Nat.le_of_ble_eq_true rfl) ⟨rfl, rfl⟩ ⟨Nat.le_of_ble_eq_true rfl, Nat.le_of_ble_eq_true rfl⟩ ⟨Nat.zero_le _, Nat.zero_le _⟩ dX11_follows_35 (fun H locs hP hT hS => ?_)
    exact hret r4 I4 hf H locs ls _ dX11_follows_38 hP hT hS
  clear ej_3
  refine lv_if_eq (tgt := 32) hx hb dX11_follows_15 (by decide) (fun c5 => ?_) (fun c5 => ?_)
  · have hf := ifT hf c5
    exact hJ32_3  H locs ls hP hS  (lv_sub hl [0] rfl) hf
  · have hf := ifF hf c5
    refine lv_iload_n hx hb dX11_follows_18 rfl (lv_at hl 2 rfl) ?_
    refine lv_iconst (v := (0 : Int32)) hx hb dX11_follows_19 (by decide) ?_
    refine lv_aload_n hx hb dX11_follows_20 rfl (lv_at hl 0 rfl) ?_
    refine mm_geti hx hb hts hown hKK hP fk11_18 (Or.inl rfl) lkX11_213 (kdM_lt h0 (Nat.succ_ne_zero _)) h0 dX11_follows_21 ?_
    refine lv_iconst (v := (1 : Int32)) hx hb dX11_follows_24 (by decide) ?_
    refine lv_isub hx hb dX11_follows_25 ?_
    obtain ⟨r6, e6, hf⟩ := bd1_o hf
    refine mm_Si (rest := []) hx hb hml hown hts hKK hP hS hA skX11_96 (k_X11_in l D ce b I1 L R hT x2 (0 : Int32) ((I1 x0 18) - (1 : Int32))  r6 e6) rfl hl.1 rfl (Nat.le_of_ble_eq_true rfl) ⟨rfl, rfl⟩ ⟨Nat.le_of_ble_eq_true rfl, Nat.le_of_ble_eq_true rfl⟩ ⟨Nat.zero_le _, Nat.zero_le _⟩ dX11_follows_26 (fun H locs hP hT hS => ?_)
    refine lv_if_ne (tgt := 39) hx hb dX11_follows_29 (by decide) (fun c7 => ?_) (fun c7 => ?_)
    · have hf := ifF hf c7
      refine lv_aload_n hx hb dX11_follows_39 rfl (lv_at hl 0 rfl) ?_
      have t8 : kdM (R x0 19) = 3 := wt hT h0 rfl
      refine mm_getr hx hb hts hown hKK hP fk11_19 (Nat.le_of_ble_eq_true rfl) lkX11_50 (kdM_lt h0 (Nat.succ_ne_zero _)) h0 (nM t8 (Nat.succ_ne_zero _)) dX11_follows_40 ?_
      refine lv_bipush (v := (60 : Int32)) hx hb dX11_follows_43 (by decide) ?_
      refine lv_iload_n hx hb dX11_follows_45 rfl (lv_at hl 1 rfl) ?_
      refine lv_imul hx hb dX11_follows_46 ?_
      refine lv_iload_n hx hb dX11_follows_47 rfl (lv_at hl 2 rfl) ?_
      refine lv_iadd hx hb dX11_follows_48 ?_
      obtain ⟨g9, hf⟩ := grd hf
      refine mm_zald hx hb hKK hP (kdM_lt t8 (Nat.succ_ne_zero _)) t8 g9 dX11_follows_49 ?_
      refine lv_if_eq (tgt := 57) hx hb dX11_follows_50 (by decide) (fun c10 => ?_) (fun c10 => ?_)
      · have hf := ifT hf c10
        refine lv_iconst (v := (0 : Int32)) hx hb dX11_follows_57 (by decide) ?_
        exact hret (0 : Int32) I1 hf H locs ls _ dX11_follows_58 hP hT hS
      · have hf := ifF hf c10
        refine lv_iconst (v := (1 : Int32)) hx hb dX11_follows_53 (by decide) ?_
        refine lv_goto (tgt := 58) hx hb dX11_follows_54 (by decide) ?_
        exact hret (1 : Int32) I1 hf H locs ls _ dX11_follows_58 hP hT hS
    · have hf := ifT hf c7
      exact hJ32_3  H locs ls hP hS  (lv_sub hl [0] rfl) hf
def rmX11_lighter : Room := { frames := 6, cells := 0, slots := 0, locals := 147 }
set_option maxHeartbeats 4000000 in
set_option maxRecDepth 100000 in
theorem k_X11_lighter (l : Launch) (D : va_G) (ce : Nat → ClassId) (b : Nat) (I : mI) (L : mL) (R : mR) (hT : WT kdM R) (x0 : Nat) (x1 : Int32) (h0 : kdM x0 = 17) (o1 : Int32) (o2 : mI) (o3 : mL) (hf : f_X11_lighter x0 x1 I L R = some (o1, o2, o3)) : Met l yX11_lighter (Cond.code yX11_lighter cX11_lighter 2 (some .int) :: GW) rmX11_lighter (va_Pc [.ref (b + x0), .int x1] (PW D ce b kdM lnM 21 I L R)) (va_Qi (fun r u => r = o1 ∧ u = (o2, o3, R)) (QW D ce b kdM lnM 21) (box b 21)) 0 0 (box b 21) := by
  refine Met.ofW (cc := cX11_lighter) (maxL := 2) (ret := (some .int)) (by decide) rfl ?_
  intro p e s m args below meth c s₁ B hml hv
  obtain ⟨rfl, hP, hKK⟩ := hv
  have hx := B.exec
  have hb := B.bytes
  have hr := B.returns
  have hts0 := atoms_spec (ws := Cond.code yX11_lighter cX11_lighter 2 (some .int) :: GW) B.pre
  have hts : ∀ w ∈ GW, w.before _ s = true := fun w h => hts0 w (List.mem_cons_of_mem _ h)
  clear hts0
  have hown : s.vm.findClass RX11 = some m.cls := findClass_of_methodNamed B.named
  have hlocks := B.notSynchronized
  have hA : ∀ q, box b 21 q → box b 21 q := fun _ h => h
  have hS : va_S (box b 21) s.heap s.heap [] := va_S.rf
  have hl := lv_entry ([.ref (b + x0), .int x1]) (n := 2) (Nat.le_of_ble_eq_true rfl)
  rw [lg_entry_eq]
  generalize (lg_sl ([.ref (b + x0), .int x1]) ++ List.replicate (2 - (lg_sl ([.ref (b + x0), .int x1])).length) Slot.unset).toArray = ls at hl ⊢
  have hl : lv_has ls 2 [(0, .ref (b + x0)), (1, .int x1)] := hl
  generalize ([.ref (b + x0), .int x1] : List Value).toArray = av at hts ⊢
  show W p l e rmX11_lighter s m av below meth c s.heap [] 0 0 _ _
  obtain ⟨QQ, hQQ⟩ : ∃ z, z = MQ below (va_Qi (fun r u => r = o1 ∧ u = (o2, o3, R)) (QW D ce b kdM lnM 21) (box b 21)) av s 0 0 (box b 21) := ⟨_, rfl⟩
  rw [← hQQ]
  have hret : ∀ (r : Int32) (I1 : mI) (L1 : mL), some (r, I1, L1) = some (o1, o2, o3) → ∀ (H1 : Heap) (locs1 : List Loc) (ls1 : Array Slot) (pc1 : Nat), decode cX11_lighter pc1 = .ok (.ireturn, 1) → va_P D vwCl (wd ce b kdM lnM 21 I1 L1 R) H1 → WT kdM R → va_S (box b 21) s.heap H1 locs1 → W p l e rmX11_lighter s m av below meth c H1 locs1 0 0 QQ (F0 m pc1 ls1 [.int r]) := by
    intro r I1 L1 hq H1 locs1 ls1 pc1 hd hP hT hS
    cases hq
    rw [hQQ]
    exact mm_iret hx hb hr hlocks hP hT hS hd
  unfold f_X11_lighter at hf
  obtain ⟨H, hH⟩ : ∃ z, z = s.heap := ⟨_, rfl⟩
  obtain ⟨locs, hlo⟩ : ∃ z : List Loc, z = [] := ⟨_, rfl⟩
  have hP : va_P D vwCl (wd ce b kdM lnM 21 I L R) H := by rw [hH]; exact hP
  have hS : va_S (box b 21) s.heap H locs := by rw [hH, hlo]; exact hS
  rw [show W p l e rmX11_lighter s m av below meth c s.heap [] 0 0 QQ = W p l e rmX11_lighter s m av below meth c H locs 0 0 QQ by rw [hH, hlo]]
  clear hH hlo
  clear hQQ
  show W p l e rmX11_lighter s m av below meth c H locs 0 0 QQ (F0 m 0 ls [])
  refine lv_aload_n hx hb dX11_lighter_0 rfl (lv_at hl 0 rfl) ?_
  obtain ⟨I1, e1, hf⟩ := bd1_o hf
  refine mm_Vv (rest := []) hx hb hml hown hts hKK hP hS hA (kdM_lt h0 (Nat.succ_ne_zero _)) h0 (show vwCl[11]? = some (yX11_laysCalls.cls, TX11, 32) from rfl) vkX11_228 (k_X11_laysCalls l D ce b I L R hT x0 h0 I1 e1) rfl hl.1 rfl (Nat.le_of_ble_eq_true rfl) ⟨rfl, rfl⟩ ⟨Nat.le_of_ble_eq_true rfl, Nat.le_of_ble_eq_true rfl⟩ ⟨Nat.zero_le _, Nat.zero_le _⟩ dX11_lighter_1 (fun H locs hP hT hS => ?_)
  refine lv_iload_n hx hb dX11_lighter_4 rfl (lv_at hl 1 rfl) ?_
  refine lv_iconst (v := (0 : Int32)) hx hb dX11_lighter_5 (by decide) ?_
  refine lv_aload_n hx hb dX11_lighter_6 rfl (lv_at hl 0 rfl) ?_
  refine mm_geti hx hb hts hown hKK hP fk11_22 (Or.inl rfl) lkX11_210 (kdM_lt h0 (Nat.succ_ne_zero _)) h0 dX11_lighter_7 ?_
  refine lv_iconst (v := (1 : Int32)) hx hb dX11_lighter_10 (by decide) ?_
  refine lv_isub hx hb dX11_lighter_11 ?_
  obtain ⟨r2, e2, hf⟩ := bd1_o hf
  refine mm_Si (rest := []) hx hb hml hown hts hKK hP hS hA skX11_96 (k_X11_in l D ce b I1 L R hT x1 (0 : Int32) ((I1 x0 22) - (1 : Int32))  r2 e2) rfl hl.1 rfl (Nat.le_of_ble_eq_true rfl) ⟨rfl, rfl⟩ ⟨Nat.le_of_ble_eq_true rfl, Nat.le_of_ble_eq_true rfl⟩ ⟨Nat.zero_le _, Nat.zero_le _⟩ dX11_lighter_12 (fun H locs hP hT hS => ?_)
  refine lv_if_eq (tgt := 26) hx hb dX11_lighter_15 (by decide) (fun c3 => ?_) (fun c3 => ?_)
  · have hf := ifT hf c3
    refine lv_aload_n hx hb dX11_lighter_26 rfl (lv_at hl 0 rfl) ?_
    refine lv_bipush (v := (-2 : Int32)) hx hb dX11_lighter_27 (by decide) ?_
    obtain ⟨r4, I4, e4, hf⟩ := bd2_o hf
    refine mm_Vi (rest := []) hx hb hml hown hts hKK hP hS hA (kdM_lt h0 (Nat.succ_ne_zero _)) h0 (show vwCl[11]? = some (yX11_refuses.cls, TX11, 32) from rfl) vkX11_80 (k_X11_refuses l D ce b I1 L R hT x0 (-2 : Int32) h0 r4 I4 e4) rfl hl.1 rfl (Nat.le_of_ble_eq_true rfl) ⟨rfl, rfl⟩ ⟨Nat.le_of_ble_eq_true rfl, Nat.le_of_ble_eq_true rfl⟩ ⟨Nat.zero_le _, Nat.zero_le _⟩ dX11_lighter_29 (fun H locs hP hT hS => ?_)
    exact hret r4 I4 L hf H locs ls _ dX11_lighter_32 hP hT hS
  · have hf := ifF hf c3
    refine lv_aload_n hx hb dX11_lighter_18 rfl (lv_at hl 0 rfl) ?_
    refine lv_iload_n hx hb dX11_lighter_19 rfl (lv_at hl 1 rfl) ?_
    obtain ⟨r5, I5, L5, e5, hf⟩ := bd3_o hf
    refine mm_Vi (rest := []) hx hb hml hown hts hKK hP hS hA (kdM_lt h0 (Nat.succ_ne_zero _)) h0 (show vwCl[11]? = some (yX11_lighterOf.cls, TX11, 32) from rfl) vkX11_225 (k_X11_lighterOf l D ce b I1 L R hT x0 x1 h0 r5 I5 L5 e5) rfl hl.1 rfl (Nat.le_of_ble_eq_true rfl) ⟨rfl, rfl⟩ ⟨Nat.le_of_ble_eq_true rfl, Nat.le_of_ble_eq_true rfl⟩ ⟨Nat.zero_le _, Nat.zero_le _⟩ dX11_lighter_20 (fun H locs hP hT hS => ?_)
    refine lv_goto (tgt := 32) hx hb dX11_lighter_23 (by decide) ?_
    exact hret r5 I5 L5 hf H locs ls _ dX11_lighter_32 hP hT hS
def rmX11_laysTerm : Room := { frames := 0, cells := 0, slots := 0, locals := 0 }
set_option maxHeartbeats 4000000 in
set_option maxRecDepth 100000 in
theorem k_X11_laysTerm (l : Launch) (D : va_G) (ce : Nat → ClassId) (b : Nat) (I : mI) (L : mL) (R : mR) (hT : WT kdM R) (x0 : Nat) (h0 : kdM x0 = 17) (o1 : mI) (hf : f_X11_laysTerm x0 I R = some o1) : Met l yX11_laysTerm (Cond.code yX11_laysTerm cX11_laysTerm 2 none :: GW) rmX11_laysTerm (va_Pc [.ref (b + x0)] (PW D ce b kdM lnM 21 I L R)) (va_Qv (fun u => u = (o1, L, R)) (QW D ce b kdM lnM 21) (box b 21)) 0 0 (box b 21) := by
  refine Met.ofW (cc := cX11_laysTerm) (maxL := 2) (ret := none) (by decide) rfl ?_
  intro p e s m args below meth c s₁ B hml hv
  obtain ⟨rfl, hP, hKK⟩ := hv
  have hx := B.exec
  have hb := B.bytes
  have hr := B.returns
  have hts0 := atoms_spec (ws := Cond.code yX11_laysTerm cX11_laysTerm 2 none :: GW) B.pre
  have hts : ∀ w ∈ GW, w.before _ s = true := fun w h => hts0 w (List.mem_cons_of_mem _ h)
  clear hts0
  have hown : s.vm.findClass RX11 = some m.cls := findClass_of_methodNamed B.named
  have hlocks := B.notSynchronized
  have hA : ∀ q, box b 21 q → box b 21 q := fun _ h => h
  have hS : va_S (box b 21) s.heap s.heap [] := va_S.rf
  have hl := lv_entry ([.ref (b + x0)]) (n := 2) (Nat.le_of_ble_eq_true rfl)
  rw [lg_entry_eq]
  generalize (lg_sl ([.ref (b + x0)]) ++ List.replicate (2 - (lg_sl ([.ref (b + x0)])).length) Slot.unset).toArray = ls at hl ⊢
  have hl : lv_has ls 2 [(0, .ref (b + x0))] := hl
  generalize ([.ref (b + x0)] : List Value).toArray = av at hts ⊢
  show W p l e rmX11_laysTerm s m av below meth c s.heap [] 0 0 _ _
  obtain ⟨QQ, hQQ⟩ : ∃ z, z = MQ below (va_Qv (fun u => u = (o1, L, R)) (QW D ce b kdM lnM 21) (box b 21)) av s 0 0 (box b 21) := ⟨_, rfl⟩
  rw [← hQQ]
  have hret : ∀ (I1 : mI), some I1 = some o1 → ∀ (H1 : Heap) (locs1 : List Loc) (ls1 : Array Slot) (pc1 : Nat), decode cX11_laysTerm pc1 = .ok (.return_, 1) → va_P D vwCl (wd ce b kdM lnM 21 I1 L R) H1 → WT kdM R → va_S (box b 21) s.heap H1 locs1 → W p l e rmX11_laysTerm s m av below meth c H1 locs1 0 0 QQ (F0 m pc1 ls1 []) := by
    intro I1 hq H1 locs1 ls1 pc1 hd hP hT hS
    cases hq
    rw [hQQ]
    exact mm_vret hx hb hr hlocks hP hT hS hd
  unfold f_X11_laysTerm at hf
  obtain ⟨H, hH⟩ : ∃ z, z = s.heap := ⟨_, rfl⟩
  obtain ⟨locs, hlo⟩ : ∃ z : List Loc, z = [] := ⟨_, rfl⟩
  have hP : va_P D vwCl (wd ce b kdM lnM 21 I L R) H := by rw [hH]; exact hP
  have hS : va_S (box b 21) s.heap H locs := by rw [hH, hlo]; exact hS
  rw [show W p l e rmX11_laysTerm s m av below meth c s.heap [] 0 0 QQ = W p l e rmX11_laysTerm s m av below meth c H locs 0 0 QQ by rw [hH, hlo]]
  clear hH hlo
  clear hQQ
  show W p l e rmX11_laysTerm s m av below meth c H locs 0 0 QQ (F0 m 0 ls [])
  refine lv_aload_n hx hb dX11_laysTerm_0 rfl (lv_at hl 0 rfl) ?_
  refine lv_aload_n hx hb dX11_laysTerm_1 rfl (lv_at hl 0 rfl) ?_
  have t1 : kdM (R x0 0) = 1 := wt hT h0 rfl
  refine mm_getr hx hb hts hown hKK hP fk11_0 (Nat.le_of_ble_eq_true rfl) lkX11_7 (kdM_lt h0 (Nat.succ_ne_zero _)) h0 (nM t1 (Nat.succ_ne_zero _)) dX11_laysTerm_2 ?_
  refine lv_sipush (v := (131 : Int32)) hx hb dX11_laysTerm_5 (by decide) ?_
  obtain ⟨g2, hf⟩ := grd hf
  refine mm_iald hx hb hKK hP (kdM_lt t1 (Nat.succ_ne_zero _)) t1 g2 dX11_laysTerm_8 ?_
  refine jnE hf (fun I3 eI3 hf => ?_)
  refine mm_puti hx hb hts hown hKK hP hA hS fk11_24 (Or.inl rfl) fw11_24 lkX11_237 (kdM_lt h0 (Nat.succ_ne_zero _)) h0 rfl rfl dX11_laysTerm_9 (fun H locs hP hS => ?_)
  rw [← eI3] at hP
  refine lv_iconst (v := (0 : Int32)) hx hb dX11_laysTerm_12 (by decide) ?_
  refine lv_istore_n (lv' := [(1, .int (0 : Int32)), (0, .ref (b + x0))]) hx hb dX11_laysTerm_13 rfl hl (Nat.le_of_ble_eq_true rfl) rfl (fun ls hl => ?_)
  have lp14 : ∀ (n : Nat) (x0 : Nat) (x1 : Int32) (I : mI) (L : mL) (R : mR) (a1 : mI) (H : Heap) (locs : List Loc) (ls : Array Slot), va_P D vwCl (wd ce b kdM lnM 21 I L R) H → va_S (box b 21) s.heap H locs → WT kdM R → kdM x0 = 17 → lv_has ls 2 [(0, .ref (b + x0)), (1, .int x1)] → f_X11_laysTerm_L14 n x0 x1 I R = some a1 → (∀ (H1 : Heap) (locs1 : List Loc) (ls1 : Array Slot), va_P D vwCl (wd ce b kdM lnM 21 a1 L R) H1 → va_S (box b 21) s.heap H1 locs1 → lv_has ls1 2 [] → W p l e rmX11_laysTerm s m av below meth c H1 locs1 0 0 QQ (F0 m 44 ls1 [])) → W p l e rmX11_laysTerm s m av below meth c H locs 0 0 QQ (F0 m 14 ls []) := by
    intro n
    induction n with
    | zero =>
      intro x0 x1 I L R a1 H locs ls hP hS hT h0 hl hf kx
      exact absurd (show (none : Option (mI)) = some _ from hf) (by simp)
    | succ n ih =>
      intro x0 x1 I L R a1 H locs ls hP hS hT h0 hl hf kx
      rw [f_X11_laysTerm_L14] at hf
      refine lv_iload_n hx hb dX11_laysTerm_14 rfl (lv_at hl 1 rfl) ?_
      refine lv_aload_n hx hb dX11_laysTerm_15 rfl (lv_at hl 0 rfl) ?_
      refine mm_geti hx hb hts hown hKK hP fk11_24 (Or.inl rfl) lkX11_237 (kdM_lt h0 (Nat.succ_ne_zero _)) h0 dX11_laysTerm_16 ?_
      refine lv_icmp_ge (tgt := 44) hx hb dX11_laysTerm_19 (by decide) (fun c4 => ?_) (fun c4 => ?_)
      · have hf := ifT hf c4
        cases hf
        exact kx H locs ls hP hS (lv_sub hl [] rfl)
      · have hf := ifF hf c4
        refine lv_aload_n hx hb dX11_laysTerm_22 rfl (lv_at hl 0 rfl) ?_
        have t5 : kdM (R x0 23) = 1 := wt hT h0 rfl
        refine mm_getr hx hb hts hown hKK hP fk11_23 (Nat.le_of_ble_eq_true rfl) lkX11_60 (kdM_lt h0 (Nat.succ_ne_zero _)) h0 (nM t5 (Nat.succ_ne_zero _)) dX11_laysTerm_23 ?_
        refine lv_iload_n hx hb dX11_laysTerm_26 rfl (lv_at hl 1 rfl) ?_
        refine lv_aload_n hx hb dX11_laysTerm_27 rfl (lv_at hl 0 rfl) ?_
        have t6 : kdM (R x0 0) = 1 := wt hT h0 rfl
        refine mm_getr hx hb hts hown hKK hP fk11_0 (Nat.le_of_ble_eq_true rfl) lkX11_7 (kdM_lt h0 (Nat.succ_ne_zero _)) h0 (nM t6 (Nat.succ_ne_zero _)) dX11_laysTerm_28 ?_
        refine lv_sipush (v := (132 : Int32)) hx hb dX11_laysTerm_31 (by decide) ?_
        refine lv_iload_n hx hb dX11_laysTerm_34 rfl (lv_at hl 1 rfl) ?_
        refine lv_iadd hx hb dX11_laysTerm_35 ?_
        obtain ⟨g7, hf⟩ := grd hf
        refine mm_iald hx hb hKK hP (kdM_lt t6 (Nat.succ_ne_zero _)) t6 g7 dX11_laysTerm_36 ?_
        obtain ⟨g8, hf⟩ := grd hf
        refine jnE hf (fun I9 eI9 hf => ?_)
        refine mm_iast hx hb hKK hP hA hS (kdM_lt t5 (Nat.succ_ne_zero _)) t5 g8 dX11_laysTerm_37 (fun H locs hP hS => ?_)
        rw [← eI9] at hP
        refine lv_iinc (v := (x1 + (1 : Int32))) (lv' := [(1, .int (x1 + (1 : Int32))), (0, .ref (b + x0))]) hx hb dX11_laysTerm_38 hl (k := 1) rfl rfl (Nat.le_of_ble_eq_true rfl) rfl (fun ls hl => ?_)
        refine lv_goto (tgt := 14) hx hb dX11_laysTerm_41 (by decide) ?_
        exact ih x0 (x1 + (1 : Int32)) I9 L R a1 H locs ls hP hS hT h0 (lv_sub hl [1, 0] rfl) hf kx
  obtain ⟨I_10, e_10, hf⟩ := bd1_o hf
  refine lp14 FU x0 (0 : Int32) I3 L R I_10 H locs ls hP hS hT h0 (lv_sub hl [1, 0] rfl) e_10 (fun H locs ls hP hS hl => ?_)
  exact hret I_10 hf H locs ls _ dX11_laysTerm_44 hP hT hS
def rmX11_binds : Room := { frames := 2, cells := 0, slots := 0, locals := 43 }
set_option maxHeartbeats 4000000 in
set_option maxRecDepth 100000 in
theorem k_X11_binds (l : Launch) (D : va_G) (ce : Nat → ClassId) (b : Nat) (I : mI) (L : mL) (R : mR) (hT : WT kdM R) (x0 : Nat) (x1 : Int32) (x2 : Int32) (h0 : kdM x0 = 17) (o1 : Int32) (o2 : mI) (hf : f_X11_binds x0 x1 x2 I R = some (o1, o2)) : Met l yX11_binds (Cond.code yX11_binds cX11_binds 6 (some .boolean) :: GW) rmX11_binds (va_Pc [.ref (b + x0), .int x1, .int x2] (PW D ce b kdM lnM 21 I L R)) (va_Qi (fun r u => r = o1 ∧ u = (o2, L, R)) (QW D ce b kdM lnM 21) (box b 21)) 0 0 (box b 21) := by
  refine Met.ofW (cc := cX11_binds) (maxL := 6) (ret := (some .boolean)) (by decide) rfl ?_
  intro p e s m args below meth c s₁ B hml hv
  obtain ⟨rfl, hP, hKK⟩ := hv
  have hx := B.exec
  have hb := B.bytes
  have hr := B.returns
  have hts0 := atoms_spec (ws := Cond.code yX11_binds cX11_binds 6 (some .boolean) :: GW) B.pre
  have hts : ∀ w ∈ GW, w.before _ s = true := fun w h => hts0 w (List.mem_cons_of_mem _ h)
  clear hts0
  have hown : s.vm.findClass RX11 = some m.cls := findClass_of_methodNamed B.named
  have hlocks := B.notSynchronized
  have hA : ∀ q, box b 21 q → box b 21 q := fun _ h => h
  have hS : va_S (box b 21) s.heap s.heap [] := va_S.rf
  have hl := lv_entry ([.ref (b + x0), .int x1, .int x2]) (n := 6) (Nat.le_of_ble_eq_true rfl)
  rw [lg_entry_eq]
  generalize (lg_sl ([.ref (b + x0), .int x1, .int x2]) ++ List.replicate (6 - (lg_sl ([.ref (b + x0), .int x1, .int x2])).length) Slot.unset).toArray = ls at hl ⊢
  have hl : lv_has ls 6 [(0, .ref (b + x0)), (1, .int x1), (2, .int x2)] := hl
  generalize ([.ref (b + x0), .int x1, .int x2] : List Value).toArray = av at hts ⊢
  show W p l e rmX11_binds s m av below meth c s.heap [] 0 0 _ _
  obtain ⟨QQ, hQQ⟩ : ∃ z, z = MQ below (va_Qi (fun r u => r = o1 ∧ u = (o2, L, R)) (QW D ce b kdM lnM 21) (box b 21)) av s 0 0 (box b 21) := ⟨_, rfl⟩
  rw [← hQQ]
  have hret : ∀ (r : Int32) (I1 : mI), some (r, I1) = some (o1, o2) → ∀ (H1 : Heap) (locs1 : List Loc) (ls1 : Array Slot) (pc1 : Nat), decode cX11_binds pc1 = .ok (.ireturn, 1) → zb r = true → va_P D vwCl (wd ce b kdM lnM 21 I1 L R) H1 → WT kdM R → va_S (box b 21) s.heap H1 locs1 → W p l e rmX11_binds s m av below meth c H1 locs1 0 0 QQ (F0 m pc1 ls1 [.int r]) := by
    intro r I1 hq H1 locs1 ls1 pc1 hd hz hP hT hS
    cases hq
    rw [hQQ]
    exact mm_zret hx hb hr hlocks hz hP hT hS hd
  unfold f_X11_binds at hf
  obtain ⟨H, hH⟩ : ∃ z, z = s.heap := ⟨_, rfl⟩
  obtain ⟨locs, hlo⟩ : ∃ z : List Loc, z = [] := ⟨_, rfl⟩
  have hP : va_P D vwCl (wd ce b kdM lnM 21 I L R) H := by rw [hH]; exact hP
  have hS : va_S (box b 21) s.heap H locs := by rw [hH, hlo]; exact hS
  rw [show W p l e rmX11_binds s m av below meth c s.heap [] 0 0 QQ = W p l e rmX11_binds s m av below meth c H locs 0 0 QQ by rw [hH, hlo]]
  clear hH hlo
  clear hQQ
  show W p l e rmX11_binds s m av below meth c H locs 0 0 QQ (F0 m 0 ls [])
  refine lv_aload_n hx hb dX11_binds_0 rfl (lv_at hl 0 rfl) ?_
  have t1 : kdM (R x0 23) = 1 := wt hT h0 rfl
  refine mm_getr hx hb hts hown hKK hP fk11_23 (Nat.le_of_ble_eq_true rfl) lkX11_60 (kdM_lt h0 (Nat.succ_ne_zero _)) h0 (nM t1 (Nat.succ_ne_zero _)) dX11_binds_1 ?_
  refine lv_iload_n hx hb dX11_binds_4 rfl (lv_at hl 2 rfl) ?_
  obtain ⟨r2, e2, hf⟩ := bd1_o hf
  refine mm_Si (rest := []) hx hb hml hown hts hKK hP hS hA skX11_207 (k_X11_longAt l D ce b I L R hT (R x0 23) x2 t1 r2 e2) rfl hl.1 rfl (Nat.le_of_ble_eq_true rfl) ⟨rfl, rfl⟩ ⟨Nat.le_of_ble_eq_true rfl, Nat.le_of_ble_eq_true rfl⟩ ⟨Nat.zero_le _, Nat.zero_le _⟩ dX11_binds_5 (fun H locs hP hT hS => ?_)
  refine lv_istore_n (lv' := [(3, .int r2), (0, .ref (b + x0)), (1, .int x1), (2, .int x2)]) hx hb dX11_binds_8 rfl hl (Nat.le_of_ble_eq_true rfl) rfl (fun ls hl => ?_)
  refine lv_aload_n hx hb dX11_binds_9 rfl (lv_at hl 1 rfl) ?_
  have t3 : kdM (R x0 27) = 1 := wt hT h0 rfl
  refine mm_getr hx hb hts hown hKK hP fk11_27 (Nat.le_of_ble_eq_true rfl) lkX11_69 (kdM_lt h0 (Nat.succ_ne_zero _)) h0 (nM t3 (Nat.succ_ne_zero _)) dX11_binds_10 ?_
  refine lv_iload_n hx hb dX11_binds_13 rfl (lv_at hl 2 rfl) ?_
  obtain ⟨g4, hf⟩ := grd hf
  refine mm_iald hx hb hKK hP (kdM_lt t3 (Nat.succ_ne_zero _)) t3 g4 dX11_binds_14 ?_
  refine lv_if_ne (tgt := 34) hx hb dX11_binds_15 (by decide) (fun c5 => ?_) (fun c5 => ?_)
  · have hf := ifF hf c5
    refine lv_aload_n hx hb dX11_binds_34 rfl (lv_at hl 1 rfl) ?_
    refine mm_getr hx hb hts hown hKK hP fk11_27 (Nat.le_of_ble_eq_true rfl) lkX11_69 (kdM_lt h0 (Nat.succ_ne_zero _)) h0 (nM t3 (Nat.succ_ne_zero _)) dX11_binds_35 ?_
    refine lv_iload_n hx hb dX11_binds_38 rfl (lv_at hl 2 rfl) ?_
    refine mm_iald hx hb hKK hP (kdM_lt t3 (Nat.succ_ne_zero _)) t3 g4 dX11_binds_39 ?_
    refine lv_iload_n hx hb dX11_binds_40 rfl (lv_at hl 0 rfl) ?_
    refine jnE hf (fun j49_6 ej_6 hf => ?_)
    have hJ49_6 : ∀ (w0_6 : Int32) (H : Heap) (locs : List Loc) (ls : Array Slot), va_P D vwCl (wd ce b kdM lnM 21 I L R) H → va_S (box b 21) s.heap H locs → lv_has ls 6 [(0, .ref (b + x0)), (1, .int x1), (2, .int x2), (3, .int r2)] → j49_6 w0_6 = some (o1, o2) → W p l e rmX11_binds s m av below meth c H locs 0 0 QQ (F0 m 49 ls [.int w0_6]) := by
      intro w0_6 H locs ls hP hS  hl hf
      rw [ej_6] at hf
      try dsimp only at hf
      refine lv_istore (lv' := [(4, .int w0_6), (0, .ref (b + x0)), (1, .int x1), (2, .int x2), (3, .int r2)]) hx hb dX11_binds_49 hl (Nat.le_of_ble_eq_true rfl) rfl (fun ls hl => ?_)
      refine lv_iconst (v := (0 : Int32)) hx hb dX11_binds_51 (by decide) ?_
      refine lv_istore (lv' := [(5, .int (0 : Int32)), (4, .int w0_6), (0, .ref (b + x0)), (1, .int x1), (2, .int x2), (3, .int r2)]) hx hb dX11_binds_52 hl (Nat.le_of_ble_eq_true rfl) rfl (fun ls hl => ?_)
      have lp54 : ∀ (n : Nat) (x0 : Nat) (x1 : Int32) (x2 : Int32) (x3 : Int32) (x4 : Int32) (x5 : Int32) (I : mI) (L : mL) (R : mR) (a1 : Int32) (H : Heap) (locs : List Loc) (ls : Array Slot), va_P D vwCl (wd ce b kdM lnM 21 I L R) H → va_S (box b 21) s.heap H locs → WT kdM R → kdM x0 = 17 → lv_has ls 6 [(0, .ref (b + x0)), (1, .int x1), (2, .int x2), (3, .int x3), (4, .int x4), (5, .int x5)] → f_X11_binds_L54 n x0 x1 x2 x3 x4 x5 I R = some a1 → (∀ (H1 : Heap) (locs1 : List Loc) (ls1 : Array Slot), va_P D vwCl (wd ce b kdM lnM 21 I L R) H1 → va_S (box b 21) s.heap H1 locs1 → lv_has ls1 6 [(4, .int a1)] → W p l e rmX11_binds s m av below meth c H1 locs1 0 0 QQ (F0 m 104 ls1 [])) → W p l e rmX11_binds s m av below meth c H locs 0 0 QQ (F0 m 54 ls []) := by
        intro n
        induction n with
        | zero =>
          intro x0 x1 x2 x3 x4 x5 I L R a1 H locs ls hP hS hT h0 hl hf kx
          exact absurd (show (none : Option (Int32)) = some _ from hf) (by simp)
        | succ n ih =>
          intro x0 x1 x2 x3 x4 x5 I L R a1 H locs ls hP hS hT h0 hl hf kx
          rw [f_X11_binds_L54] at hf
          refine lv_iload hx hb dX11_binds_54 (lv_at hl 5 rfl) ?_
          refine lv_iload_n hx hb dX11_binds_56 rfl (lv_at hl 3 rfl) ?_
          refine lv_icmp_ge (tgt := 104) hx hb dX11_binds_57 (by decide) (fun c7 => ?_) (fun c7 => ?_)
          · have hf := ifT hf c7
            cases hf
            exact kx H locs ls hP hS (lv_sub hl [4] rfl)
          · have hf := ifF hf c7
            refine lv_iload hx hb dX11_binds_60 (lv_at hl 4 rfl) ?_
            refine lv_if_eq (tgt := 104) hx hb dX11_binds_62 (by decide) (fun c8 => ?_) (fun c8 => ?_)
            · have hf := ifT hf c8
              cases hf
              exact kx H locs ls hP hS (lv_sub hl [4] rfl)
            · have hf := ifF hf c8
              refine lv_aload_n hx hb dX11_binds_65 rfl (lv_at hl 0 rfl) ?_
              have t9 : kdM (R x0 23) = 1 := wt hT h0 rfl
              refine mm_getr hx hb hts hown hKK hP fk11_23 (Nat.le_of_ble_eq_true rfl) lkX11_60 (kdM_lt h0 (Nat.succ_ne_zero _)) h0 (nM t9 (Nat.succ_ne_zero _)) dX11_binds_66 ?_
              refine lv_aload_n hx hb dX11_binds_69 rfl (lv_at hl 0 rfl) ?_
              have t10 : kdM (R x0 26) = 1 := wt hT h0 rfl
              refine mm_getr hx hb hts hown hKK hP fk11_26 (Nat.le_of_ble_eq_true rfl) lkX11_66 (kdM_lt h0 (Nat.succ_ne_zero _)) h0 (nM t10 (Nat.succ_ne_zero _)) dX11_binds_70 ?_
              refine lv_iload_n hx hb dX11_binds_73 rfl (lv_at hl 1 rfl) ?_
              obtain ⟨g11, hf⟩ := grd hf
              refine mm_iald hx hb hKK hP (kdM_lt t10 (Nat.succ_ne_zero _)) t10 g11 dX11_binds_74 ?_
              refine lv_iload hx hb dX11_binds_75 (lv_at hl 5 rfl) ?_
              refine lv_iadd hx hb dX11_binds_77 ?_
              obtain ⟨g12, hf⟩ := grd hf
              refine mm_iald hx hb hKK hP (kdM_lt t9 (Nat.succ_ne_zero _)) t9 g12 dX11_binds_78 ?_
              refine lv_aload_n hx hb dX11_binds_79 rfl (lv_at hl 0 rfl) ?_
              refine mm_getr hx hb hts hown hKK hP fk11_23 (Nat.le_of_ble_eq_true rfl) lkX11_60 (kdM_lt h0 (Nat.succ_ne_zero _)) h0 (nM t9 (Nat.succ_ne_zero _)) dX11_binds_80 ?_
              refine lv_iload_n hx hb dX11_binds_83 rfl (lv_at hl 2 rfl) ?_
              refine lv_iload hx hb dX11_binds_84 (lv_at hl 5 rfl) ?_
              refine lv_iadd hx hb dX11_binds_86 ?_
              obtain ⟨g13, hf⟩ := grd hf
              refine mm_iald hx hb hKK hP (kdM_lt t9 (Nat.succ_ne_zero _)) t9 g13 dX11_binds_87 ?_
              refine jnE hf (fun j96_14 ej_14 hf => ?_)
              have hJ96_14 : ∀ (w0_14 : Int32) (H : Heap) (locs : List Loc) (ls : Array Slot), va_P D vwCl (wd ce b kdM lnM 21 I L R) H → va_S (box b 21) s.heap H locs → lv_has ls 6 [(0, .ref (b + x0)), (1, .int x1), (2, .int x2), (3, .int x3), (5, .int x5)] → j96_14 w0_14 = some a1 → W p l e rmX11_binds s m av below meth c H locs 0 0 QQ (F0 m 96 ls [.int w0_14]) := by
                intro w0_14 H locs ls hP hS  hl hf
                rw [ej_14] at hf
                try dsimp only at hf
                refine lv_istore (lv' := [(4, .int w0_14), (0, .ref (b + x0)), (1, .int x1), (2, .int x2), (3, .int x3), (5, .int x5)]) hx hb dX11_binds_96 hl (Nat.le_of_ble_eq_true rfl) rfl (fun ls hl => ?_)
                refine lv_iinc (v := (x5 + (1 : Int32))) (lv' := [(5, .int (x5 + (1 : Int32))), (4, .int w0_14), (0, .ref (b + x0)), (1, .int x1), (2, .int x2), (3, .int x3)]) hx hb dX11_binds_98 hl (k := 5) rfl rfl (Nat.le_of_ble_eq_true rfl) rfl (fun ls hl => ?_)
                refine lv_goto (tgt := 54) hx hb dX11_binds_101 (by decide) ?_
                exact ih x0 x1 x2 x3 w0_14 (x5 + (1 : Int32)) I L R a1 H locs ls hP hS hT h0 (lv_sub hl [2, 3, 4, 5, 1, 0] rfl) hf kx
              clear ej_14
              refine lv_icmp_ne (tgt := 95) hx hb dX11_binds_88 (by decide) (fun c15 => ?_) (fun c15 => ?_)
              · have hf := ifF hf c15
                refine lv_iconst (v := (0 : Int32)) hx hb dX11_binds_95 (by decide) ?_
                exact hJ96_14 (0 : Int32) H locs ls hP hS  (lv_sub hl [0, 1, 2, 3, 5] rfl) hf
              · have hf := ifT hf c15
                refine lv_iconst (v := (1 : Int32)) hx hb dX11_binds_91 (by decide) ?_
                refine lv_goto (tgt := 96) hx hb dX11_binds_92 (by decide) ?_
                exact hJ96_14 (1 : Int32) H locs ls hP hS  (lv_sub hl [0, 1, 2, 3, 5] rfl) hf
      obtain ⟨y4_16, e_16, hf⟩ := bd1_o hf
      refine lp54 FU x0 x1 x2 r2 w0_6 (0 : Int32) I L R y4_16 H locs ls hP hS hT h0 (lv_sub hl [2, 3, 4, 5, 1, 0] rfl) e_16 (fun H locs ls hP hS hl => ?_)
      refine lv_iload hx hb dX11_binds_104 (lv_at hl 0 rfl) ?_
      obtain ⟨g17, hf⟩ := grd hf
      exact hret y4_16 I hf H locs ls _ dX11_binds_106 g17 hP hT hS
    clear ej_6
    refine lv_icmp_ne (tgt := 48) hx hb dX11_binds_41 (by decide) (fun c18 => ?_) (fun c18 => ?_)
    · have hf := ifF hf c18
      refine lv_iconst (v := (0 : Int32)) hx hb dX11_binds_48 (by decide) ?_
      exact hJ49_6 (0 : Int32) H locs ls hP hS  (lv_sub hl [1, 2, 3, 0] rfl) hf
    · have hf := ifT hf c18
      refine lv_iconst (v := (1 : Int32)) hx hb dX11_binds_44 (by decide) ?_
      refine lv_goto (tgt := 49) hx hb dX11_binds_45 (by decide) ?_
      exact hJ49_6 (1 : Int32) H locs ls hP hS  (lv_sub hl [1, 2, 3, 0] rfl) hf
  · have hf := ifT hf c5
    refine lv_aload_n hx hb dX11_binds_18 rfl (lv_at hl 1 rfl) ?_
    have t19 : kdM (R x0 26) = 1 := wt hT h0 rfl
    refine mm_getr hx hb hts hown hKK hP fk11_26 (Nat.le_of_ble_eq_true rfl) lkX11_66 (kdM_lt h0 (Nat.succ_ne_zero _)) h0 (nM t19 (Nat.succ_ne_zero _)) dX11_binds_19 ?_
    refine lv_iload_n hx hb dX11_binds_22 rfl (lv_at hl 2 rfl) ?_
    refine lv_iload_n hx hb dX11_binds_23 rfl (lv_at hl 3 rfl) ?_
    obtain ⟨g20, hf⟩ := grd hf
    refine jnE hf (fun I21 eI21 hf => ?_)
    refine mm_iast hx hb hKK hP hA hS (kdM_lt t19 (Nat.succ_ne_zero _)) t19 g20 dX11_binds_24 (fun H locs hP hS => ?_)
    rw [← eI21] at hP
    refine lv_aload_n hx hb dX11_binds_25 rfl (lv_at hl 1 rfl) ?_
    refine mm_getr hx hb hts hown hKK hP fk11_27 (Nat.le_of_ble_eq_true rfl) lkX11_69 (kdM_lt h0 (Nat.succ_ne_zero _)) h0 (nM t3 (Nat.succ_ne_zero _)) dX11_binds_26 ?_
    refine lv_iload_n hx hb dX11_binds_29 rfl (lv_at hl 2 rfl) ?_
    refine lv_iload_n hx hb dX11_binds_30 rfl (lv_at hl 0 rfl) ?_
    refine jnE hf (fun I22 eI22 hf => ?_)
    refine mm_iast hx hb hKK hP hA hS (kdM_lt t3 (Nat.succ_ne_zero _)) t3 g4 dX11_binds_31 (fun H locs hP hS => ?_)
    rw [← eI22] at hP
    refine lv_iconst (v := (1 : Int32)) hx hb dX11_binds_32 (by decide) ?_
    exact hret (1 : Int32) I22 hf H locs ls _ dX11_binds_33 rfl hP hT hS
def rmX11_fits : Room := { frames := 3, cells := 0, slots := 0, locals := 68 }
set_option maxHeartbeats 4000000 in
set_option maxRecDepth 100000 in
theorem k_X11_fits (l : Launch) (D : va_G) (ce : Nat → ClassId) (b : Nat) (I : mI) (L : mL) (R : mR) (hT : WT kdM R) (x0 : Nat) (x1 : Int32) (x2 : Int32) (h0 : kdM x0 = 17) (o1 : Int32) (o2 : mI) (hf : f_X11_fits x0 x1 x2 I R = some (o1, o2)) : Met l yX11_fits (Cond.code yX11_fits cX11_fits 6 (some .boolean) :: GW) rmX11_fits (va_Pc [.ref (b + x0), .int x1, .int x2] (PW D ce b kdM lnM 21 I L R)) (va_Qi (fun r u => r = o1 ∧ u = (o2, L, R)) (QW D ce b kdM lnM 21) (box b 21)) 0 0 (box b 21) := by
  refine Met.ofW (cc := cX11_fits) (maxL := 6) (ret := (some .boolean)) (by decide) rfl ?_
  intro p e s m args below meth c s₁ B hml hv
  obtain ⟨rfl, hP, hKK⟩ := hv
  have hx := B.exec
  have hb := B.bytes
  have hr := B.returns
  have hts0 := atoms_spec (ws := Cond.code yX11_fits cX11_fits 6 (some .boolean) :: GW) B.pre
  have hts : ∀ w ∈ GW, w.before _ s = true := fun w h => hts0 w (List.mem_cons_of_mem _ h)
  clear hts0
  have hown : s.vm.findClass RX11 = some m.cls := findClass_of_methodNamed B.named
  have hlocks := B.notSynchronized
  have hA : ∀ q, box b 21 q → box b 21 q := fun _ h => h
  have hS : va_S (box b 21) s.heap s.heap [] := va_S.rf
  have hl := lv_entry ([.ref (b + x0), .int x1, .int x2]) (n := 6) (Nat.le_of_ble_eq_true rfl)
  rw [lg_entry_eq]
  generalize (lg_sl ([.ref (b + x0), .int x1, .int x2]) ++ List.replicate (6 - (lg_sl ([.ref (b + x0), .int x1, .int x2])).length) Slot.unset).toArray = ls at hl ⊢
  have hl : lv_has ls 6 [(0, .ref (b + x0)), (1, .int x1), (2, .int x2)] := hl
  generalize ([.ref (b + x0), .int x1, .int x2] : List Value).toArray = av at hts ⊢
  show W p l e rmX11_fits s m av below meth c s.heap [] 0 0 _ _
  obtain ⟨QQ, hQQ⟩ : ∃ z, z = MQ below (va_Qi (fun r u => r = o1 ∧ u = (o2, L, R)) (QW D ce b kdM lnM 21) (box b 21)) av s 0 0 (box b 21) := ⟨_, rfl⟩
  rw [← hQQ]
  have hret : ∀ (r : Int32) (I1 : mI), some (r, I1) = some (o1, o2) → ∀ (H1 : Heap) (locs1 : List Loc) (ls1 : Array Slot) (pc1 : Nat), decode cX11_fits pc1 = .ok (.ireturn, 1) → zb r = true → va_P D vwCl (wd ce b kdM lnM 21 I1 L R) H1 → WT kdM R → va_S (box b 21) s.heap H1 locs1 → W p l e rmX11_fits s m av below meth c H1 locs1 0 0 QQ (F0 m pc1 ls1 [.int r]) := by
    intro r I1 hq H1 locs1 ls1 pc1 hd hz hP hT hS
    cases hq
    rw [hQQ]
    exact mm_zret hx hb hr hlocks hz hP hT hS hd
  unfold f_X11_fits at hf
  obtain ⟨H, hH⟩ : ∃ z, z = s.heap := ⟨_, rfl⟩
  obtain ⟨locs, hlo⟩ : ∃ z : List Loc, z = [] := ⟨_, rfl⟩
  have hP : va_P D vwCl (wd ce b kdM lnM 21 I L R) H := by rw [hH]; exact hP
  have hS : va_S (box b 21) s.heap H locs := by rw [hH, hlo]; exact hS
  rw [show W p l e rmX11_fits s m av below meth c s.heap [] 0 0 QQ = W p l e rmX11_fits s m av below meth c H locs 0 0 QQ by rw [hH, hlo]]
  clear hH hlo
  clear hQQ
  show W p l e rmX11_fits s m av below meth c H locs 0 0 QQ (F0 m 0 ls [])
  refine lv_aload_n hx hb dX11_fits_0 rfl (lv_at hl 0 rfl) ?_
  have t1 : kdM (R x0 27) = 1 := wt hT h0 rfl
  refine mm_getr hx hb hts hown hKK hP fk11_27 (Nat.le_of_ble_eq_true rfl) lkX11_69 (kdM_lt h0 (Nat.succ_ne_zero _)) h0 (nM t1 (Nat.succ_ne_zero _)) dX11_fits_1 ?_
  refine lv_iconst (v := (0 : Int32)) hx hb dX11_fits_4 (by decide) ?_
  refine lv_iconst (v := (0 : Int32)) hx hb dX11_fits_5 (by decide) ?_
  obtain ⟨g2, hf⟩ := grd hf
  refine jnE hf (fun I3 eI3 hf => ?_)
  refine mm_iast hx hb hKK hP hA hS (kdM_lt t1 (Nat.succ_ne_zero _)) t1 g2 dX11_fits_6 (fun H locs hP hS => ?_)
  rw [← eI3] at hP
  refine lv_aload_n hx hb dX11_fits_7 rfl (lv_at hl 0 rfl) ?_
  refine mm_getr hx hb hts hown hKK hP fk11_27 (Nat.le_of_ble_eq_true rfl) lkX11_69 (kdM_lt h0 (Nat.succ_ne_zero _)) h0 (nM t1 (Nat.succ_ne_zero _)) dX11_fits_8 ?_
  refine lv_iconst (v := (1 : Int32)) hx hb dX11_fits_11 (by decide) ?_
  refine lv_iconst (v := (0 : Int32)) hx hb dX11_fits_12 (by decide) ?_
  obtain ⟨g4, hf⟩ := grd hf
  refine jnE hf (fun I5 eI5 hf => ?_)
  refine mm_iast hx hb hKK hP hA hS (kdM_lt t1 (Nat.succ_ne_zero _)) t1 g4 dX11_fits_13 (fun H locs hP hS => ?_)
  rw [← eI5] at hP
  refine lv_iload_n hx hb dX11_fits_14 rfl (lv_at hl 2 rfl) ?_
  refine lv_istore_n (lv' := [(3, .int x2), (0, .ref (b + x0)), (1, .int x1), (2, .int x2)]) hx hb dX11_fits_15 rfl hl (Nat.le_of_ble_eq_true rfl) rfl (fun ls hl => ?_)
  refine lv_iconst (v := (0 : Int32)) hx hb dX11_fits_16 (by decide) ?_
  refine lv_istore (lv' := [(4, .int (0 : Int32)), (3, .int x2), (0, .ref (b + x0)), (1, .int x1), (2, .int x2)]) hx hb dX11_fits_17 hl (Nat.le_of_ble_eq_true rfl) rfl (fun ls hl => ?_)
  have lp19 : ∀ (n : Nat) (x0 : Nat) (x1 : Int32) (x3 : Int32) (x4 : Int32) (I : mI) (L : mL) (R : mR) (q : (Int32 × mI) ⊕ (mI)) (H : Heap) (locs : List Loc) (ls : Array Slot), va_P D vwCl (wd ce b kdM lnM 21 I L R) H → va_S (box b 21) s.heap H locs → WT kdM R → kdM x0 = 17 → lv_has ls 6 [(0, .ref (b + x0)), (1, .int x1), (3, .int x3), (4, .int x4)] → f_X11_fits_L19 n x0 x1 x3 x4 I R = some q → (∀ (I1 : mI), some (Sum.inr I1) = some q → ∀ (H1 : Heap) (locs1 : List Loc) (ls1 : Array Slot), va_P D vwCl (wd ce b kdM lnM 21 I1 L R) H1 → va_S (box b 21) s.heap H1 locs1 → lv_has ls1 6 [] → W p l e rmX11_fits s m av below meth c H1 locs1 0 0 QQ (F0 m 105 ls1 [])) → (∀ (r : Int32) (I1 : mI), some (Sum.inl (r, I1)) = some q → ∀ (H1 : Heap) (locs1 : List Loc) (ls1 : Array Slot) (pc1 : Nat), decode cX11_fits pc1 = .ok (.ireturn, 1) → zb r = true → va_P D vwCl (wd ce b kdM lnM 21 I1 L R) H1 → WT kdM R → va_S (box b 21) s.heap H1 locs1 → W p l e rmX11_fits s m av below meth c H1 locs1 0 0 QQ (F0 m pc1 ls1 [.int r])) → W p l e rmX11_fits s m av below meth c H locs 0 0 QQ (F0 m 19 ls []) := by
    intro n
    induction n with
    | zero =>
      intro x0 x1 x3 x4 I L R q H locs ls hP hS hT h0 hl hf kx kr
      exact absurd (show (none : Option ((Int32 × mI) ⊕ (mI))) = some _ from hf) (by simp)
    | succ n ih =>
      intro x0 x1 x3 x4 I L R q H locs ls hP hS hT h0 hl hf kx kr
      rw [f_X11_fits_L19] at hf
      refine lv_iload hx hb dX11_fits_19 (lv_at hl 3 rfl) ?_
      refine lv_aload_n hx hb dX11_fits_21 rfl (lv_at hl 0 rfl) ?_
      have t6 : kdM (R x0 0) = 1 := wt hT h0 rfl
      refine mm_getr hx hb hts hown hKK hP fk11_0 (Nat.le_of_ble_eq_true rfl) lkX11_7 (kdM_lt h0 (Nat.succ_ne_zero _)) h0 (nM t6 (Nat.succ_ne_zero _)) dX11_fits_22 ?_
      refine lv_iload_n hx hb dX11_fits_25 rfl (lv_at hl 1 rfl) ?_
      obtain ⟨r7, e7, hf⟩ := bd1_o hf
      refine mm_Si (rest := [.int x4]) hx hb hml hown hts hKK hP hS hA skX11_158 (k_X11_leftLong l D ce b I L R hT (R x0 0) x1 t6 r7 e7) rfl hl.1 rfl (Nat.le_of_ble_eq_true rfl) ⟨rfl, rfl⟩ ⟨Nat.le_of_ble_eq_true rfl, Nat.le_of_ble_eq_true rfl⟩ ⟨Nat.zero_le _, Nat.zero_le _⟩ dX11_fits_26 (fun H locs hP hT hS => ?_)
      refine lv_icmp_ge (tgt := 105) hx hb dX11_fits_29 (by decide) (fun c8 => ?_) (fun c8 => ?_)
      · have hf := ifT hf c8
        exact kx I hf H locs ls hP hS (lv_sub hl [] rfl)
      · have hf := ifF hf c8
        refine lv_aload_n hx hb dX11_fits_32 rfl (lv_at hl 0 rfl) ?_
        refine mm_getr hx hb hts hown hKK hP fk11_0 (Nat.le_of_ble_eq_true rfl) lkX11_7 (kdM_lt h0 (Nat.succ_ne_zero _)) h0 (nM t6 (Nat.succ_ne_zero _)) dX11_fits_33 ?_
        refine lv_iload_n hx hb dX11_fits_36 rfl (lv_at hl 1 rfl) ?_
        obtain ⟨r9, e9, hf⟩ := bd1_o hf
        refine mm_Si (rest := [.ref (b + (R x0 0))]) hx hb hml hown hts hKK hP hS hA skX11_117 (k_X11_leftOf l D ce b I L R hT x1  r9 e9) rfl hl.1 rfl (Nat.le_of_ble_eq_true rfl) ⟨rfl, rfl⟩ ⟨Nat.le_of_ble_eq_true rfl, Nat.le_of_ble_eq_true rfl⟩ ⟨Nat.zero_le _, Nat.zero_le _⟩ dX11_fits_37 (fun H locs hP hT hS => ?_)
        refine lv_iload hx hb dX11_fits_40 (lv_at hl 3 rfl) ?_
        refine lv_iadd hx hb dX11_fits_42 ?_
        obtain ⟨g10, hf⟩ := grd hf
        refine mm_iald hx hb hKK hP (kdM_lt t6 (Nat.succ_ne_zero _)) t6 g10 dX11_fits_43 ?_
        refine lv_istore (lv' := [(5, .int (I (R x0 0) ((r9 + x4)).toNatClampNeg)), (0, .ref (b + x0)), (1, .int x1), (3, .int x3), (4, .int x4)]) hx hb dX11_fits_44 hl (Nat.le_of_ble_eq_true rfl) rfl (fun ls hl => ?_)
        refine lv_iload hx hb dX11_fits_46 (lv_at hl 0 rfl) ?_
        obtain ⟨r11, e11, hf⟩ := bd1_o hf
        refine mm_Si (rest := []) hx hb hml hown hts hKK hP hS hA skX11_100 (k_X11_isUnknown l D ce b I L R hT (I (R x0 0) ((r9 + x4)).toNatClampNeg)  r11 e11) rfl hl.1 rfl (Nat.le_of_ble_eq_true rfl) ⟨rfl, rfl⟩ ⟨Nat.le_of_ble_eq_true rfl, Nat.le_of_ble_eq_true rfl⟩ ⟨Nat.zero_le _, Nat.zero_le _⟩ dX11_fits_48 (fun H locs hP hT hS => ?_)
        refine jnE hf (fun j99_12 ej_12 hf => ?_)
        have hJ99_12 : ∀ (v3_12 : Int32) (I_12 : mI) (H : Heap) (locs : List Loc) (ls : Array Slot), va_P D vwCl (wd ce b kdM lnM 21 I_12 L R) H → va_S (box b 21) s.heap H locs → lv_has ls 6 [(0, .ref (b + x0)), (1, .int x1), (3, .int v3_12), (4, .int x4)] → j99_12 v3_12 I_12 = some q → W p l e rmX11_fits s m av below meth c H locs 0 0 QQ (F0 m 99 ls []) := by
          intro v3_12 I_12 H locs ls hP hS  hl hf
          rw [ej_12] at hf
          try dsimp only at hf
          refine lv_iinc (v := (x4 + (1 : Int32))) (lv' := [(4, .int (x4 + (1 : Int32))), (0, .ref (b + x0)), (1, .int x1), (3, .int v3_12)]) hx hb dX11_fits_99 hl (k := 3) rfl rfl (Nat.le_of_ble_eq_true rfl) rfl (fun ls hl => ?_)
          refine lv_goto (tgt := 19) hx hb dX11_fits_102 (by decide) ?_
          exact ih x0 x1 v3_12 (x4 + (1 : Int32)) I_12 L R q H locs ls hP hS hT h0 (lv_sub hl [1, 2, 3, 0] rfl) hf kx kr
        clear ej_12
        refine lv_if_eq (tgt := 83) hx hb dX11_fits_51 (by decide) (fun c13 => ?_) (fun c13 => ?_)
        · have hf := ifT hf c13
          refine lv_iload hx hb dX11_fits_83 (lv_at hl 0 rfl) ?_
          refine lv_aload_n hx hb dX11_fits_85 rfl (lv_at hl 1 rfl) ?_
          have t14 : kdM (R x0 23) = 1 := wt hT h0 rfl
          refine mm_getr hx hb hts hown hKK hP fk11_23 (Nat.le_of_ble_eq_true rfl) lkX11_60 (kdM_lt h0 (Nat.succ_ne_zero _)) h0 (nM t14 (Nat.succ_ne_zero _)) dX11_fits_86 ?_
          refine lv_iload_n hx hb dX11_fits_89 rfl (lv_at hl 3 rfl) ?_
          obtain ⟨g15, hf⟩ := grd hf
          refine mm_iald hx hb hKK hP (kdM_lt t14 (Nat.succ_ne_zero _)) t14 g15 dX11_fits_90 ?_
          refine lv_icmp_eq (tgt := 96) hx hb dX11_fits_91 (by decide) (fun c16 => ?_) (fun c16 => ?_)
          · have hf := ifT hf c16
            refine lv_iinc (v := (x3 + (1 : Int32))) (lv' := [(3, .int (x3 + (1 : Int32))), (5, .int (I (R x0 0) ((r9 + x4)).toNatClampNeg)), (0, .ref (b + x0)), (1, .int x1), (4, .int x4)]) hx hb dX11_fits_96 hl (k := 3) rfl rfl (Nat.le_of_ble_eq_true rfl) rfl (fun ls hl => ?_)
            exact hJ99_12 (x3 + (1 : Int32)) I H locs ls hP hS  (lv_sub hl [2, 3, 0, 4] rfl) hf
          · have hf := ifF hf c16
            refine lv_iconst (v := (0 : Int32)) hx hb dX11_fits_94 (by decide) ?_
            exact kr (0 : Int32) I hf H locs ls _ dX11_fits_95 rfl hP hT hS
        · have hf := ifF hf c13
          refine lv_aload_n hx hb dX11_fits_54 rfl (lv_at hl 1 rfl) ?_
          refine lv_iload hx hb dX11_fits_55 (lv_at hl 0 rfl) ?_
          refine lv_bipush (v := (120 : Int32)) hx hb dX11_fits_57 (by decide) ?_
          refine lv_isub hx hb dX11_fits_59 ?_
          refine lv_iload_n hx hb dX11_fits_60 rfl (lv_at hl 3 rfl) ?_
          obtain ⟨r17, I17, e17, hf⟩ := bd2_o hf
          refine mm_Vi (rest := []) hx hb hml hown hts hKK hP hS hA (kdM_lt h0 (Nat.succ_ne_zero _)) h0 (show vwCl[11]? = some (yX11_binds.cls, TX11, 32) from rfl) vkX11_240 (k_X11_binds l D ce b I L R hT x0 ((I (R x0 0) ((r9 + x4)).toNatClampNeg) - (120 : Int32)) x3 h0 r17 I17 e17) rfl hl.1 rfl (Nat.le_of_ble_eq_true rfl) ⟨rfl, rfl⟩ ⟨Nat.le_of_ble_eq_true rfl, Nat.le_of_ble_eq_true rfl⟩ ⟨Nat.zero_le _, Nat.zero_le _⟩ dX11_fits_61 (fun H locs hP hT hS => ?_)
          refine lv_if_ne (tgt := 69) hx hb dX11_fits_64 (by decide) (fun c18 => ?_) (fun c18 => ?_)
          · have hf := ifF hf c18
            refine lv_iload_n hx hb dX11_fits_69 rfl (lv_at hl 3 rfl) ?_
            refine lv_aload_n hx hb dX11_fits_70 rfl (lv_at hl 1 rfl) ?_
            have t19 : kdM (R x0 23) = 1 := wt hT h0 rfl
            refine mm_getr hx hb hts hown hKK hP fk11_23 (Nat.le_of_ble_eq_true rfl) lkX11_60 (kdM_lt h0 (Nat.succ_ne_zero _)) h0 (nM t19 (Nat.succ_ne_zero _)) dX11_fits_71 ?_
            refine lv_iload_n hx hb dX11_fits_74 rfl (lv_at hl 3 rfl) ?_
            obtain ⟨r20, e20, hf⟩ := bd1_o hf
            refine mm_Si (rest := [.int x3]) hx hb hml hown hts hKK hP hS hA skX11_207 (k_X11_longAt l D ce b I17 L R hT (R x0 23) x3 t19 r20 e20) rfl hl.1 rfl (Nat.le_of_ble_eq_true rfl) ⟨rfl, rfl⟩ ⟨Nat.le_of_ble_eq_true rfl, Nat.le_of_ble_eq_true rfl⟩ ⟨Nat.zero_le _, Nat.zero_le _⟩ dX11_fits_75 (fun H locs hP hT hS => ?_)
            refine lv_iadd hx hb dX11_fits_78 ?_
            refine lv_istore_n (lv' := [(3, .int (x3 + r20)), (5, .int (I (R x0 0) ((r9 + x4)).toNatClampNeg)), (0, .ref (b + x0)), (1, .int x1), (4, .int x4)]) hx hb dX11_fits_79 rfl hl (Nat.le_of_ble_eq_true rfl) rfl (fun ls hl => ?_)
            refine lv_goto (tgt := 99) hx hb dX11_fits_80 (by decide) ?_
            exact hJ99_12 (x3 + r20) I17 H locs ls hP hS  (lv_sub hl [2, 3, 0, 4] rfl) hf
          · have hf := ifT hf c18
            refine lv_iconst (v := (0 : Int32)) hx hb dX11_fits_67 (by decide) ?_
            exact kr (0 : Int32) I17 hf H locs ls _ dX11_fits_68 rfl hP hT hS
  obtain ⟨q_21, e_21, hf⟩ := bdS_o hf
  refine lp19 FU x0 x1 x2 (0 : Int32) I5 L R q_21 H locs ls hP hS hT h0 (lv_sub hl [2, 3, 1, 0] rfl) e_21 (fun I_21 hq H locs ls hP hS hl => ?_) (fun r_21 I_21 hq H locs ls pc1 hd hz hP hT hS => ?_)
  · have hf := elR1 hf (Option.some.inj hq).symm
    refine lv_iconst (v := (1 : Int32)) hx hb dX11_fits_105 (by decide) ?_
    exact hret (1 : Int32) I_21 hf H locs ls _ dX11_fits_106 rfl hP hT hS
  · have hf := elL2 hf (Option.some.inj hq).symm
    exact hret r_21 I_21 hf H locs ls pc1 hd hz hP hT hS
def rmX11_ruleAt : Room := { frames := 4, cells := 0, slots := 0, locals := 93 }
set_option maxHeartbeats 4000000 in
set_option maxRecDepth 100000 in
theorem k_X11_ruleAt (l : Launch) (D : va_G) (ce : Nat → ClassId) (b : Nat) (I : mI) (L : mL) (R : mR) (hT : WT kdM R) (x0 : Nat) (x1 : Int32) (h0 : kdM x0 = 17) (o1 : Int32) (o2 : mI) (hf : f_X11_ruleAt x0 x1 I R = some (o1, o2)) : Met l yX11_ruleAt (Cond.code yX11_ruleAt cX11_ruleAt 3 (some .int) :: GW) rmX11_ruleAt (va_Pc [.ref (b + x0), .int x1] (PW D ce b kdM lnM 21 I L R)) (va_Qi (fun r u => r = o1 ∧ u = (o2, L, R)) (QW D ce b kdM lnM 21) (box b 21)) 0 0 (box b 21) := by
  refine Met.ofW (cc := cX11_ruleAt) (maxL := 3) (ret := (some .int)) (by decide) rfl ?_
  intro p e s m args below meth c s₁ B hml hv
  obtain ⟨rfl, hP, hKK⟩ := hv
  have hx := B.exec
  have hb := B.bytes
  have hr := B.returns
  have hts0 := atoms_spec (ws := Cond.code yX11_ruleAt cX11_ruleAt 3 (some .int) :: GW) B.pre
  have hts : ∀ w ∈ GW, w.before _ s = true := fun w h => hts0 w (List.mem_cons_of_mem _ h)
  clear hts0
  have hown : s.vm.findClass RX11 = some m.cls := findClass_of_methodNamed B.named
  have hlocks := B.notSynchronized
  have hA : ∀ q, box b 21 q → box b 21 q := fun _ h => h
  have hS : va_S (box b 21) s.heap s.heap [] := va_S.rf
  have hl := lv_entry ([.ref (b + x0), .int x1]) (n := 3) (Nat.le_of_ble_eq_true rfl)
  rw [lg_entry_eq]
  generalize (lg_sl ([.ref (b + x0), .int x1]) ++ List.replicate (3 - (lg_sl ([.ref (b + x0), .int x1])).length) Slot.unset).toArray = ls at hl ⊢
  have hl : lv_has ls 3 [(0, .ref (b + x0)), (1, .int x1)] := hl
  generalize ([.ref (b + x0), .int x1] : List Value).toArray = av at hts ⊢
  show W p l e rmX11_ruleAt s m av below meth c s.heap [] 0 0 _ _
  obtain ⟨QQ, hQQ⟩ : ∃ z, z = MQ below (va_Qi (fun r u => r = o1 ∧ u = (o2, L, R)) (QW D ce b kdM lnM 21) (box b 21)) av s 0 0 (box b 21) := ⟨_, rfl⟩
  rw [← hQQ]
  have hret : ∀ (r : Int32) (I1 : mI), some (r, I1) = some (o1, o2) → ∀ (H1 : Heap) (locs1 : List Loc) (ls1 : Array Slot) (pc1 : Nat), decode cX11_ruleAt pc1 = .ok (.ireturn, 1) → va_P D vwCl (wd ce b kdM lnM 21 I1 L R) H1 → WT kdM R → va_S (box b 21) s.heap H1 locs1 → W p l e rmX11_ruleAt s m av below meth c H1 locs1 0 0 QQ (F0 m pc1 ls1 [.int r]) := by
    intro r I1 hq H1 locs1 ls1 pc1 hd hP hT hS
    cases hq
    rw [hQQ]
    exact mm_iret hx hb hr hlocks hP hT hS hd
  unfold f_X11_ruleAt at hf
  obtain ⟨H, hH⟩ : ∃ z, z = s.heap := ⟨_, rfl⟩
  obtain ⟨locs, hlo⟩ : ∃ z : List Loc, z = [] := ⟨_, rfl⟩
  have hP : va_P D vwCl (wd ce b kdM lnM 21 I L R) H := by rw [hH]; exact hP
  have hS : va_S (box b 21) s.heap H locs := by rw [hH, hlo]; exact hS
  rw [show W p l e rmX11_ruleAt s m av below meth c s.heap [] 0 0 QQ = W p l e rmX11_ruleAt s m av below meth c H locs 0 0 QQ by rw [hH, hlo]]
  clear hH hlo
  clear hQQ
  show W p l e rmX11_ruleAt s m av below meth c H locs 0 0 QQ (F0 m 0 ls [])
  refine lv_iconst (v := (0 : Int32)) hx hb dX11_ruleAt_0 (by decide) ?_
  refine lv_istore_n (lv' := [(2, .int (0 : Int32)), (0, .ref (b + x0)), (1, .int x1)]) hx hb dX11_ruleAt_1 rfl hl (Nat.le_of_ble_eq_true rfl) rfl (fun ls hl => ?_)
  have lp2 : ∀ (n : Nat) (x0 : Nat) (x1 : Int32) (x2 : Int32) (I : mI) (L : mL) (R : mR) (q : (Int32 × mI) ⊕ (mI)) (H : Heap) (locs : List Loc) (ls : Array Slot), va_P D vwCl (wd ce b kdM lnM 21 I L R) H → va_S (box b 21) s.heap H locs → WT kdM R → kdM x0 = 17 → lv_has ls 3 [(0, .ref (b + x0)), (1, .int x1), (2, .int x2)] → f_X11_ruleAt_L2 n x0 x1 x2 I R = some q → (∀ (I1 : mI), some (Sum.inr I1) = some q → ∀ (H1 : Heap) (locs1 : List Loc) (ls1 : Array Slot), va_P D vwCl (wd ce b kdM lnM 21 I1 L R) H1 → va_S (box b 21) s.heap H1 locs1 → lv_has ls1 3 [] → W p l e rmX11_ruleAt s m av below meth c H1 locs1 0 0 QQ (F0 m 29 ls1 [])) → (∀ (r : Int32) (I1 : mI), some (Sum.inl (r, I1)) = some q → ∀ (H1 : Heap) (locs1 : List Loc) (ls1 : Array Slot) (pc1 : Nat), decode cX11_ruleAt pc1 = .ok (.ireturn, 1) → va_P D vwCl (wd ce b kdM lnM 21 I1 L R) H1 → WT kdM R → va_S (box b 21) s.heap H1 locs1 → W p l e rmX11_ruleAt s m av below meth c H1 locs1 0 0 QQ (F0 m pc1 ls1 [.int r])) → W p l e rmX11_ruleAt s m av below meth c H locs 0 0 QQ (F0 m 2 ls []) := by
    intro n
    induction n with
    | zero =>
      intro x0 x1 x2 I L R q H locs ls hP hS hT h0 hl hf kx kr
      exact absurd (show (none : Option ((Int32 × mI) ⊕ (mI))) = some _ from hf) (by simp)
    | succ n ih =>
      intro x0 x1 x2 I L R q H locs ls hP hS hT h0 hl hf kx kr
      rw [f_X11_ruleAt_L2] at hf
      refine lv_iload_n hx hb dX11_ruleAt_2 rfl (lv_at hl 2 rfl) ?_
      refine lv_aload_n hx hb dX11_ruleAt_3 rfl (lv_at hl 0 rfl) ?_
      have t1 : kdM (R x0 0) = 1 := wt hT h0 rfl
      refine mm_getr hx hb hts hown hKK hP fk11_0 (Nat.le_of_ble_eq_true rfl) lkX11_7 (kdM_lt h0 (Nat.succ_ne_zero _)) h0 (nM t1 (Nat.succ_ne_zero _)) dX11_ruleAt_4 ?_
      refine lv_iconst (v := (0 : Int32)) hx hb dX11_ruleAt_7 (by decide) ?_
      obtain ⟨g2, hf⟩ := grd hf
      refine mm_iald hx hb hKK hP (kdM_lt t1 (Nat.succ_ne_zero _)) t1 g2 dX11_ruleAt_8 ?_
      refine lv_icmp_ge (tgt := 29) hx hb dX11_ruleAt_9 (by decide) (fun c3 => ?_) (fun c3 => ?_)
      · have hf := ifT hf c3
        exact kx I hf H locs ls hP hS (lv_sub hl [] rfl)
      · have hf := ifF hf c3
        refine lv_aload_n hx hb dX11_ruleAt_12 rfl (lv_at hl 0 rfl) ?_
        refine lv_iload_n hx hb dX11_ruleAt_13 rfl (lv_at hl 2 rfl) ?_
        refine lv_iload_n hx hb dX11_ruleAt_14 rfl (lv_at hl 1 rfl) ?_
        obtain ⟨r4, I4, e4, hf⟩ := bd2_o hf
        refine mm_Vi (rest := []) hx hb hml hown hts hKK hP hS hA (kdM_lt h0 (Nat.succ_ne_zero _)) h0 (show vwCl[11]? = some (yX11_fits.cls, TX11, 32) from rfl) vkX11_243 (k_X11_fits l D ce b I L R hT x0 x2 x1 h0 r4 I4 e4) rfl hl.1 rfl (Nat.le_of_ble_eq_true rfl) ⟨rfl, rfl⟩ ⟨Nat.le_of_ble_eq_true rfl, Nat.le_of_ble_eq_true rfl⟩ ⟨Nat.zero_le _, Nat.zero_le _⟩ dX11_ruleAt_15 (fun H locs hP hT hS => ?_)
        refine lv_if_eq (tgt := 23) hx hb dX11_ruleAt_18 (by decide) (fun c5 => ?_) (fun c5 => ?_)
        · have hf := ifT hf c5
          refine lv_iinc (v := (x2 + (1 : Int32))) (lv' := [(2, .int (x2 + (1 : Int32))), (0, .ref (b + x0)), (1, .int x1)]) hx hb dX11_ruleAt_23 hl (k := 2) rfl rfl (Nat.le_of_ble_eq_true rfl) rfl (fun ls hl => ?_)
          refine lv_goto (tgt := 2) hx hb dX11_ruleAt_26 (by decide) ?_
          exact ih x0 x1 (x2 + (1 : Int32)) I4 L R q H locs ls hP hS hT h0 (lv_sub hl [1, 2, 0] rfl) hf kx kr
        · have hf := ifF hf c5
          refine lv_iload_n hx hb dX11_ruleAt_21 rfl (lv_at hl 2 rfl) ?_
          exact kr x2 I4 hf H locs ls _ dX11_ruleAt_22 hP hT hS
  obtain ⟨q_6, e_6, hf⟩ := bdS_o hf
  refine lp2 FU x0 x1 (0 : Int32) I L R q_6 H locs ls hP hS hT h0 (lv_sub hl [1, 2, 0] rfl) e_6 (fun I_6 hq H locs ls hP hS hl => ?_) (fun r_6 I_6 hq H locs ls pc1 hd hP hT hS => ?_)
  · have hf := elR1 hf (Option.some.inj hq).symm
    refine lv_iconst (v := (-1 : Int32)) hx hb dX11_ruleAt_29 (by decide) ?_
    exact hret (-1 : Int32) I_6 hf H locs ls _ dX11_ruleAt_30 hP hT hS
  · have hf := elL2 hf (Option.some.inj hq).symm
    exact hret r_6 I_6 hf H locs ls pc1 hd hP hT hS
def rmX11_findsTurn : Room := { frames := 5, cells := 0, slots := 0, locals := 115 }
set_option maxHeartbeats 4000000 in
set_option maxRecDepth 100000 in
theorem k_X11_findsTurn (l : Launch) (D : va_G) (ce : Nat → ClassId) (b : Nat) (I : mI) (L : mL) (R : mR) (hT : WT kdM R) (x0 : Nat) (h0 : kdM x0 = 17) (o1 : Int32) (o2 : mI) (hf : f_X11_findsTurn x0 I R = some (o1, o2)) : Met l yX11_findsTurn (Cond.code yX11_findsTurn cX11_findsTurn 5 (some .boolean) :: GW) rmX11_findsTurn (va_Pc [.ref (b + x0)] (PW D ce b kdM lnM 21 I L R)) (va_Qi (fun r u => r = o1 ∧ u = (o2, L, R)) (QW D ce b kdM lnM 21) (box b 21)) 0 0 (box b 21) := by
  refine Met.ofW (cc := cX11_findsTurn) (maxL := 5) (ret := (some .boolean)) (by decide) rfl ?_
  intro p e s m args below meth c s₁ B hml hv
  obtain ⟨rfl, hP, hKK⟩ := hv
  have hx := B.exec
  have hb := B.bytes
  have hr := B.returns
  have hts0 := atoms_spec (ws := Cond.code yX11_findsTurn cX11_findsTurn 5 (some .boolean) :: GW) B.pre
  have hts : ∀ w ∈ GW, w.before _ s = true := fun w h => hts0 w (List.mem_cons_of_mem _ h)
  clear hts0
  have hown : s.vm.findClass RX11 = some m.cls := findClass_of_methodNamed B.named
  have hlocks := B.notSynchronized
  have hA : ∀ q, box b 21 q → box b 21 q := fun _ h => h
  have hS : va_S (box b 21) s.heap s.heap [] := va_S.rf
  have hl := lv_entry ([.ref (b + x0)]) (n := 5) (Nat.le_of_ble_eq_true rfl)
  rw [lg_entry_eq]
  generalize (lg_sl ([.ref (b + x0)]) ++ List.replicate (5 - (lg_sl ([.ref (b + x0)])).length) Slot.unset).toArray = ls at hl ⊢
  have hl : lv_has ls 5 [(0, .ref (b + x0))] := hl
  generalize ([.ref (b + x0)] : List Value).toArray = av at hts ⊢
  show W p l e rmX11_findsTurn s m av below meth c s.heap [] 0 0 _ _
  obtain ⟨QQ, hQQ⟩ : ∃ z, z = MQ below (va_Qi (fun r u => r = o1 ∧ u = (o2, L, R)) (QW D ce b kdM lnM 21) (box b 21)) av s 0 0 (box b 21) := ⟨_, rfl⟩
  rw [← hQQ]
  have hret : ∀ (r : Int32) (I1 : mI), some (r, I1) = some (o1, o2) → ∀ (H1 : Heap) (locs1 : List Loc) (ls1 : Array Slot) (pc1 : Nat), decode cX11_findsTurn pc1 = .ok (.ireturn, 1) → zb r = true → va_P D vwCl (wd ce b kdM lnM 21 I1 L R) H1 → WT kdM R → va_S (box b 21) s.heap H1 locs1 → W p l e rmX11_findsTurn s m av below meth c H1 locs1 0 0 QQ (F0 m pc1 ls1 [.int r]) := by
    intro r I1 hq H1 locs1 ls1 pc1 hd hz hP hT hS
    cases hq
    rw [hQQ]
    exact mm_zret hx hb hr hlocks hz hP hT hS hd
  unfold f_X11_findsTurn at hf
  obtain ⟨H, hH⟩ : ∃ z, z = s.heap := ⟨_, rfl⟩
  obtain ⟨locs, hlo⟩ : ∃ z : List Loc, z = [] := ⟨_, rfl⟩
  have hP : va_P D vwCl (wd ce b kdM lnM 21 I L R) H := by rw [hH]; exact hP
  have hS : va_S (box b 21) s.heap H locs := by rw [hH, hlo]; exact hS
  rw [show W p l e rmX11_findsTurn s m av below meth c s.heap [] 0 0 QQ = W p l e rmX11_findsTurn s m av below meth c H locs 0 0 QQ by rw [hH, hlo]]
  clear hH hlo
  clear hQQ
  show W p l e rmX11_findsTurn s m av below meth c H locs 0 0 QQ (F0 m 0 ls [])
  refine lv_iconst (v := (0 : Int32)) hx hb dX11_findsTurn_0 (by decide) ?_
  refine lv_istore_n (lv' := [(1, .int (0 : Int32)), (0, .ref (b + x0))]) hx hb dX11_findsTurn_1 rfl hl (Nat.le_of_ble_eq_true rfl) rfl (fun ls hl => ?_)
  have lp2 : ∀ (n : Nat) (x0 : Nat) (x1 : Int32) (I : mI) (L : mL) (R : mR) (q : (Int32 × mI) ⊕ (mI)) (H : Heap) (locs : List Loc) (ls : Array Slot), va_P D vwCl (wd ce b kdM lnM 21 I L R) H → va_S (box b 21) s.heap H locs → WT kdM R → kdM x0 = 17 → lv_has ls 5 [(0, .ref (b + x0)), (1, .int x1)] → f_X11_findsTurn_L2 n x0 x1 I R = some q → (∀ (I1 : mI), some (Sum.inr I1) = some q → ∀ (H1 : Heap) (locs1 : List Loc) (ls1 : Array Slot), va_P D vwCl (wd ce b kdM lnM 21 I1 L R) H1 → va_S (box b 21) s.heap H1 locs1 → lv_has ls1 5 [(0, .ref (b + x0))] → W p l e rmX11_findsTurn s m av below meth c H1 locs1 0 0 QQ (F0 m 94 ls1 [])) → (∀ (r : Int32) (I1 : mI), some (Sum.inl (r, I1)) = some q → ∀ (H1 : Heap) (locs1 : List Loc) (ls1 : Array Slot) (pc1 : Nat), decode cX11_findsTurn pc1 = .ok (.ireturn, 1) → zb r = true → va_P D vwCl (wd ce b kdM lnM 21 I1 L R) H1 → WT kdM R → va_S (box b 21) s.heap H1 locs1 → W p l e rmX11_findsTurn s m av below meth c H1 locs1 0 0 QQ (F0 m pc1 ls1 [.int r])) → W p l e rmX11_findsTurn s m av below meth c H locs 0 0 QQ (F0 m 2 ls []) := by
    intro n
    induction n with
    | zero =>
      intro x0 x1 I L R q H locs ls hP hS hT h0 hl hf kx kr
      exact absurd (show (none : Option ((Int32 × mI) ⊕ (mI))) = some _ from hf) (by simp)
    | succ n ih =>
      intro x0 x1 I L R q H locs ls hP hS hT h0 hl hf kx kr
      rw [f_X11_findsTurn_L2] at hf
      refine lv_iload_n hx hb dX11_findsTurn_2 rfl (lv_at hl 1 rfl) ?_
      refine lv_aload_n hx hb dX11_findsTurn_3 rfl (lv_at hl 0 rfl) ?_
      refine mm_geti hx hb hts hown hKK hP fk11_24 (Or.inl rfl) lkX11_237 (kdM_lt h0 (Nat.succ_ne_zero _)) h0 dX11_findsTurn_4 ?_
      refine lv_icmp_ge (tgt := 94) hx hb dX11_findsTurn_7 (by decide) (fun c1 => ?_) (fun c1 => ?_)
      · have hf := ifT hf c1
        exact kx I hf H locs ls hP hS (lv_sub hl [0] rfl)
      · have hf := ifF hf c1
        refine lv_aload_n hx hb dX11_findsTurn_10 rfl (lv_at hl 0 rfl) ?_
        refine lv_aload_n hx hb dX11_findsTurn_11 rfl (lv_at hl 0 rfl) ?_
        refine lv_iload_n hx hb dX11_findsTurn_12 rfl (lv_at hl 1 rfl) ?_
        obtain ⟨r2, I2, e2, hf⟩ := bd2_o hf
        refine mm_Vi (rest := [.ref (b + x0)]) hx hb hml hown hts hKK hP hS hA (kdM_lt h0 (Nat.succ_ne_zero _)) h0 (show vwCl[11]? = some (yX11_ruleAt.cls, TX11, 32) from rfl) vkX11_246 (k_X11_ruleAt l D ce b I L R hT x0 x1 h0 r2 I2 e2) rfl hl.1 rfl (Nat.le_of_ble_eq_true rfl) ⟨rfl, rfl⟩ ⟨Nat.le_of_ble_eq_true rfl, Nat.le_of_ble_eq_true rfl⟩ ⟨Nat.zero_le _, Nat.zero_le _⟩ dX11_findsTurn_13 (fun H locs hP hT hS => ?_)
        refine jnE hf (fun I3 eI3 hf => ?_)
        refine mm_puti hx hb hts hown hKK hP hA hS fk11_28 (Or.inl rfl) fw11_28 lkX11_249 (kdM_lt h0 (Nat.succ_ne_zero _)) h0 rfl rfl dX11_findsTurn_16 (fun H locs hP hS => ?_)
        rw [← eI3] at hP
        refine lv_aload_n hx hb dX11_findsTurn_19 rfl (lv_at hl 0 rfl) ?_
        refine mm_geti hx hb hts hown hKK hP fk11_28 (Or.inl rfl) lkX11_249 (kdM_lt h0 (Nat.succ_ne_zero _)) h0 dX11_findsTurn_20 ?_
        refine lv_iconst (v := (-1 : Int32)) hx hb dX11_findsTurn_23 (by decide) ?_
        refine jnE hf (fun j88_4 ej_4 hf => ?_)
        have hJ88_4 : ∀ (I_4 : mI) (H : Heap) (locs : List Loc) (ls : Array Slot), va_P D vwCl (wd ce b kdM lnM 21 I_4 L R) H → va_S (box b 21) s.heap H locs → lv_has ls 5 [(0, .ref (b + x0)), (1, .int x1)] → j88_4 I_4 = some q → W p l e rmX11_findsTurn s m av below meth c H locs 0 0 QQ (F0 m 88 ls []) := by
          intro I_4 H locs ls hP hS  hl hf
          rw [ej_4] at hf
          try dsimp only at hf
          refine lv_iinc (v := (x1 + (1 : Int32))) (lv' := [(1, .int (x1 + (1 : Int32))), (0, .ref (b + x0))]) hx hb dX11_findsTurn_88 hl (k := 1) rfl rfl (Nat.le_of_ble_eq_true rfl) rfl (fun ls hl => ?_)
          refine lv_goto (tgt := 2) hx hb dX11_findsTurn_91 (by decide) ?_
          exact ih x0 (x1 + (1 : Int32)) I_4 L R q H locs ls hP hS hT h0 (lv_sub hl [1, 0] rfl) hf kx kr
        clear ej_4
        refine lv_icmp_eq (tgt := 88) hx hb dX11_findsTurn_24 (by decide) (fun c5 => ?_) (fun c5 => ?_)
        · have hf := ifT hf c5
          exact hJ88_4 I3 H locs ls hP hS  (lv_sub hl [0, 1] rfl) hf
        · have hf := ifF hf c5
          refine lv_iconst (v := (0 : Int32)) hx hb dX11_findsTurn_27 (by decide) ?_
          refine lv_istore_n (lv' := [(2, .int (0 : Int32)), (0, .ref (b + x0)), (1, .int x1)]) hx hb dX11_findsTurn_28 rfl hl (Nat.le_of_ble_eq_true rfl) rfl (fun ls hl => ?_)
          refine lv_iload_n hx hb dX11_findsTurn_29 rfl (lv_at hl 2 rfl) ?_
          refine lv_aload_n hx hb dX11_findsTurn_30 rfl (lv_at hl 1 rfl) ?_
          have t6 : kdM (R x0 23) = 1 := wt hT h0 rfl
          refine mm_getr hx hb hts hown hKK hP fk11_23 (Nat.le_of_ble_eq_true rfl) lkX11_60 (kdM_lt h0 (Nat.succ_ne_zero _)) h0 (nM t6 (Nat.succ_ne_zero _)) dX11_findsTurn_31 ?_
          refine lv_iload_n hx hb dX11_findsTurn_34 rfl (lv_at hl 2 rfl) ?_
          obtain ⟨r7, e7, hf⟩ := bd1_o hf
          refine mm_Si (rest := [.int x1]) hx hb hml hown hts hKK hP hS hA skX11_207 (k_X11_longAt l D ce b I3 L R hT (R x0 23) x1 t6 r7 e7) rfl hl.1 rfl (Nat.le_of_ble_eq_true rfl) ⟨rfl, rfl⟩ ⟨Nat.le_of_ble_eq_true rfl, Nat.le_of_ble_eq_true rfl⟩ ⟨Nat.zero_le _, Nat.zero_le _⟩ dX11_findsTurn_35 (fun H locs hP hT hS => ?_)
          refine lv_iadd hx hb dX11_findsTurn_38 ?_
          refine lv_istore_n (lv' := [(3, .int (x1 + r7)), (2, .int (0 : Int32)), (0, .ref (b + x0)), (1, .int x1)]) hx hb dX11_findsTurn_39 rfl hl (Nat.le_of_ble_eq_true rfl) rfl (fun ls hl => ?_)
          refine lv_iload_n hx hb dX11_findsTurn_40 rfl (lv_at hl 3 rfl) ?_
          refine lv_iconst (v := (1 : Int32)) hx hb dX11_findsTurn_41 (by decide) ?_
          refine lv_iadd hx hb dX11_findsTurn_42 ?_
          refine lv_istore (lv' := [(4, .int (x1 + (1 : Int32))), (3, .int (x1 + r7)), (2, .int (0 : Int32)), (0, .ref (b + x0)), (1, .int x1)]) hx hb dX11_findsTurn_43 hl (Nat.le_of_ble_eq_true rfl) rfl (fun ls hl => ?_)
          have lp45 : ∀ (n : Nat) (x0 : Nat) (x1 : Int32) (x2 : Int32) (x3 : Int32) (x4 : Int32) (I : mI) (L : mL) (R : mR) (a1 : Int32) (a2 : mI) (H : Heap) (locs : List Loc) (ls : Array Slot), va_P D vwCl (wd ce b kdM lnM 21 I L R) H → va_S (box b 21) s.heap H locs → WT kdM R → kdM x0 = 17 → lv_has ls 5 [(0, .ref (b + x0)), (1, .int x1), (2, .int x2), (3, .int x3), (4, .int x4)] → f_X11_findsTurn_L45 n x0 x1 x2 x3 x4 I R = some (a1, a2) → (∀ (H1 : Heap) (locs1 : List Loc) (ls1 : Array Slot), va_P D vwCl (wd ce b kdM lnM 21 a2 L R) H1 → va_S (box b 21) s.heap H1 locs1 → lv_has ls1 5 [(0, .ref (b + x0)), (1, .int x1), (2, .int a1)] → W p l e rmX11_findsTurn s m av below meth c H1 locs1 0 0 QQ (F0 m 77 ls1 [])) → W p l e rmX11_findsTurn s m av below meth c H locs 0 0 QQ (F0 m 45 ls []) := by
            intro n
            induction n with
            | zero =>
              intro x0 x1 x2 x3 x4 I L R a1 a2 H locs ls hP hS hT h0 hl hf kx
              exact absurd (show (none : Option (Int32 × mI)) = some _ from hf) (by simp)
            | succ n ih =>
              intro x0 x1 x2 x3 x4 I L R a1 a2 H locs ls hP hS hT h0 hl hf kx
              rw [f_X11_findsTurn_L45] at hf
              refine lv_iload hx hb dX11_findsTurn_45 (lv_at hl 4 rfl) ?_
              refine lv_iload_n hx hb dX11_findsTurn_47 rfl (lv_at hl 3 rfl) ?_
              refine lv_icmp_ge (tgt := 77) hx hb dX11_findsTurn_48 (by decide) (fun c8 => ?_) (fun c8 => ?_)
              · have hf := ifT hf c8
                cases hf
                exact kx H locs ls hP hS (lv_sub hl [0, 1, 2] rfl)
              · have hf := ifF hf c8
                refine lv_iload_n hx hb dX11_findsTurn_51 rfl (lv_at hl 2 rfl) ?_
                refine jnE hf (fun j70_9 ej_9 hf => ?_)
                have hJ70_9 : ∀ (w0_9 : Int32) (I_9 : mI) (H : Heap) (locs : List Loc) (ls : Array Slot), va_P D vwCl (wd ce b kdM lnM 21 I_9 L R) H → va_S (box b 21) s.heap H locs → lv_has ls 5 [(0, .ref (b + x0)), (1, .int x1), (3, .int x3), (4, .int x4)] → j70_9 w0_9 I_9 = some (a1, a2) → W p l e rmX11_findsTurn s m av below meth c H locs 0 0 QQ (F0 m 70 ls [.int w0_9]) := by
                  intro w0_9 I_9 H locs ls hP hS  hl hf
                  rw [ej_9] at hf
                  try dsimp only at hf
                  refine lv_istore_n (lv' := [(2, .int w0_9), (0, .ref (b + x0)), (1, .int x1), (3, .int x3), (4, .int x4)]) hx hb dX11_findsTurn_70 rfl hl (Nat.le_of_ble_eq_true rfl) rfl (fun ls hl => ?_)
                  refine lv_iinc (v := (x4 + (1 : Int32))) (lv' := [(4, .int (x4 + (1 : Int32))), (2, .int w0_9), (0, .ref (b + x0)), (1, .int x1), (3, .int x3)]) hx hb dX11_findsTurn_71 hl (k := 4) rfl rfl (Nat.le_of_ble_eq_true rfl) rfl (fun ls hl => ?_)
                  refine lv_goto (tgt := 45) hx hb dX11_findsTurn_74 (by decide) ?_
                  exact ih x0 x1 w0_9 x3 (x4 + (1 : Int32)) I_9 L R a1 a2 H locs ls hP hS hT h0 (lv_sub hl [2, 3, 1, 4, 0] rfl) hf kx
                clear ej_9
                refine jnE hf (fun j65_10 ej_10 hf => ?_)
                have hJ65_10 : ∀ (I_10 : mI) (H : Heap) (locs : List Loc) (ls : Array Slot), va_P D vwCl (wd ce b kdM lnM 21 I_10 L R) H → va_S (box b 21) s.heap H locs → lv_has ls 5 [(0, .ref (b + x0)), (1, .int x1), (3, .int x3), (4, .int x4)] → j65_10 I_10 = some (a1, a2) → W p l e rmX11_findsTurn s m av below meth c H locs 0 0 QQ (F0 m 65 ls []) := by
                  intro I_10 H locs ls hP hS  hl hf
                  rw [ej_10] at hf
                  try dsimp only at hf
                  refine lv_iconst (v := (1 : Int32)) hx hb dX11_findsTurn_65 (by decide) ?_
                  refine lv_goto (tgt := 70) hx hb dX11_findsTurn_66 (by decide) ?_
                  exact hJ70_9 (1 : Int32) I_10 H locs ls hP hS  (lv_sub hl [0, 1, 2, 3] rfl) hf
                clear ej_10
                refine lv_if_ne (tgt := 65) hx hb dX11_findsTurn_52 (by decide) (fun c11 => ?_) (fun c11 => ?_)
                · have hf := ifF hf c11
                  exact hJ65_10 I H locs ls hP hS  (lv_sub hl [0, 1, 3, 4] rfl) hf
                · have hf := ifT hf c11
                  refine lv_aload_n hx hb dX11_findsTurn_55 rfl (lv_at hl 0 rfl) ?_
                  refine lv_iload hx hb dX11_findsTurn_56 (lv_at hl 4 rfl) ?_
                  obtain ⟨r12, I12, e12, hf⟩ := bd2_o hf
                  refine mm_Vi (rest := []) hx hb hml hown hts hKK hP hS hA (kdM_lt h0 (Nat.succ_ne_zero _)) h0 (show vwCl[11]? = some (yX11_ruleAt.cls, TX11, 32) from rfl) vkX11_246 (k_X11_ruleAt l D ce b I L R hT x0 x4 h0 r12 I12 e12) rfl hl.1 rfl (Nat.le_of_ble_eq_true rfl) ⟨rfl, rfl⟩ ⟨Nat.le_of_ble_eq_true rfl, Nat.le_of_ble_eq_true rfl⟩ ⟨Nat.zero_le _, Nat.zero_le _⟩ dX11_findsTurn_58 (fun H locs hP hT hS => ?_)
                  refine lv_iconst (v := (-1 : Int32)) hx hb dX11_findsTurn_61 (by decide) ?_
                  refine lv_icmp_eq (tgt := 69) hx hb dX11_findsTurn_62 (by decide) (fun c13 => ?_) (fun c13 => ?_)
                  · have hf := ifT hf c13
                    refine lv_iconst (v := (0 : Int32)) hx hb dX11_findsTurn_69 (by decide) ?_
                    exact hJ70_9 (0 : Int32) I12 H locs ls hP hS  (lv_sub hl [0, 1, 3, 4] rfl) hf
                  · have hf := ifF hf c13
                    exact hJ65_10 I12 H locs ls hP hS  (lv_sub hl [0, 1, 3, 4] rfl) hf
          obtain ⟨y2_14, I_14, e_14, hf⟩ := bd2_o hf
          refine lp45 FU x0 x1 (0 : Int32) (x1 + r7) (x1 + (1 : Int32)) I3 L R y2_14 I_14 H locs ls hP hS hT h0 (lv_sub hl [3, 4, 2, 1, 0] rfl) e_14 (fun H locs ls hP hS hl => ?_)
          refine lv_iload_n hx hb dX11_findsTurn_77 rfl (lv_at hl 2 rfl) ?_
          refine lv_if_ne (tgt := 88) hx hb dX11_findsTurn_78 (by decide) (fun c15 => ?_) (fun c15 => ?_)
          · have hf := ifF hf c15
            exact hJ88_4 I_14 H locs ls hP hS  (lv_sub hl [0, 1] rfl) hf
          · have hf := ifT hf c15
            refine lv_aload_n hx hb dX11_findsTurn_81 rfl (lv_at hl 0 rfl) ?_
            refine lv_iload_n hx hb dX11_findsTurn_82 rfl (lv_at hl 1 rfl) ?_
            refine jnE hf (fun I16 eI16 hf => ?_)
            refine mm_puti hx hb hts hown hKK hP hA hS fk11_29 (Or.inl rfl) fw11_29 lkX11_252 (kdM_lt h0 (Nat.succ_ne_zero _)) h0 rfl rfl dX11_findsTurn_83 (fun H locs hP hS => ?_)
            rw [← eI16] at hP
            refine lv_iconst (v := (1 : Int32)) hx hb dX11_findsTurn_86 (by decide) ?_
            exact kr (1 : Int32) I16 hf H locs ls _ dX11_findsTurn_87 rfl hP hT hS
  obtain ⟨q_17, e_17, hf⟩ := bdS_o hf
  refine lp2 FU x0 (0 : Int32) I L R q_17 H locs ls hP hS hT h0 (lv_sub hl [1, 0] rfl) e_17 (fun I_17 hq H locs ls hP hS hl => ?_) (fun r_17 I_17 hq H locs ls pc1 hd hz hP hT hS => ?_)
  · have hf := elR1 hf (Option.some.inj hq).symm
    refine lv_aload_n hx hb dX11_findsTurn_94 rfl (lv_at hl 0 rfl) ?_
    refine lv_iconst (v := (-1 : Int32)) hx hb dX11_findsTurn_95 (by decide) ?_
    refine jnE hf (fun I18 eI18 hf => ?_)
    refine mm_puti hx hb hts hown hKK hP hA hS fk11_28 (Or.inl rfl) fw11_28 lkX11_249 (kdM_lt h0 (Nat.succ_ne_zero _)) h0 rfl rfl dX11_findsTurn_96 (fun H locs hP hS => ?_)
    rw [← eI18] at hP
    refine lv_iconst (v := (0 : Int32)) hx hb dX11_findsTurn_99 (by decide) ?_
    exact hret (0 : Int32) I18 hf H locs ls _ dX11_findsTurn_100 rfl hP hT hS
  · have hf := elL2 hf (Option.some.inj hq).symm
    exact hret r_17 I_17 hf H locs ls pc1 hd hz hP hT hS
def rmX11_makes : Room := { frames := 0, cells := 0, slots := 0, locals := 0 }
set_option maxHeartbeats 4000000 in
set_option maxRecDepth 100000 in
theorem k_X11_makes (l : Launch) (D : va_G) (ce : Nat → ClassId) (b : Nat) (I : mI) (L : mL) (R : mR) (hT : WT kdM R) (x0 : Nat) (x1 : Int32) (x2 : Int32) (h0 : kdM x0 = 17) (o1 : mI) (hf : f_X11_makes x0 x1 x2 I R = some o1) : Met l yX11_makes (Cond.code yX11_makes cX11_makes 4 none :: GW) rmX11_makes (va_Pc [.ref (b + x0), .int x1, .int x2] (PW D ce b kdM lnM 21 I L R)) (va_Qv (fun u => u = (o1, L, R)) (QW D ce b kdM lnM 21) (box b 21)) 0 0 (box b 21) := by
  refine Met.ofW (cc := cX11_makes) (maxL := 4) (ret := none) (by decide) rfl ?_
  intro p e s m args below meth c s₁ B hml hv
  obtain ⟨rfl, hP, hKK⟩ := hv
  have hx := B.exec
  have hb := B.bytes
  have hr := B.returns
  have hts0 := atoms_spec (ws := Cond.code yX11_makes cX11_makes 4 none :: GW) B.pre
  have hts : ∀ w ∈ GW, w.before _ s = true := fun w h => hts0 w (List.mem_cons_of_mem _ h)
  clear hts0
  have hown : s.vm.findClass RX11 = some m.cls := findClass_of_methodNamed B.named
  have hlocks := B.notSynchronized
  have hA : ∀ q, box b 21 q → box b 21 q := fun _ h => h
  have hS : va_S (box b 21) s.heap s.heap [] := va_S.rf
  have hl := lv_entry ([.ref (b + x0), .int x1, .int x2]) (n := 4) (Nat.le_of_ble_eq_true rfl)
  rw [lg_entry_eq]
  generalize (lg_sl ([.ref (b + x0), .int x1, .int x2]) ++ List.replicate (4 - (lg_sl ([.ref (b + x0), .int x1, .int x2])).length) Slot.unset).toArray = ls at hl ⊢
  have hl : lv_has ls 4 [(0, .ref (b + x0)), (1, .int x1), (2, .int x2)] := hl
  generalize ([.ref (b + x0), .int x1, .int x2] : List Value).toArray = av at hts ⊢
  show W p l e rmX11_makes s m av below meth c s.heap [] 0 0 _ _
  obtain ⟨QQ, hQQ⟩ : ∃ z, z = MQ below (va_Qv (fun u => u = (o1, L, R)) (QW D ce b kdM lnM 21) (box b 21)) av s 0 0 (box b 21) := ⟨_, rfl⟩
  rw [← hQQ]
  have hret : ∀ (I1 : mI), some I1 = some o1 → ∀ (H1 : Heap) (locs1 : List Loc) (ls1 : Array Slot) (pc1 : Nat), decode cX11_makes pc1 = .ok (.return_, 1) → va_P D vwCl (wd ce b kdM lnM 21 I1 L R) H1 → WT kdM R → va_S (box b 21) s.heap H1 locs1 → W p l e rmX11_makes s m av below meth c H1 locs1 0 0 QQ (F0 m pc1 ls1 []) := by
    intro I1 hq H1 locs1 ls1 pc1 hd hP hT hS
    cases hq
    rw [hQQ]
    exact mm_vret hx hb hr hlocks hP hT hS hd
  unfold f_X11_makes at hf
  obtain ⟨H, hH⟩ : ∃ z, z = s.heap := ⟨_, rfl⟩
  obtain ⟨locs, hlo⟩ : ∃ z : List Loc, z = [] := ⟨_, rfl⟩
  have hP : va_P D vwCl (wd ce b kdM lnM 21 I L R) H := by rw [hH]; exact hP
  have hS : va_S (box b 21) s.heap H locs := by rw [hH, hlo]; exact hS
  rw [show W p l e rmX11_makes s m av below meth c s.heap [] 0 0 QQ = W p l e rmX11_makes s m av below meth c H locs 0 0 QQ by rw [hH, hlo]]
  clear hH hlo
  clear hQQ
  show W p l e rmX11_makes s m av below meth c H locs 0 0 QQ (F0 m 0 ls [])
  refine lv_iconst (v := (0 : Int32)) hx hb dX11_makes_0 (by decide) ?_
  refine lv_istore_n (lv' := [(3, .int (0 : Int32)), (0, .ref (b + x0)), (1, .int x1), (2, .int x2)]) hx hb dX11_makes_1 rfl hl (Nat.le_of_ble_eq_true rfl) rfl (fun ls hl => ?_)
  have lp2 : ∀ (n : Nat) (x0 : Nat) (x1 : Int32) (x2 : Int32) (x3 : Int32) (I : mI) (L : mL) (R : mR) (a1 : mI) (H : Heap) (locs : List Loc) (ls : Array Slot), va_P D vwCl (wd ce b kdM lnM 21 I L R) H → va_S (box b 21) s.heap H locs → WT kdM R → kdM x0 = 17 → lv_has ls 4 [(0, .ref (b + x0)), (1, .int x1), (2, .int x2), (3, .int x3)] → f_X11_makes_L2 n x0 x1 x2 x3 I R = some a1 → (∀ (H1 : Heap) (locs1 : List Loc) (ls1 : Array Slot), va_P D vwCl (wd ce b kdM lnM 21 a1 L R) H1 → va_S (box b 21) s.heap H1 locs1 → lv_has ls1 4 [] → W p l e rmX11_makes s m av below meth c H1 locs1 0 0 QQ (F0 m 50 ls1 [])) → W p l e rmX11_makes s m av below meth c H locs 0 0 QQ (F0 m 2 ls []) := by
    intro n
    induction n with
    | zero =>
      intro x0 x1 x2 x3 I L R a1 H locs ls hP hS hT h0 hl hf kx
      exact absurd (show (none : Option (mI)) = some _ from hf) (by simp)
    | succ n ih =>
      intro x0 x1 x2 x3 I L R a1 H locs ls hP hS hT h0 hl hf kx
      rw [f_X11_makes_L2] at hf
      refine lv_iload_n hx hb dX11_makes_2 rfl (lv_at hl 3 rfl) ?_
      refine lv_iload_n hx hb dX11_makes_3 rfl (lv_at hl 2 rfl) ?_
      refine lv_icmp_ge (tgt := 50) hx hb dX11_makes_4 (by decide) (fun c1 => ?_) (fun c1 => ?_)
      · have hf := ifT hf c1
        cases hf
        exact kx H locs ls hP hS (lv_sub hl [] rfl)
      · have hf := ifF hf c1
        refine lv_aload_n hx hb dX11_makes_7 rfl (lv_at hl 0 rfl) ?_
        refine mm_geti hx hb hts hown hKK hP fk11_30 (Or.inl rfl) lkX11_255 (kdM_lt h0 (Nat.succ_ne_zero _)) h0 dX11_makes_8 ?_
        refine lv_sipush (v := (200 : Int32)) hx hb dX11_makes_11 (by decide) ?_
        refine jnE hf (fun j34_2 ej_2 hf => ?_)
        have hJ34_2 : ∀ (I_2 : mI) (H : Heap) (locs : List Loc) (ls : Array Slot), va_P D vwCl (wd ce b kdM lnM 21 I_2 L R) H → va_S (box b 21) s.heap H locs → lv_has ls 4 [(0, .ref (b + x0)), (1, .int x1), (2, .int x2), (3, .int x3)] → j34_2 I_2 = some a1 → W p l e rmX11_makes s m av below meth c H locs 0 0 QQ (F0 m 34 ls []) := by
          intro I_2 H locs ls hP hS  hl hf
          rw [ej_2] at hf
          try dsimp only at hf
          refine lv_aload_n hx hb dX11_makes_34 rfl (lv_at hl 0 rfl) ?_
          refine lv_dup hx hb dX11_makes_35 rfl ?_
          refine mm_geti hx hb hts hown hKK hP fk11_30 (Or.inl rfl) lkX11_255 (kdM_lt h0 (Nat.succ_ne_zero _)) h0 dX11_makes_36 ?_
          refine lv_iconst (v := (1 : Int32)) hx hb dX11_makes_39 (by decide) ?_
          refine lv_iadd hx hb dX11_makes_40 ?_
          refine jnE hf (fun I3 eI3 hf => ?_)
          refine mm_puti hx hb hts hown hKK hP hA hS fk11_30 (Or.inl rfl) fw11_30 lkX11_255 (kdM_lt h0 (Nat.succ_ne_zero _)) h0 rfl rfl dX11_makes_41 (fun H locs hP hS => ?_)
          rw [← eI3] at hP
          refine lv_iinc (v := (x3 + (1 : Int32))) (lv' := [(3, .int (x3 + (1 : Int32))), (0, .ref (b + x0)), (1, .int x1), (2, .int x2)]) hx hb dX11_makes_44 hl (k := 3) rfl rfl (Nat.le_of_ble_eq_true rfl) rfl (fun ls hl => ?_)
          refine lv_goto (tgt := 2) hx hb dX11_makes_47 (by decide) ?_
          exact ih x0 x1 x2 (x3 + (1 : Int32)) I3 L R a1 H locs ls hP hS hT h0 (lv_sub hl [1, 2, 3, 0] rfl) hf kx
        clear ej_2
        refine lv_icmp_ge (tgt := 34) hx hb dX11_makes_14 (by decide) (fun c4 => ?_) (fun c4 => ?_)
        · have hf := ifT hf c4
          exact hJ34_2 I H locs ls hP hS  (lv_sub hl [0, 1, 2, 3] rfl) hf
        · have hf := ifF hf c4
          refine lv_aload_n hx hb dX11_makes_17 rfl (lv_at hl 0 rfl) ?_
          have t5 : kdM (R x0 25) = 1 := wt hT h0 rfl
          refine mm_getr hx hb hts hown hKK hP fk11_25 (Nat.le_of_ble_eq_true rfl) lkX11_63 (kdM_lt h0 (Nat.succ_ne_zero _)) h0 (nM t5 (Nat.succ_ne_zero _)) dX11_makes_18 ?_
          refine lv_aload_n hx hb dX11_makes_21 rfl (lv_at hl 0 rfl) ?_
          refine mm_geti hx hb hts hown hKK hP fk11_30 (Or.inl rfl) lkX11_255 (kdM_lt h0 (Nat.succ_ne_zero _)) h0 dX11_makes_22 ?_
          refine lv_aload_n hx hb dX11_makes_25 rfl (lv_at hl 0 rfl) ?_
          have t6 : kdM (R x0 23) = 1 := wt hT h0 rfl
          refine mm_getr hx hb hts hown hKK hP fk11_23 (Nat.le_of_ble_eq_true rfl) lkX11_60 (kdM_lt h0 (Nat.succ_ne_zero _)) h0 (nM t6 (Nat.succ_ne_zero _)) dX11_makes_26 ?_
          refine lv_iload_n hx hb dX11_makes_29 rfl (lv_at hl 1 rfl) ?_
          refine lv_iload_n hx hb dX11_makes_30 rfl (lv_at hl 3 rfl) ?_
          refine lv_iadd hx hb dX11_makes_31 ?_
          obtain ⟨g7, hf⟩ := grd hf
          refine mm_iald hx hb hKK hP (kdM_lt t6 (Nat.succ_ne_zero _)) t6 g7 dX11_makes_32 ?_
          obtain ⟨g8, hf⟩ := grd hf
          refine jnE hf (fun I9 eI9 hf => ?_)
          refine mm_iast hx hb hKK hP hA hS (kdM_lt t5 (Nat.succ_ne_zero _)) t5 g8 dX11_makes_33 (fun H locs hP hS => ?_)
          rw [← eI9] at hP
          exact hJ34_2 I9 H locs ls hP hS  (lv_sub hl [0, 1, 2, 3] rfl) hf
  obtain ⟨I_10, e_10, hf⟩ := bd1_o hf
  refine lp2 FU x0 x1 x2 (0 : Int32) I L R I_10 H locs ls hP hS hT h0 (lv_sub hl [1, 2, 3, 0] rfl) e_10 (fun H locs ls hP hS hl => ?_)
  exact hret I_10 hf H locs ls _ dX11_makes_50 hP hT hS
def rmX11_doesTurn : Room := { frames := 4, cells := 0, slots := 0, locals := 93 }
set_option maxHeartbeats 4000000 in
set_option maxRecDepth 100000 in
theorem k_X11_doesTurn (l : Launch) (D : va_G) (ce : Nat → ClassId) (b : Nat) (I : mI) (L : mL) (R : mR) (hT : WT kdM R) (x0 : Nat) (h0 : kdM x0 = 17) (o1 : Int32) (o2 : mI) (hf : f_X11_doesTurn x0 I R = some (o1, o2)) : Met l yX11_doesTurn (Cond.code yX11_doesTurn cX11_doesTurn 4 (some .boolean) :: GW) rmX11_doesTurn (va_Pc [.ref (b + x0)] (PW D ce b kdM lnM 21 I L R)) (va_Qi (fun r u => r = o1 ∧ u = (o2, L, R)) (QW D ce b kdM lnM 21) (box b 21)) 0 0 (box b 21) := by
  refine Met.ofW (cc := cX11_doesTurn) (maxL := 4) (ret := (some .boolean)) (by decide) rfl ?_
  intro p e s m args below meth c s₁ B hml hv
  obtain ⟨rfl, hP, hKK⟩ := hv
  have hx := B.exec
  have hb := B.bytes
  have hr := B.returns
  have hts0 := atoms_spec (ws := Cond.code yX11_doesTurn cX11_doesTurn 4 (some .boolean) :: GW) B.pre
  have hts : ∀ w ∈ GW, w.before _ s = true := fun w h => hts0 w (List.mem_cons_of_mem _ h)
  clear hts0
  have hown : s.vm.findClass RX11 = some m.cls := findClass_of_methodNamed B.named
  have hlocks := B.notSynchronized
  have hA : ∀ q, box b 21 q → box b 21 q := fun _ h => h
  have hS : va_S (box b 21) s.heap s.heap [] := va_S.rf
  have hl := lv_entry ([.ref (b + x0)]) (n := 4) (Nat.le_of_ble_eq_true rfl)
  rw [lg_entry_eq]
  generalize (lg_sl ([.ref (b + x0)]) ++ List.replicate (4 - (lg_sl ([.ref (b + x0)])).length) Slot.unset).toArray = ls at hl ⊢
  have hl : lv_has ls 4 [(0, .ref (b + x0))] := hl
  generalize ([.ref (b + x0)] : List Value).toArray = av at hts ⊢
  show W p l e rmX11_doesTurn s m av below meth c s.heap [] 0 0 _ _
  obtain ⟨QQ, hQQ⟩ : ∃ z, z = MQ below (va_Qi (fun r u => r = o1 ∧ u = (o2, L, R)) (QW D ce b kdM lnM 21) (box b 21)) av s 0 0 (box b 21) := ⟨_, rfl⟩
  rw [← hQQ]
  have hret : ∀ (r : Int32) (I1 : mI), some (r, I1) = some (o1, o2) → ∀ (H1 : Heap) (locs1 : List Loc) (ls1 : Array Slot) (pc1 : Nat), decode cX11_doesTurn pc1 = .ok (.ireturn, 1) → zb r = true → va_P D vwCl (wd ce b kdM lnM 21 I1 L R) H1 → WT kdM R → va_S (box b 21) s.heap H1 locs1 → W p l e rmX11_doesTurn s m av below meth c H1 locs1 0 0 QQ (F0 m pc1 ls1 [.int r]) := by
    intro r I1 hq H1 locs1 ls1 pc1 hd hz hP hT hS
    cases hq
    rw [hQQ]
    exact mm_zret hx hb hr hlocks hz hP hT hS hd
  unfold f_X11_doesTurn at hf
  obtain ⟨H, hH⟩ : ∃ z, z = s.heap := ⟨_, rfl⟩
  obtain ⟨locs, hlo⟩ : ∃ z : List Loc, z = [] := ⟨_, rfl⟩
  have hP : va_P D vwCl (wd ce b kdM lnM 21 I L R) H := by rw [hH]; exact hP
  have hS : va_S (box b 21) s.heap H locs := by rw [hH, hlo]; exact hS
  rw [show W p l e rmX11_doesTurn s m av below meth c s.heap [] 0 0 QQ = W p l e rmX11_doesTurn s m av below meth c H locs 0 0 QQ by rw [hH, hlo]]
  clear hH hlo
  clear hQQ
  show W p l e rmX11_doesTurn s m av below meth c H locs 0 0 QQ (F0 m 0 ls [])
  refine lv_aload_n hx hb dX11_doesTurn_0 rfl (lv_at hl 0 rfl) ?_
  refine lv_aload_n hx hb dX11_doesTurn_1 rfl (lv_at hl 0 rfl) ?_
  refine mm_geti hx hb hts hown hKK hP fk11_28 (Or.inl rfl) lkX11_249 (kdM_lt h0 (Nat.succ_ne_zero _)) h0 dX11_doesTurn_2 ?_
  refine lv_aload_n hx hb dX11_doesTurn_5 rfl (lv_at hl 0 rfl) ?_
  refine mm_geti hx hb hts hown hKK hP fk11_29 (Or.inl rfl) lkX11_252 (kdM_lt h0 (Nat.succ_ne_zero _)) h0 dX11_doesTurn_6 ?_
  obtain ⟨r1, I1, e1, hf⟩ := bd2_o hf
  refine mm_Vi (rest := []) hx hb hml hown hts hKK hP hS hA (kdM_lt h0 (Nat.succ_ne_zero _)) h0 (show vwCl[11]? = some (yX11_fits.cls, TX11, 32) from rfl) vkX11_243 (k_X11_fits l D ce b I L R hT x0 (I x0 28) (I x0 29) h0 r1 I1 e1) rfl hl.1 rfl (Nat.le_of_ble_eq_true rfl) ⟨rfl, rfl⟩ ⟨Nat.le_of_ble_eq_true rfl, Nat.le_of_ble_eq_true rfl⟩ ⟨Nat.zero_le _, Nat.zero_le _⟩ dX11_doesTurn_9 (fun H locs hP hT hS => ?_)
  refine lv_istore_n (lv' := [(1, .int r1), (0, .ref (b + x0))]) hx hb dX11_doesTurn_12 rfl hl (Nat.le_of_ble_eq_true rfl) rfl (fun ls hl => ?_)
  refine lv_aload_n hx hb dX11_doesTurn_13 rfl (lv_at hl 1 rfl) ?_
  refine lv_iconst (v := (0 : Int32)) hx hb dX11_doesTurn_14 (by decide) ?_
  refine jnE hf (fun I2 eI2 hf => ?_)
  refine mm_puti hx hb hts hown hKK hP hA hS fk11_30 (Or.inl rfl) fw11_30 lkX11_255 (kdM_lt h0 (Nat.succ_ne_zero _)) h0 rfl rfl dX11_doesTurn_15 (fun H locs hP hS => ?_)
  rw [← eI2] at hP
  refine lv_aload_n hx hb dX11_doesTurn_18 rfl (lv_at hl 1 rfl) ?_
  refine lv_iconst (v := (0 : Int32)) hx hb dX11_doesTurn_19 (by decide) ?_
  refine lv_aload_n hx hb dX11_doesTurn_20 rfl (lv_at hl 1 rfl) ?_
  refine mm_geti hx hb hts hown hKK hP fk11_29 (Or.inl rfl) lkX11_252 (kdM_lt h0 (Nat.succ_ne_zero _)) h0 dX11_doesTurn_21 ?_
  obtain ⟨I3, e3, hf⟩ := bd1_o hf
  refine mm_Vv (rest := []) hx hb hml hown hts hKK hP hS hA (kdM_lt h0 (Nat.succ_ne_zero _)) h0 (show vwCl[11]? = some (yX11_makes.cls, TX11, 32) from rfl) vkX11_258 (k_X11_makes l D ce b I2 L R hT x0 (0 : Int32) (I2 x0 29) h0 I3 e3) rfl hl.1 rfl (Nat.le_of_ble_eq_true rfl) ⟨rfl, rfl⟩ ⟨Nat.le_of_ble_eq_true rfl, Nat.le_of_ble_eq_true rfl⟩ ⟨Nat.zero_le _, Nat.zero_le _⟩ dX11_doesTurn_24 (fun H locs hP hT hS => ?_)
  refine lv_iconst (v := (0 : Int32)) hx hb dX11_doesTurn_27 (by decide) ?_
  refine lv_istore_n (lv' := [(2, .int (0 : Int32)), (1, .int r1), (0, .ref (b + x0))]) hx hb dX11_doesTurn_28 rfl hl (Nat.le_of_ble_eq_true rfl) rfl (fun ls hl => ?_)
  have lp29 : ∀ (n : Nat) (x0 : Nat) (x2 : Int32) (I : mI) (L : mL) (R : mR) (a1 : mI) (H : Heap) (locs : List Loc) (ls : Array Slot), va_P D vwCl (wd ce b kdM lnM 21 I L R) H → va_S (box b 21) s.heap H locs → WT kdM R → kdM x0 = 17 → lv_has ls 4 [(0, .ref (b + x0)), (2, .int x2)] → f_X11_doesTurn_L29 n x0 x2 I R = some a1 → (∀ (H1 : Heap) (locs1 : List Loc) (ls1 : Array Slot), va_P D vwCl (wd ce b kdM lnM 21 a1 L R) H1 → va_S (box b 21) s.heap H1 locs1 → lv_has ls1 4 [(0, .ref (b + x0))] → W p l e rmX11_doesTurn s m av below meth c H1 locs1 0 0 QQ (F0 m 127 ls1 [])) → W p l e rmX11_doesTurn s m av below meth c H locs 0 0 QQ (F0 m 29 ls []) := by
    intro n
    induction n with
    | zero =>
      intro x0 x2 I L R a1 H locs ls hP hS hT h0 hl hf kx
      exact absurd (show (none : Option (mI)) = some _ from hf) (by simp)
    | succ n ih =>
      intro x0 x2 I L R a1 H locs ls hP hS hT h0 hl hf kx
      rw [f_X11_doesTurn_L29] at hf
      refine lv_iload_n hx hb dX11_doesTurn_29 rfl (lv_at hl 1 rfl) ?_
      refine lv_aload_n hx hb dX11_doesTurn_30 rfl (lv_at hl 0 rfl) ?_
      have t4 : kdM (R x0 0) = 1 := wt hT h0 rfl
      refine mm_getr hx hb hts hown hKK hP fk11_0 (Nat.le_of_ble_eq_true rfl) lkX11_7 (kdM_lt h0 (Nat.succ_ne_zero _)) h0 (nM t4 (Nat.succ_ne_zero _)) dX11_doesTurn_31 ?_
      refine lv_aload_n hx hb dX11_doesTurn_34 rfl (lv_at hl 0 rfl) ?_
      refine mm_geti hx hb hts hown hKK hP fk11_28 (Or.inl rfl) lkX11_249 (kdM_lt h0 (Nat.succ_ne_zero _)) h0 dX11_doesTurn_35 ?_
      obtain ⟨r5, e5, hf⟩ := bd1_o hf
      refine mm_Si (rest := [.int x2]) hx hb hml hown hts hKK hP hS hA skX11_162 (k_X11_rightLong l D ce b I L R hT (R x0 0) (I x0 28) t4 r5 e5) rfl hl.1 rfl (Nat.le_of_ble_eq_true rfl) ⟨rfl, rfl⟩ ⟨Nat.le_of_ble_eq_true rfl, Nat.le_of_ble_eq_true rfl⟩ ⟨Nat.zero_le _, Nat.zero_le _⟩ dX11_doesTurn_38 (fun H locs hP hT hS => ?_)
      refine lv_icmp_ge (tgt := 127) hx hb dX11_doesTurn_41 (by decide) (fun c6 => ?_) (fun c6 => ?_)
      · have hf := ifT hf c6
        cases hf
        exact kx H locs ls hP hS (lv_sub hl [0] rfl)
      · have hf := ifF hf c6
        refine lv_aload_n hx hb dX11_doesTurn_44 rfl (lv_at hl 0 rfl) ?_
        refine mm_getr hx hb hts hown hKK hP fk11_0 (Nat.le_of_ble_eq_true rfl) lkX11_7 (kdM_lt h0 (Nat.succ_ne_zero _)) h0 (nM t4 (Nat.succ_ne_zero _)) dX11_doesTurn_45 ?_
        refine lv_aload_n hx hb dX11_doesTurn_48 rfl (lv_at hl 0 rfl) ?_
        refine mm_geti hx hb hts hown hKK hP fk11_28 (Or.inl rfl) lkX11_249 (kdM_lt h0 (Nat.succ_ne_zero _)) h0 dX11_doesTurn_49 ?_
        obtain ⟨r7, e7, hf⟩ := bd1_o hf
        refine mm_Si (rest := [.ref (b + (R x0 0))]) hx hb hml hown hts hKK hP hS hA skX11_127 (k_X11_rightOf l D ce b I L R hT (I x0 28)  r7 e7) rfl hl.1 rfl (Nat.le_of_ble_eq_true rfl) ⟨rfl, rfl⟩ ⟨Nat.le_of_ble_eq_true rfl, Nat.le_of_ble_eq_true rfl⟩ ⟨Nat.zero_le _, Nat.zero_le _⟩ dX11_doesTurn_52 (fun H locs hP hT hS => ?_)
        refine lv_iload_n hx hb dX11_doesTurn_55 rfl (lv_at hl 1 rfl) ?_
        refine lv_iadd hx hb dX11_doesTurn_56 ?_
        obtain ⟨g8, hf⟩ := grd hf
        refine mm_iald hx hb hKK hP (kdM_lt t4 (Nat.succ_ne_zero _)) t4 g8 dX11_doesTurn_57 ?_
        refine lv_istore_n (lv' := [(3, .int (I (R x0 0) ((r7 + x2)).toNatClampNeg)), (0, .ref (b + x0)), (2, .int x2)]) hx hb dX11_doesTurn_58 rfl hl (Nat.le_of_ble_eq_true rfl) rfl (fun ls hl => ?_)
        refine lv_iload_n hx hb dX11_doesTurn_59 rfl (lv_at hl 0 rfl) ?_
        obtain ⟨r9, e9, hf⟩ := bd1_o hf
        refine mm_Si (rest := []) hx hb hml hown hts hKK hP hS hA skX11_100 (k_X11_isUnknown l D ce b I L R hT (I (R x0 0) ((r7 + x2)).toNatClampNeg)  r9 e9) rfl hl.1 rfl (Nat.le_of_ble_eq_true rfl) ⟨rfl, rfl⟩ ⟨Nat.le_of_ble_eq_true rfl, Nat.le_of_ble_eq_true rfl⟩ ⟨Nat.zero_le _, Nat.zero_le _⟩ dX11_doesTurn_60 (fun H locs hP hT hS => ?_)
        refine jnE hf (fun j121_10 ej_10 hf => ?_)
        have hJ121_10 : ∀ (I_10 : mI) (H : Heap) (locs : List Loc) (ls : Array Slot), va_P D vwCl (wd ce b kdM lnM 21 I_10 L R) H → va_S (box b 21) s.heap H locs → lv_has ls 4 [(0, .ref (b + x0)), (2, .int x2)] → j121_10 I_10 = some a1 → W p l e rmX11_doesTurn s m av below meth c H locs 0 0 QQ (F0 m 121 ls []) := by
          intro I_10 H locs ls hP hS  hl hf
          rw [ej_10] at hf
          try dsimp only at hf
          refine lv_iinc (v := (x2 + (1 : Int32))) (lv' := [(2, .int (x2 + (1 : Int32))), (0, .ref (b + x0))]) hx hb dX11_doesTurn_121 hl (k := 1) rfl rfl (Nat.le_of_ble_eq_true rfl) rfl (fun ls hl => ?_)
          refine lv_goto (tgt := 29) hx hb dX11_doesTurn_124 (by decide) ?_
          exact ih x0 (x2 + (1 : Int32)) I_10 L R a1 H locs ls hP hS hT h0 (lv_sub hl [1, 0] rfl) hf kx
        clear ej_10
        refine lv_if_eq (tgt := 91) hx hb dX11_doesTurn_63 (by decide) (fun c11 => ?_) (fun c11 => ?_)
        · have hf := ifT hf c11
          refine lv_aload_n hx hb dX11_doesTurn_91 rfl (lv_at hl 1 rfl) ?_
          refine mm_geti hx hb hts hown hKK hP fk11_30 (Or.inl rfl) lkX11_255 (kdM_lt h0 (Nat.succ_ne_zero _)) h0 dX11_doesTurn_92 ?_
          refine lv_sipush (v := (200 : Int32)) hx hb dX11_doesTurn_95 (by decide) ?_
          refine jnE hf (fun j111_12 ej_12 hf => ?_)
          have hJ111_12 : ∀ (I_12 : mI) (H : Heap) (locs : List Loc) (ls : Array Slot), va_P D vwCl (wd ce b kdM lnM 21 I_12 L R) H → va_S (box b 21) s.heap H locs → lv_has ls 4 [(0, .ref (b + x0)), (2, .int x2)] → j111_12 I_12 = some a1 → W p l e rmX11_doesTurn s m av below meth c H locs 0 0 QQ (F0 m 111 ls []) := by
            intro I_12 H locs ls hP hS  hl hf
            rw [ej_12] at hf
            try dsimp only at hf
            refine lv_aload_n hx hb dX11_doesTurn_111 rfl (lv_at hl 0 rfl) ?_
            refine lv_dup hx hb dX11_doesTurn_112 rfl ?_
            refine mm_geti hx hb hts hown hKK hP fk11_30 (Or.inl rfl) lkX11_255 (kdM_lt h0 (Nat.succ_ne_zero _)) h0 dX11_doesTurn_113 ?_
            refine lv_iconst (v := (1 : Int32)) hx hb dX11_doesTurn_116 (by decide) ?_
            refine lv_iadd hx hb dX11_doesTurn_117 ?_
            refine jnE hf (fun I13 eI13 hf => ?_)
            refine mm_puti hx hb hts hown hKK hP hA hS fk11_30 (Or.inl rfl) fw11_30 lkX11_255 (kdM_lt h0 (Nat.succ_ne_zero _)) h0 rfl rfl dX11_doesTurn_118 (fun H locs hP hS => ?_)
            rw [← eI13] at hP
            exact hJ121_10 I13 H locs ls hP hS  (lv_sub hl [0, 1] rfl) hf
          clear ej_12
          refine lv_icmp_ge (tgt := 111) hx hb dX11_doesTurn_98 (by decide) (fun c14 => ?_) (fun c14 => ?_)
          · have hf := ifT hf c14
            exact hJ111_12 I H locs ls hP hS  (lv_sub hl [1, 2] rfl) hf
          · have hf := ifF hf c14
            refine lv_aload_n hx hb dX11_doesTurn_101 rfl (lv_at hl 1 rfl) ?_
            have t15 : kdM (R x0 25) = 1 := wt hT h0 rfl
            refine mm_getr hx hb hts hown hKK hP fk11_25 (Nat.le_of_ble_eq_true rfl) lkX11_63 (kdM_lt h0 (Nat.succ_ne_zero _)) h0 (nM t15 (Nat.succ_ne_zero _)) dX11_doesTurn_102 ?_
            refine lv_aload_n hx hb dX11_doesTurn_105 rfl (lv_at hl 1 rfl) ?_
            refine mm_geti hx hb hts hown hKK hP fk11_30 (Or.inl rfl) lkX11_255 (kdM_lt h0 (Nat.succ_ne_zero _)) h0 dX11_doesTurn_106 ?_
            refine lv_iload_n hx hb dX11_doesTurn_109 rfl (lv_at hl 0 rfl) ?_
            obtain ⟨g16, hf⟩ := grd hf
            refine jnE hf (fun I17 eI17 hf => ?_)
            refine mm_iast hx hb hKK hP hA hS (kdM_lt t15 (Nat.succ_ne_zero _)) t15 g16 dX11_doesTurn_110 (fun H locs hP hS => ?_)
            rw [← eI17] at hP
            exact hJ111_12 I17 H locs ls hP hS  (lv_sub hl [1, 2] rfl) hf
        · have hf := ifF hf c11
          refine lv_aload_n hx hb dX11_doesTurn_66 rfl (lv_at hl 1 rfl) ?_
          refine lv_aload_n hx hb dX11_doesTurn_67 rfl (lv_at hl 1 rfl) ?_
          have t18 : kdM (R x0 26) = 1 := wt hT h0 rfl
          refine mm_getr hx hb hts hown hKK hP fk11_26 (Nat.le_of_ble_eq_true rfl) lkX11_66 (kdM_lt h0 (Nat.succ_ne_zero _)) h0 (nM t18 (Nat.succ_ne_zero _)) dX11_doesTurn_68 ?_
          refine lv_iload_n hx hb dX11_doesTurn_71 rfl (lv_at hl 0 rfl) ?_
          refine lv_bipush (v := (120 : Int32)) hx hb dX11_doesTurn_72 (by decide) ?_
          refine lv_isub hx hb dX11_doesTurn_74 ?_
          obtain ⟨g19, hf⟩ := grd hf
          refine mm_iald hx hb hKK hP (kdM_lt t18 (Nat.succ_ne_zero _)) t18 g19 dX11_doesTurn_75 ?_
          refine lv_aload_n hx hb dX11_doesTurn_76 rfl (lv_at hl 1 rfl) ?_
          have t20 : kdM (R x0 27) = 1 := wt hT h0 rfl
          refine mm_getr hx hb hts hown hKK hP fk11_27 (Nat.le_of_ble_eq_true rfl) lkX11_69 (kdM_lt h0 (Nat.succ_ne_zero _)) h0 (nM t20 (Nat.succ_ne_zero _)) dX11_doesTurn_77 ?_
          refine lv_iload_n hx hb dX11_doesTurn_80 rfl (lv_at hl 0 rfl) ?_
          refine lv_bipush (v := (120 : Int32)) hx hb dX11_doesTurn_81 (by decide) ?_
          refine lv_isub hx hb dX11_doesTurn_83 ?_
          obtain ⟨g21, hf⟩ := grd hf
          refine mm_iald hx hb hKK hP (kdM_lt t20 (Nat.succ_ne_zero _)) t20 g21 dX11_doesTurn_84 ?_
          obtain ⟨I22, e22, hf⟩ := bd1_o hf
          refine mm_Vv (rest := []) hx hb hml hown hts hKK hP hS hA (kdM_lt h0 (Nat.succ_ne_zero _)) h0 (show vwCl[11]? = some (yX11_makes.cls, TX11, 32) from rfl) vkX11_258 (k_X11_makes l D ce b I L R hT x0 (I (R x0 26) (((I (R x0 0) ((r7 + x2)).toNatClampNeg) - (120 : Int32))).toNatClampNeg) (I (R x0 27) (((I (R x0 0) ((r7 + x2)).toNatClampNeg) - (120 : Int32))).toNatClampNeg) h0 I22 e22) rfl hl.1 rfl (Nat.le_of_ble_eq_true rfl) ⟨rfl, rfl⟩ ⟨Nat.le_of_ble_eq_true rfl, Nat.le_of_ble_eq_true rfl⟩ ⟨Nat.zero_le _, Nat.zero_le _⟩ dX11_doesTurn_85 (fun H locs hP hT hS => ?_)
          refine lv_goto (tgt := 121) hx hb dX11_doesTurn_88 (by decide) ?_
          exact hJ121_10 I22 H locs ls hP hS  (lv_sub hl [1, 2] rfl) hf
  obtain ⟨I_23, e_23, hf⟩ := bd1_o hf
  refine lp29 FU x0 (0 : Int32) I3 L R I_23 H locs ls hP hS hT h0 (lv_sub hl [2, 0] rfl) e_23 (fun H locs ls hP hS hl => ?_)
  refine lv_aload_n hx hb dX11_doesTurn_127 rfl (lv_at hl 0 rfl) ?_
  refine mm_geti hx hb hts hown hKK hP fk11_29 (Or.inl rfl) lkX11_252 (kdM_lt h0 (Nat.succ_ne_zero _)) h0 dX11_doesTurn_128 ?_
  refine lv_aload_n hx hb dX11_doesTurn_131 rfl (lv_at hl 0 rfl) ?_
  have t24 : kdM (R x0 23) = 1 := wt hT h0 rfl
  refine mm_getr hx hb hts hown hKK hP fk11_23 (Nat.le_of_ble_eq_true rfl) lkX11_60 (kdM_lt h0 (Nat.succ_ne_zero _)) h0 (nM t24 (Nat.succ_ne_zero _)) dX11_doesTurn_132 ?_
  refine lv_aload_n hx hb dX11_doesTurn_135 rfl (lv_at hl 0 rfl) ?_
  refine mm_geti hx hb hts hown hKK hP fk11_29 (Or.inl rfl) lkX11_252 (kdM_lt h0 (Nat.succ_ne_zero _)) h0 dX11_doesTurn_136 ?_
  obtain ⟨r25, e25, hf⟩ := bd1_o hf
  refine mm_Si (rest := [.int (I_23 x0 29)]) hx hb hml hown hts hKK hP hS hA skX11_207 (k_X11_longAt l D ce b I_23 L R hT (R x0 23) (I_23 x0 29) t24 r25 e25) rfl hl.1 rfl (Nat.le_of_ble_eq_true rfl) ⟨rfl, rfl⟩ ⟨Nat.le_of_ble_eq_true rfl, Nat.le_of_ble_eq_true rfl⟩ ⟨Nat.zero_le _, Nat.zero_le _⟩ dX11_doesTurn_139 (fun H locs hP hT hS => ?_)
  refine lv_iadd hx hb dX11_doesTurn_142 ?_
  refine lv_istore_n (lv' := [(2, .int ((I_23 x0 29) + r25)), (0, .ref (b + x0))]) hx hb dX11_doesTurn_143 rfl hl (Nat.le_of_ble_eq_true rfl) rfl (fun ls hl => ?_)
  refine lv_aload_n hx hb dX11_doesTurn_144 rfl (lv_at hl 1 rfl) ?_
  refine lv_iload_n hx hb dX11_doesTurn_145 rfl (lv_at hl 0 rfl) ?_
  refine lv_aload_n hx hb dX11_doesTurn_146 rfl (lv_at hl 1 rfl) ?_
  refine mm_geti hx hb hts hown hKK hP fk11_24 (Or.inl rfl) lkX11_237 (kdM_lt h0 (Nat.succ_ne_zero _)) h0 dX11_doesTurn_147 ?_
  refine lv_iload_n hx hb dX11_doesTurn_150 rfl (lv_at hl 0 rfl) ?_
  refine lv_isub hx hb dX11_doesTurn_151 ?_
  obtain ⟨I26, e26, hf⟩ := bd1_o hf
  refine mm_Vv (rest := []) hx hb hml hown hts hKK hP hS hA (kdM_lt h0 (Nat.succ_ne_zero _)) h0 (show vwCl[11]? = some (yX11_makes.cls, TX11, 32) from rfl) vkX11_258 (k_X11_makes l D ce b I_23 L R hT x0 ((I_23 x0 29) + r25) ((I_23 x0 24) - ((I_23 x0 29) + r25)) h0 I26 e26) rfl hl.1 rfl (Nat.le_of_ble_eq_true rfl) ⟨rfl, rfl⟩ ⟨Nat.le_of_ble_eq_true rfl, Nat.le_of_ble_eq_true rfl⟩ ⟨Nat.zero_le _, Nat.zero_le _⟩ dX11_doesTurn_152 (fun H locs hP hT hS => ?_)
  refine lv_aload_n hx hb dX11_doesTurn_155 rfl (lv_at hl 1 rfl) ?_
  refine mm_geti hx hb hts hown hKK hP fk11_30 (Or.inl rfl) lkX11_255 (kdM_lt h0 (Nat.succ_ne_zero _)) h0 dX11_doesTurn_156 ?_
  refine lv_bipush (v := (60 : Int32)) hx hb dX11_doesTurn_159 (by decide) ?_
  refine lv_icmp_le (tgt := 166) hx hb dX11_doesTurn_161 (by decide) (fun c27 => ?_) (fun c27 => ?_)
  · have hf := ifT hf c27
    refine lv_aload_n hx hb dX11_doesTurn_166 rfl (lv_at hl 1 rfl) ?_
    refine lv_aload_n hx hb dX11_doesTurn_167 rfl (lv_at hl 1 rfl) ?_
    refine mm_geti hx hb hts hown hKK hP fk11_30 (Or.inl rfl) lkX11_255 (kdM_lt h0 (Nat.succ_ne_zero _)) h0 dX11_doesTurn_168 ?_
    refine jnE hf (fun I28 eI28 hf => ?_)
    refine mm_puti hx hb hts hown hKK hP hA hS fk11_24 (Or.inl rfl) fw11_24 lkX11_237 (kdM_lt h0 (Nat.succ_ne_zero _)) h0 rfl rfl dX11_doesTurn_171 (fun H locs hP hS => ?_)
    rw [← eI28] at hP
    refine lv_iconst (v := (0 : Int32)) hx hb dX11_doesTurn_174 (by decide) ?_
    refine lv_istore_n (lv' := [(3, .int (0 : Int32)), (2, .int ((I_23 x0 29) + r25)), (0, .ref (b + x0))]) hx hb dX11_doesTurn_175 rfl hl (Nat.le_of_ble_eq_true rfl) rfl (fun ls hl => ?_)
    have lp176 : ∀ (n : Nat) (x0 : Nat) (x3 : Int32) (I : mI) (L : mL) (R : mR) (a1 : mI) (H : Heap) (locs : List Loc) (ls : Array Slot), va_P D vwCl (wd ce b kdM lnM 21 I L R) H → va_S (box b 21) s.heap H locs → WT kdM R → kdM x0 = 17 → lv_has ls 4 [(0, .ref (b + x0)), (3, .int x3)] → f_X11_doesTurn_L176 n x0 x3 I R = some a1 → (∀ (H1 : Heap) (locs1 : List Loc) (ls1 : Array Slot), va_P D vwCl (wd ce b kdM lnM 21 a1 L R) H1 → va_S (box b 21) s.heap H1 locs1 → lv_has ls1 4 [] → W p l e rmX11_doesTurn s m av below meth c H1 locs1 0 0 QQ (F0 m 202 ls1 [])) → W p l e rmX11_doesTurn s m av below meth c H locs 0 0 QQ (F0 m 176 ls []) := by
      intro n
      induction n with
      | zero =>
        intro x0 x3 I L R a1 H locs ls hP hS hT h0 hl hf kx
        exact absurd (show (none : Option (mI)) = some _ from hf) (by simp)
      | succ n ih =>
        intro x0 x3 I L R a1 H locs ls hP hS hT h0 hl hf kx
        rw [f_X11_doesTurn_L176] at hf
        refine lv_iload_n hx hb dX11_doesTurn_176 rfl (lv_at hl 1 rfl) ?_
        refine lv_aload_n hx hb dX11_doesTurn_177 rfl (lv_at hl 0 rfl) ?_
        refine mm_geti hx hb hts hown hKK hP fk11_30 (Or.inl rfl) lkX11_255 (kdM_lt h0 (Nat.succ_ne_zero _)) h0 dX11_doesTurn_178 ?_
        refine lv_icmp_ge (tgt := 202) hx hb dX11_doesTurn_181 (by decide) (fun c29 => ?_) (fun c29 => ?_)
        · have hf := ifT hf c29
          cases hf
          exact kx H locs ls hP hS (lv_sub hl [] rfl)
        · have hf := ifF hf c29
          refine lv_aload_n hx hb dX11_doesTurn_184 rfl (lv_at hl 0 rfl) ?_
          have t30 : kdM (R x0 23) = 1 := wt hT h0 rfl
          refine mm_getr hx hb hts hown hKK hP fk11_23 (Nat.le_of_ble_eq_true rfl) lkX11_60 (kdM_lt h0 (Nat.succ_ne_zero _)) h0 (nM t30 (Nat.succ_ne_zero _)) dX11_doesTurn_185 ?_
          refine lv_iload_n hx hb dX11_doesTurn_188 rfl (lv_at hl 1 rfl) ?_
          refine lv_aload_n hx hb dX11_doesTurn_189 rfl (lv_at hl 0 rfl) ?_
          have t31 : kdM (R x0 25) = 1 := wt hT h0 rfl
          refine mm_getr hx hb hts hown hKK hP fk11_25 (Nat.le_of_ble_eq_true rfl) lkX11_63 (kdM_lt h0 (Nat.succ_ne_zero _)) h0 (nM t31 (Nat.succ_ne_zero _)) dX11_doesTurn_190 ?_
          refine lv_iload_n hx hb dX11_doesTurn_193 rfl (lv_at hl 1 rfl) ?_
          obtain ⟨g32, hf⟩ := grd hf
          refine mm_iald hx hb hKK hP (kdM_lt t31 (Nat.succ_ne_zero _)) t31 g32 dX11_doesTurn_194 ?_
          obtain ⟨g33, hf⟩ := grd hf
          refine jnE hf (fun I34 eI34 hf => ?_)
          refine mm_iast hx hb hKK hP hA hS (kdM_lt t30 (Nat.succ_ne_zero _)) t30 g33 dX11_doesTurn_195 (fun H locs hP hS => ?_)
          rw [← eI34] at hP
          refine lv_iinc (v := (x3 + (1 : Int32))) (lv' := [(3, .int (x3 + (1 : Int32))), (0, .ref (b + x0))]) hx hb dX11_doesTurn_196 hl (k := 1) rfl rfl (Nat.le_of_ble_eq_true rfl) rfl (fun ls hl => ?_)
          refine lv_goto (tgt := 176) hx hb dX11_doesTurn_199 (by decide) ?_
          exact ih x0 (x3 + (1 : Int32)) I34 L R a1 H locs ls hP hS hT h0 (lv_sub hl [1, 0] rfl) hf kx
    obtain ⟨I_35, e_35, hf⟩ := bd1_o hf
    refine lp176 FU x0 (0 : Int32) I28 L R I_35 H locs ls hP hS hT h0 (lv_sub hl [2, 0] rfl) e_35 (fun H locs ls hP hS hl => ?_)
    refine lv_iconst (v := (1 : Int32)) hx hb dX11_doesTurn_202 (by decide) ?_
    exact hret (1 : Int32) I_35 hf H locs ls _ dX11_doesTurn_203 rfl hP hT hS
  · have hf := ifF hf c27
    refine lv_iconst (v := (0 : Int32)) hx hb dX11_doesTurn_164 (by decide) ?_
    exact hret (0 : Int32) I26 hf H locs ls _ dX11_doesTurn_165 rfl hP hT hS
