def rmX11_laysFigures : Room := { frames := 0, cells := 0, slots := 0, locals := 0 }
set_option maxHeartbeats 4000000 in
set_option maxRecDepth 100000 in
theorem k_X11_laysFigures (l : Launch) (D : va_G) (ce : Nat → ClassId) (b : Nat) (I : mI) (L : mL) (R : mR) (hT : WT kdM R) (x0 : Nat) (x1 : Int32) (x2 : Int32) (h0 : kdM x0 = 17) (o1 : Int32) (o2 : mI) (hf : f_X11_laysFigures x0 x1 x2 I R = some (o1, o2)) : Met l yX11_laysFigures (Cond.code yX11_laysFigures cX11_laysFigures 6 (some .boolean) :: GW) rmX11_laysFigures (va_Pc [.ref (b + x0), .int x1, .int x2] (PW D ce b kdM lnM 21 I L R)) (va_Qi (fun r u => r = o1 ∧ u = (o2, L, R)) (QW D ce b kdM lnM 21) (box b 21)) 0 0 (box b 21) := by
  refine Met.ofW (cc := cX11_laysFigures) (maxL := 6) (ret := (some .boolean)) (by decide) rfl ?_
  intro p e s m args below meth c s₁ B hml hv
  obtain ⟨rfl, hP, hKK⟩ := hv
  have hx := B.exec
  have hb := B.bytes
  have hr := B.returns
  have hts0 := atoms_spec (ws := Cond.code yX11_laysFigures cX11_laysFigures 6 (some .boolean) :: GW) B.pre
  have hts : ∀ w ∈ GW, w.before _ s = true := fun w h => hts0 w (List.mem_cons_of_mem _ h)
  clear hts0
  have hown : s.vm.findClass RX11 = some m.cls := findClass_of_methodNamed B.named
  have hlocks := B.notSynchronized
  have hA : ∀ q, box b 21 q → box b 21 q := fun _ h => h
  have hS : va_S (box b 21) s.heap s.heap [] := va_S.rf
  have hl := lv_entry ([.ref (b + x0), .int x1, .int x2]) (n := 6) (Nat.le_of_ble_eq_true rfl)
  rw [lg_entry_eq]
  generalize (lg_sl ([.ref (b + x0), .int x1, .int x2]) ++ List.replicate (6 - (lg_sl ([.ref (b + x0), .int x1, .int x2])).length) Slot.unset).toArray = ls at hl ⊢
  have hl : lv_has ls 6 [(0, .ref (b + x0)), (1, .int x1), (2, .int x2)] := hl
  generalize ([.ref (b + x0), .int x1, .int x2] : List Value).toArray = av at hts ⊢
  show W p l e rmX11_laysFigures s m av below meth c s.heap [] 0 0 _ _
  obtain ⟨QQ, hQQ⟩ : ∃ z, z = MQ below (va_Qi (fun r u => r = o1 ∧ u = (o2, L, R)) (QW D ce b kdM lnM 21) (box b 21)) av s 0 0 (box b 21) := ⟨_, rfl⟩
  rw [← hQQ]
  have hret : ∀ (r : Int32) (I1 : mI), some (r, I1) = some (o1, o2) → ∀ (H1 : Heap) (locs1 : List Loc) (ls1 : Array Slot) (pc1 : Nat), decode cX11_laysFigures pc1 = .ok (.ireturn, 1) → zb r = true → va_P D vwCl (wd ce b kdM lnM 21 I1 L R) H1 → WT kdM R → va_S (box b 21) s.heap H1 locs1 → W p l e rmX11_laysFigures s m av below meth c H1 locs1 0 0 QQ (F0 m pc1 ls1 [.int r]) := by
    intro r I1 hq H1 locs1 ls1 pc1 hd hz hP hT hS
    cases hq
    rw [hQQ]
    exact mm_zret hx hb hr hlocks hz hP hT hS hd
  unfold f_X11_laysFigures at hf
  obtain ⟨H, hH⟩ : ∃ z, z = s.heap := ⟨_, rfl⟩
  obtain ⟨locs, hlo⟩ : ∃ z : List Loc, z = [] := ⟨_, rfl⟩
  have hP : va_P D vwCl (wd ce b kdM lnM 21 I L R) H := by rw [hH]; exact hP
  have hS : va_S (box b 21) s.heap H locs := by rw [hH, hlo]; exact hS
  rw [show W p l e rmX11_laysFigures s m av below meth c s.heap [] 0 0 QQ = W p l e rmX11_laysFigures s m av below meth c H locs 0 0 QQ by rw [hH, hlo]]
  clear hH hlo
  clear hQQ
  show W p l e rmX11_laysFigures s m av below meth c H locs 0 0 QQ (F0 m 0 ls [])
  refine lv_iload_n hx hb dX11_laysFigures_0 rfl (lv_at hl 1 rfl) ?_
  refine lv_istore_n (lv' := [(3, .int x1), (0, .ref (b + x0)), (1, .int x1), (2, .int x2)]) hx hb dX11_laysFigures_1 rfl hl (Nat.le_of_ble_eq_true rfl) rfl (fun ls hl => ?_)
  refine lv_iload_n hx hb dX11_laysFigures_2 rfl (lv_at hl 2 rfl) ?_
  refine jnE hf (fun j11_1 ej_1 hf => ?_)
  have hJ11_1 : ∀ (w0_1 : Int32) (H : Heap) (locs : List Loc) (ls : Array Slot), va_P D vwCl (wd ce b kdM lnM 21 I L R) H → va_S (box b 21) s.heap H locs → lv_has ls 6 [(0, .ref (b + x0)), (2, .int x2), (3, .int x1)] → j11_1 w0_1 = some (o1, o2) → W p l e rmX11_laysFigures s m av below meth c H locs 0 0 QQ (F0 m 11 ls [.int w0_1]) := by
    intro w0_1 H locs ls hP hS  hl hf
    rw [ej_1] at hf
    try dsimp only at hf
    refine lv_istore (lv' := [(4, .int w0_1), (0, .ref (b + x0)), (2, .int x2), (3, .int x1)]) hx hb dX11_laysFigures_11 hl (Nat.le_of_ble_eq_true rfl) rfl (fun ls hl => ?_)
    refine lv_bipush (v := (6 : Int32)) hx hb dX11_laysFigures_13 (by decide) ?_
    refine lv_istore (lv' := [(5, .int (6 : Int32)), (4, .int w0_1), (0, .ref (b + x0)), (2, .int x2), (3, .int x1)]) hx hb dX11_laysFigures_15 hl (Nat.le_of_ble_eq_true rfl) rfl (fun ls hl => ?_)
    have lp17 : ∀ (n : Nat) (x0 : Nat) (x2 : Int32) (x3 : Int32) (x4 : Int32) (x5 : Int32) (I : mI) (L : mL) (R : mR) (a1 : Int32) (a2 : Int32) (a3 : mI) (H : Heap) (locs : List Loc) (ls : Array Slot), va_P D vwCl (wd ce b kdM lnM 21 I L R) H → va_S (box b 21) s.heap H locs → WT kdM R → kdM x0 = 17 → lv_has ls 6 [(0, .ref (b + x0)), (2, .int x2), (3, .int x3), (4, .int x4), (5, .int x5)] → f_X11_laysFigures_L17 n x0 x2 x3 x4 x5 I R = some (a1, a2, a3) → (∀ (H1 : Heap) (locs1 : List Loc) (ls1 : Array Slot), va_P D vwCl (wd ce b kdM lnM 21 a3 L R) H1 → va_S (box b 21) s.heap H1 locs1 → lv_has ls1 6 [(3, .int a1), (4, .int a2)] → W p l e rmX11_laysFigures s m av below meth c H1 locs1 0 0 QQ (F0 m 67 ls1 [])) → W p l e rmX11_laysFigures s m av below meth c H locs 0 0 QQ (F0 m 17 ls []) := by
      intro n
      induction n with
      | zero =>
        intro x0 x2 x3 x4 x5 I L R a1 a2 a3 H locs ls hP hS hT h0 hl hf kx
        exact absurd (show (none : Option (Int32 × Int32 × mI)) = some _ from hf) (by simp)
      | succ n ih =>
        intro x0 x2 x3 x4 x5 I L R a1 a2 a3 H locs ls hP hS hT h0 hl hf kx
        rw [f_X11_laysFigures_L17] at hf
        refine lv_iload hx hb dX11_laysFigures_17 (lv_at hl 4 rfl) ?_
        refine lv_if_lt (tgt := 67) hx hb dX11_laysFigures_19 (by decide) (fun c2 => ?_) (fun c2 => ?_)
        · have hf := ifT hf c2
          cases hf
          exact kx H locs ls hP hS (lv_sub hl [2, 3] rfl)
        · have hf := ifF hf c2
          refine lv_aload_n hx hb dX11_laysFigures_22 rfl (lv_at hl 0 rfl) ?_
          have t3 : kdM (R x0 12) = 1 := wt hT h0 rfl
          refine mm_getr hx hb hts hown hKK hP fk11_12 (Nat.le_of_ble_eq_true rfl) lkX11_31 (kdM_lt h0 (Nat.succ_ne_zero _)) h0 (nM t3 (Nat.succ_ne_zero _)) dX11_laysFigures_23 ?_
          refine lv_iload hx hb dX11_laysFigures_26 (lv_at hl 4 rfl) ?_
          refine lv_iload_n hx hb dX11_laysFigures_28 rfl (lv_at hl 2 rfl) ?_
          refine lv_bipush (v := (10 : Int32)) hx hb dX11_laysFigures_29 (by decide) ?_
          refine lv_irem hx hb dX11_laysFigures_31 (by decide) ?_
          obtain ⟨g4, hf⟩ := grd hf
          refine jnE hf (fun I5 eI5 hf => ?_)
          refine mm_iast hx hb hKK hP hA hS (kdM_lt t3 (Nat.succ_ne_zero _)) t3 g4 dX11_laysFigures_32 (fun H locs hP hS => ?_)
          rw [← eI5] at hP
          refine lv_iload_n hx hb dX11_laysFigures_33 rfl (lv_at hl 2 rfl) ?_
          refine lv_bipush (v := (10 : Int32)) hx hb dX11_laysFigures_34 (by decide) ?_
          refine lv_idiv hx hb dX11_laysFigures_36 (by decide) ?_
          refine lv_istore_n (lv' := [(3, .int (x3 / (10 : Int32))), (0, .ref (b + x0)), (2, .int x2), (4, .int x4), (5, .int x5)]) hx hb dX11_laysFigures_37 rfl hl (Nat.le_of_ble_eq_true rfl) rfl (fun ls hl => ?_)
          refine lv_iload hx hb dX11_laysFigures_38 (lv_at hl 3 rfl) ?_
          refine jnE hf (fun j59_6 ej_6 hf => ?_)
          have hJ59_6 : ∀ (w0_6 : Int32) (H : Heap) (locs : List Loc) (ls : Array Slot), va_P D vwCl (wd ce b kdM lnM 21 I5 L R) H → va_S (box b 21) s.heap H locs → lv_has ls 6 [(0, .ref (b + x0)), (2, .int x2), (3, .int (x3 / (10 : Int32))), (5, .int x5)] → j59_6 w0_6 = some (a1, a2, a3) → W p l e rmX11_laysFigures s m av below meth c H locs 0 0 QQ (F0 m 59 ls [.int w0_6]) := by
            intro w0_6 H locs ls hP hS  hl hf
            rw [ej_6] at hf
            try dsimp only at hf
            refine lv_istore (lv' := [(4, .int w0_6), (0, .ref (b + x0)), (2, .int x2), (3, .int (x3 / (10 : Int32))), (5, .int x5)]) hx hb dX11_laysFigures_59 hl (Nat.le_of_ble_eq_true rfl) rfl (fun ls hl => ?_)
            refine lv_iinc (v := (x5 + (-1 : Int32))) (lv' := [(5, .int (x5 + (-1 : Int32))), (4, .int w0_6), (0, .ref (b + x0)), (2, .int x2), (3, .int (x3 / (10 : Int32)))]) hx hb dX11_laysFigures_61 hl (k := 4) rfl rfl (Nat.le_of_ble_eq_true rfl) rfl (fun ls hl => ?_)
            refine lv_goto (tgt := 17) hx hb dX11_laysFigures_64 (by decide) ?_
            exact ih x0 x2 (x3 / (10 : Int32)) w0_6 (x5 + (-1 : Int32)) I5 L R a1 a2 a3 H locs ls hP hS hT h0 (lv_sub hl [2, 3, 4, 1, 0] rfl) hf kx
          clear ej_6
          refine jnE hf (fun j58_7 ej_7 hf => ?_)
          have hJ58_7 : ∀ (H : Heap) (locs : List Loc) (ls : Array Slot), va_P D vwCl (wd ce b kdM lnM 21 I5 L R) H → va_S (box b 21) s.heap H locs → lv_has ls 6 [(0, .ref (b + x0)), (2, .int x2), (3, .int (x3 / (10 : Int32))), (5, .int x5)] → j58_7  = some (a1, a2, a3) → W p l e rmX11_laysFigures s m av below meth c H locs 0 0 QQ (F0 m 58 ls []) := by
            intro  H locs ls hP hS  hl hf
            rw [ej_7] at hf
            try dsimp only at hf
            refine lv_iconst (v := (0 : Int32)) hx hb dX11_laysFigures_58 (by decide) ?_
            exact hJ59_6 (0 : Int32) H locs ls hP hS  (lv_sub hl [0, 1, 2, 3] rfl) hf
          clear ej_7
          refine lv_if_eq (tgt := 58) hx hb dX11_laysFigures_40 (by decide) (fun c8 => ?_) (fun c8 => ?_)
          · have hf := ifT hf c8
            exact hJ58_7  H locs ls hP hS  (lv_sub hl [1, 2, 0, 4] rfl) hf
          · have hf := ifF hf c8
            refine lv_aload_n hx hb dX11_laysFigures_43 rfl (lv_at hl 1 rfl) ?_
            refine mm_getr hx hb hts hown hKK hP fk11_12 (Nat.le_of_ble_eq_true rfl) lkX11_31 (kdM_lt h0 (Nat.succ_ne_zero _)) h0 (nM t3 (Nat.succ_ne_zero _)) dX11_laysFigures_44 ?_
            refine lv_iload hx hb dX11_laysFigures_47 (lv_at hl 4 rfl) ?_
            refine mm_iald hx hb hKK hP (kdM_lt t3 (Nat.succ_ne_zero _)) t3 g4 dX11_laysFigures_49 ?_
            refine lv_iload_n hx hb dX11_laysFigures_50 rfl (lv_at hl 2 rfl) ?_
            refine lv_icmp_gt (tgt := 58) hx hb dX11_laysFigures_51 (by decide) (fun c9 => ?_) (fun c9 => ?_)
            · have hf := ifT hf c9
              exact hJ58_7  H locs ls hP hS  (lv_sub hl [1, 2, 0, 4] rfl) hf
            · have hf := ifF hf c9
              refine lv_iconst (v := (1 : Int32)) hx hb dX11_laysFigures_54 (by decide) ?_
              refine lv_goto (tgt := 59) hx hb dX11_laysFigures_55 (by decide) ?_
              exact hJ59_6 (1 : Int32) H locs ls hP hS  (lv_sub hl [1, 2, 0, 4] rfl) hf
    obtain ⟨y3_10, y4_10, I_10, e_10, hf⟩ := bd3_o hf
    refine lp17 FU x0 x2 x1 w0_1 (6 : Int32) I L R y3_10 y4_10 I_10 H locs ls hP hS hT h0 (lv_sub hl [2, 3, 4, 1, 0] rfl) e_10 (fun H locs ls hP hS hl => ?_)
    refine lv_iload hx hb dX11_laysFigures_67 (lv_at hl 1 rfl) ?_
    refine jnE hf (fun j80_11 ej_11 hf => ?_)
    have hJ80_11 : ∀ (H : Heap) (locs : List Loc) (ls : Array Slot), va_P D vwCl (wd ce b kdM lnM 21 I_10 L R) H → va_S (box b 21) s.heap H locs → lv_has ls 6 [] → j80_11  = some (o1, o2) → W p l e rmX11_laysFigures s m av below meth c H locs 0 0 QQ (F0 m 80 ls []) := by
      intro  H locs ls hP hS  hl hf
      rw [ej_11] at hf
      try dsimp only at hf
      refine lv_iconst (v := (0 : Int32)) hx hb dX11_laysFigures_80 (by decide) ?_
      exact hret (0 : Int32) I_10 hf H locs ls _ dX11_laysFigures_81 rfl hP hT hS
    clear ej_11
    refine lv_if_eq (tgt := 80) hx hb dX11_laysFigures_69 (by decide) (fun c12 => ?_) (fun c12 => ?_)
    · have hf := ifT hf c12
      exact hJ80_11  H locs ls hP hS  (lv_sub hl [] rfl) hf
    · have hf := ifF hf c12
      refine lv_iload_n hx hb dX11_laysFigures_72 rfl (lv_at hl 0 rfl) ?_
      refine lv_if_ne (tgt := 80) hx hb dX11_laysFigures_73 (by decide) (fun c13 => ?_) (fun c13 => ?_)
      · have hf := ifF hf c13
        exact hJ80_11  H locs ls hP hS  (lv_sub hl [] rfl) hf
      · have hf := ifT hf c13
        refine lv_iconst (v := (1 : Int32)) hx hb dX11_laysFigures_76 (by decide) ?_
        refine lv_goto (tgt := 81) hx hb dX11_laysFigures_77 (by decide) ?_
        exact hret (1 : Int32) I_10 hf H locs ls _ dX11_laysFigures_81 rfl hP hT hS
  clear ej_1
  refine lv_if_lt (tgt := 10) hx hb dX11_laysFigures_3 (by decide) (fun c14 => ?_) (fun c14 => ?_)
  · have hf := ifT hf c14
    refine lv_iconst (v := (0 : Int32)) hx hb dX11_laysFigures_10 (by decide) ?_
    exact hJ11_1 (0 : Int32) H locs ls hP hS  (lv_sub hl [1, 3, 0] rfl) hf
  · have hf := ifF hf c14
    refine lv_iconst (v := (1 : Int32)) hx hb dX11_laysFigures_6 (by decide) ?_
    refine lv_goto (tgt := 11) hx hb dX11_laysFigures_7 (by decide) ?_
    exact hJ11_1 (1 : Int32) H locs ls hP hS  (lv_sub hl [1, 3, 0] rfl) hf
def rmX11_weighsTerm : Room := { frames := 0, cells := 0, slots := 0, locals := 0 }
set_option maxHeartbeats 4000000 in
set_option maxRecDepth 100000 in
theorem k_X11_weighsTerm (l : Launch) (D : va_G) (ce : Nat → ClassId) (b : Nat) (I : mI) (L : mL) (R : mR) (hT : WT kdM R) (x0 : Nat) (x1 : Nat) (x2 : Int32) (x3 : Int32) (h0 : kdM x0 = 17) (h1 : kdM x1 = 1) (o1 : mL) (hf : f_X11_weighsTerm x0 x1 x2 x3 I L R = some o1) : Met l yX11_weighsTerm (Cond.code yX11_weighsTerm cX11_weighsTerm 7 none :: GW) rmX11_weighsTerm (va_Pc [.ref (b + x0), .ref (b + x1), .int x2, .int x3] (PW D ce b kdM lnM 21 I L R)) (va_Qv (fun u => u = (I, o1, R)) (QW D ce b kdM lnM 21) (box b 21)) 0 0 (box b 21) := by
  refine Met.ofW (cc := cX11_weighsTerm) (maxL := 7) (ret := none) (by decide) rfl ?_
  intro p e s m args below meth c s₁ B hml hv
  obtain ⟨rfl, hP, hKK⟩ := hv
  have hx := B.exec
  have hb := B.bytes
  have hr := B.returns
  have hts0 := atoms_spec (ws := Cond.code yX11_weighsTerm cX11_weighsTerm 7 none :: GW) B.pre
  have hts : ∀ w ∈ GW, w.before _ s = true := fun w h => hts0 w (List.mem_cons_of_mem _ h)
  clear hts0
  have hown : s.vm.findClass RX11 = some m.cls := findClass_of_methodNamed B.named
  have hlocks := B.notSynchronized
  have hA : ∀ q, box b 21 q → box b 21 q := fun _ h => h
  have hS : va_S (box b 21) s.heap s.heap [] := va_S.rf
  have hl := lv_entry ([.ref (b + x0), .ref (b + x1), .int x2, .int x3]) (n := 7) (Nat.le_of_ble_eq_true rfl)
  rw [lg_entry_eq]
  generalize (lg_sl ([.ref (b + x0), .ref (b + x1), .int x2, .int x3]) ++ List.replicate (7 - (lg_sl ([.ref (b + x0), .ref (b + x1), .int x2, .int x3])).length) Slot.unset).toArray = ls at hl ⊢
  have hl : lv_has ls 7 [(0, .ref (b + x0)), (1, .ref (b + x1)), (2, .int x2), (3, .int x3)] := hl
  generalize ([.ref (b + x0), .ref (b + x1), .int x2, .int x3] : List Value).toArray = av at hts ⊢
  show W p l e rmX11_weighsTerm s m av below meth c s.heap [] 0 0 _ _
  obtain ⟨QQ, hQQ⟩ : ∃ z, z = MQ below (va_Qv (fun u => u = (I, o1, R)) (QW D ce b kdM lnM 21) (box b 21)) av s 0 0 (box b 21) := ⟨_, rfl⟩
  rw [← hQQ]
  have hret : ∀ (L1 : mL), some L1 = some o1 → ∀ (H1 : Heap) (locs1 : List Loc) (ls1 : Array Slot) (pc1 : Nat), decode cX11_weighsTerm pc1 = .ok (.return_, 1) → va_P D vwCl (wd ce b kdM lnM 21 I L1 R) H1 → WT kdM R → va_S (box b 21) s.heap H1 locs1 → W p l e rmX11_weighsTerm s m av below meth c H1 locs1 0 0 QQ (F0 m pc1 ls1 []) := by
    intro L1 hq H1 locs1 ls1 pc1 hd hP hT hS
    cases hq
    rw [hQQ]
    exact mm_vret hx hb hr hlocks hP hT hS hd
  unfold f_X11_weighsTerm at hf
  obtain ⟨H, hH⟩ : ∃ z, z = s.heap := ⟨_, rfl⟩
  obtain ⟨locs, hlo⟩ : ∃ z : List Loc, z = [] := ⟨_, rfl⟩
  have hP : va_P D vwCl (wd ce b kdM lnM 21 I L R) H := by rw [hH]; exact hP
  have hS : va_S (box b 21) s.heap H locs := by rw [hH, hlo]; exact hS
  rw [show W p l e rmX11_weighsTerm s m av below meth c s.heap [] 0 0 QQ = W p l e rmX11_weighsTerm s m av below meth c H locs 0 0 QQ by rw [hH, hlo]]
  clear hH hlo
  clear hQQ
  show W p l e rmX11_weighsTerm s m av below meth c H locs 0 0 QQ (F0 m 0 ls [])
  refine lv_iconst (v := (0 : Int32)) hx hb dX11_weighsTerm_0 (by decide) ?_
  refine lv_istore (lv' := [(4, .int (0 : Int32)), (0, .ref (b + x0)), (1, .ref (b + x1)), (2, .int x2), (3, .int x3)]) hx hb dX11_weighsTerm_1 hl (Nat.le_of_ble_eq_true rfl) rfl (fun ls hl => ?_)
  refine lv_iload_n hx hb dX11_weighsTerm_3 rfl (lv_at hl 4 rfl) ?_
  refine lv_iconst (v := (1 : Int32)) hx hb dX11_weighsTerm_4 (by decide) ?_
  refine lv_isub hx hb dX11_weighsTerm_5 ?_
  refine lv_istore (lv' := [(5, .int (x3 - (1 : Int32))), (4, .int (0 : Int32)), (0, .ref (b + x0)), (1, .ref (b + x1)), (2, .int x2), (3, .int x3)]) hx hb dX11_weighsTerm_6 hl (Nat.le_of_ble_eq_true rfl) rfl (fun ls hl => ?_)
  have lp8 : ∀ (n : Nat) (x0 : Nat) (x1 : Nat) (x2 : Int32) (x4 : Int32) (x5 : Int32) (I : mI) (L : mL) (R : mR) (a1 : mL) (H : Heap) (locs : List Loc) (ls : Array Slot), va_P D vwCl (wd ce b kdM lnM 21 I L R) H → va_S (box b 21) s.heap H locs → WT kdM R → kdM x0 = 17 → kdM x1 = 1 → lv_has ls 7 [(0, .ref (b + x0)), (1, .ref (b + x1)), (2, .int x2), (4, .int x4), (5, .int x5)] → f_X11_weighsTerm_L8 n x0 x1 x2 x4 x5 I L R = some a1 → (∀ (H1 : Heap) (locs1 : List Loc) (ls1 : Array Slot), va_P D vwCl (wd ce b kdM lnM 21 I a1 R) H1 → va_S (box b 21) s.heap H1 locs1 → lv_has ls1 7 [] → W p l e rmX11_weighsTerm s m av below meth c H1 locs1 0 0 QQ (F0 m 386 ls1 [])) → W p l e rmX11_weighsTerm s m av below meth c H locs 0 0 QQ (F0 m 8 ls []) := by
    intro n
    induction n with
    | zero =>
      intro x0 x1 x2 x4 x5 I L R a1 H locs ls hP hS hT h0 h1 hl hf kx
      exact absurd (show (none : Option (mL)) = some _ from hf) (by simp)
    | succ n ih =>
      intro x0 x1 x2 x4 x5 I L R a1 H locs ls hP hS hT h0 h1 hl hf kx
      rw [f_X11_weighsTerm_L8] at hf
      refine lv_iload hx hb dX11_weighsTerm_8 (lv_at hl 4 rfl) ?_
      refine lv_if_lt (tgt := 386) hx hb dX11_weighsTerm_10 (by decide) (fun c1 => ?_) (fun c1 => ?_)
      · have hf := ifT hf c1
        cases hf
        exact kx H locs ls hP hS (lv_sub hl [] rfl)
      · have hf := ifF hf c1
        refine lv_aload_n hx hb dX11_weighsTerm_13 rfl (lv_at hl 1 rfl) ?_
        refine lv_iload_n hx hb dX11_weighsTerm_14 rfl (lv_at hl 2 rfl) ?_
        refine lv_iload hx hb dX11_weighsTerm_15 (lv_at hl 4 rfl) ?_
        refine lv_iadd hx hb dX11_weighsTerm_17 ?_
        obtain ⟨g2, hf⟩ := grd hf
        refine mm_iald hx hb hKK hP (kdM_lt h1 (Nat.succ_ne_zero _)) h1 g2 dX11_weighsTerm_18 ?_
        refine lv_istore (lv' := [(6, .int (I x1 ((x2 + x5)).toNatClampNeg)), (0, .ref (b + x0)), (1, .ref (b + x1)), (2, .int x2), (4, .int x4), (5, .int x5)]) hx hb dX11_weighsTerm_19 hl (Nat.le_of_ble_eq_true rfl) rfl (fun ls hl => ?_)
        refine lv_iload hx hb dX11_weighsTerm_21 (lv_at hl 0 rfl) ?_
        refine lv_bipush (v := (102 : Int32)) hx hb dX11_weighsTerm_23 (by decide) ?_
        refine jnE hf (fun j380_3 ej_3 hf => ?_)
        have hJ380_3 : ∀ (v4_3 : Int32) (L_3 : mL) (H : Heap) (locs : List Loc) (ls : Array Slot), va_P D vwCl (wd ce b kdM lnM 21 I L_3 R) H → va_S (box b 21) s.heap H locs → lv_has ls 7 [(0, .ref (b + x0)), (1, .ref (b + x1)), (2, .int x2), (4, .int v4_3), (5, .int x5)] → j380_3 v4_3 L_3 = some a1 → W p l e rmX11_weighsTerm s m av below meth c H locs 0 0 QQ (F0 m 380 ls []) := by
          intro v4_3 L_3 H locs ls hP hS  hl hf
          rw [ej_3] at hf
          try dsimp only at hf
          refine lv_iinc (v := (x5 + (-1 : Int32))) (lv' := [(5, .int (x5 + (-1 : Int32))), (0, .ref (b + x0)), (1, .ref (b + x1)), (2, .int x2), (4, .int v4_3)]) hx hb dX11_weighsTerm_380 hl (k := 4) rfl rfl (Nat.le_of_ble_eq_true rfl) rfl (fun ls hl => ?_)
          refine lv_goto (tgt := 8) hx hb dX11_weighsTerm_383 (by decide) ?_
          exact ih x0 x1 x2 v4_3 (x5 + (-1 : Int32)) I L_3 R a1 H locs ls hP hS hT h0 h1 (lv_sub hl [1, 2, 3, 4, 0] rfl) hf kx
        clear ej_3
        refine lv_icmp_ne (tgt := 129) hx hb dX11_weighsTerm_25 (by decide) (fun c4 => ?_) (fun c4 => ?_)
        · have hf := ifF hf c4
          refine lv_iload hx hb dX11_weighsTerm_129 (lv_at hl 0 rfl) ?_
          refine lv_bipush (v := (103 : Int32)) hx hb dX11_weighsTerm_131 (by decide) ?_
          refine lv_icmp_ne (tgt := 297) hx hb dX11_weighsTerm_133 (by decide) (fun c5 => ?_) (fun c5 => ?_)
          · have hf := ifF hf c5
            refine lv_aload_n hx hb dX11_weighsTerm_297 rfl (lv_at hl 1 rfl) ?_
            have t6 : kdM (R x0 13) = 2 := wt hT h0 rfl
            refine mm_getr hx hb hts hown hKK hP fk11_13 (Nat.le_of_ble_eq_true rfl) lkX11_34 (kdM_lt h0 (Nat.succ_ne_zero _)) h0 (nM t6 (Nat.succ_ne_zero _)) dX11_weighsTerm_298 ?_
            refine lv_iload hx hb dX11_weighsTerm_301 (lv_at hl 4 rfl) ?_
            refine lv_iload hx hb dX11_weighsTerm_303 (lv_at hl 0 rfl) ?_
            refine lv_bipush (v := (97 : Int32)) hx hb dX11_weighsTerm_305 (by decide) ?_
            refine jnE hf (fun j338_7 ej_7 hf => ?_)
            have hJ338_7 : ∀ (w2_7 : Int64) (H : Heap) (locs : List Loc) (ls : Array Slot), va_P D vwCl (wd ce b kdM lnM 21 I L R) H → va_S (box b 21) s.heap H locs → lv_has ls 7 [(0, .ref (b + x0)), (1, .ref (b + x1)), (2, .int x2), (4, .int x4), (5, .int x5), (6, .int (I x1 ((x2 + x5)).toNatClampNeg))] → j338_7 w2_7 = some a1 → W p l e rmX11_weighsTerm s m av below meth c H locs 0 0 QQ (F0 m 338 ls [.long w2_7, .int x4, .ref (b + (R x0 13))]) := by
              intro w2_7 H locs ls hP hS  hl hf
              rw [ej_7] at hf
              try dsimp only at hf
              obtain ⟨g8, hf⟩ := grd hf
              refine jnE hf (fun L9 eL9 hf => ?_)
              refine mm_last hx hb hKK hP hA hS (kdM_lt t6 (Nat.succ_ne_zero _)) t6 g8 dX11_weighsTerm_338 (fun H locs hP hS => ?_)
              rw [← eL9] at hP
              refine lv_aload_n hx hb dX11_weighsTerm_339 rfl (lv_at hl 0 rfl) ?_
              have t10 : kdM (R x0 14) = 2 := wt hT h0 rfl
              refine mm_getr hx hb hts hown hKK hP fk11_14 (Nat.le_of_ble_eq_true rfl) lkX11_38 (kdM_lt h0 (Nat.succ_ne_zero _)) h0 (nM t10 (Nat.succ_ne_zero _)) dX11_weighsTerm_340 ?_
              refine lv_iload hx hb dX11_weighsTerm_343 (lv_at hl 3 rfl) ?_
              refine lv_iload hx hb dX11_weighsTerm_345 (lv_at hl 5 rfl) ?_
              refine lv_bipush (v := (120 : Int32)) hx hb dX11_weighsTerm_347 (by decide) ?_
              refine jnE hf (fun j357_11 ej_11 hf => ?_)
              have hJ357_11 : ∀ (w2_11 : Int64) (H : Heap) (locs : List Loc) (ls : Array Slot), va_P D vwCl (wd ce b kdM lnM 21 I L9 R) H → va_S (box b 21) s.heap H locs → lv_has ls 7 [(0, .ref (b + x0)), (1, .ref (b + x1)), (2, .int x2), (4, .int x4), (5, .int x5), (6, .int (I x1 ((x2 + x5)).toNatClampNeg))] → j357_11 w2_11 = some a1 → W p l e rmX11_weighsTerm s m av below meth c H locs 0 0 QQ (F0 m 357 ls [.long w2_11, .int x4, .ref (b + (R x0 14))]) := by
                intro w2_11 H locs ls hP hS  hl hf
                rw [ej_11] at hf
                try dsimp only at hf
                obtain ⟨g12, hf⟩ := grd hf
                refine jnE hf (fun L13 eL13 hf => ?_)
                refine mm_last hx hb hKK hP hA hS (kdM_lt t10 (Nat.succ_ne_zero _)) t10 g12 dX11_weighsTerm_357 (fun H locs hP hS => ?_)
                rw [← eL13] at hP
                refine lv_aload_n hx hb dX11_weighsTerm_358 rfl (lv_at hl 0 rfl) ?_
                have t14 : kdM (R x0 15) = 2 := wt hT h0 rfl
                refine mm_getr hx hb hts hown hKK hP fk11_15 (Nat.le_of_ble_eq_true rfl) lkX11_41 (kdM_lt h0 (Nat.succ_ne_zero _)) h0 (nM t14 (Nat.succ_ne_zero _)) dX11_weighsTerm_359 ?_
                refine lv_iload hx hb dX11_weighsTerm_362 (lv_at hl 3 rfl) ?_
                refine lv_iload hx hb dX11_weighsTerm_364 (lv_at hl 5 rfl) ?_
                refine lv_bipush (v := (121 : Int32)) hx hb dX11_weighsTerm_366 (by decide) ?_
                refine jnE hf (fun j376_15 ej_15 hf => ?_)
                have hJ376_15 : ∀ (w2_15 : Int64) (H : Heap) (locs : List Loc) (ls : Array Slot), va_P D vwCl (wd ce b kdM lnM 21 I L13 R) H → va_S (box b 21) s.heap H locs → lv_has ls 7 [(0, .ref (b + x0)), (1, .ref (b + x1)), (2, .int x2), (4, .int x4), (5, .int x5)] → j376_15 w2_15 = some a1 → W p l e rmX11_weighsTerm s m av below meth c H locs 0 0 QQ (F0 m 376 ls [.long w2_15, .int x4, .ref (b + (R x0 15))]) := by
                  intro w2_15 H locs ls hP hS  hl hf
                  rw [ej_15] at hf
                  try dsimp only at hf
                  obtain ⟨g16, hf⟩ := grd hf
                  refine jnE hf (fun L17 eL17 hf => ?_)
                  refine mm_last hx hb hKK hP hA hS (kdM_lt t14 (Nat.succ_ne_zero _)) t14 g16 dX11_weighsTerm_376 (fun H locs hP hS => ?_)
                  rw [← eL17] at hP
                  refine lv_iinc (v := (x4 + (1 : Int32))) (lv' := [(4, .int (x4 + (1 : Int32))), (0, .ref (b + x0)), (1, .ref (b + x1)), (2, .int x2), (5, .int x5)]) hx hb dX11_weighsTerm_377 hl (k := 3) rfl rfl (Nat.le_of_ble_eq_true rfl) rfl (fun ls hl => ?_)
                  exact hJ380_3 (x4 + (1 : Int32)) L17 H locs ls hP hS  (lv_sub hl [1, 2, 3, 0, 4] rfl) hf
                clear ej_15
                refine lv_icmp_ne (tgt := 375) hx hb dX11_weighsTerm_368 (by decide) (fun c18 => ?_) (fun c18 => ?_)
                · have hf := ifF hf c18
                  refine lv_lconst (v := (0 : Int64)) hx hb dX11_weighsTerm_375 (by decide) ?_
                  exact hJ376_15 (0 : Int64) H locs ls hP hS  (lv_sub hl [0, 1, 2, 3, 4] rfl) hf
                · have hf := ifT hf c18
                  refine lv_lconst (v := (1 : Int64)) hx hb dX11_weighsTerm_371 (by decide) ?_
                  refine lv_goto (tgt := 376) hx hb dX11_weighsTerm_372 (by decide) ?_
                  exact hJ376_15 (1 : Int64) H locs ls hP hS  (lv_sub hl [0, 1, 2, 3, 4] rfl) hf
              clear ej_11
              refine lv_icmp_ne (tgt := 356) hx hb dX11_weighsTerm_349 (by decide) (fun c19 => ?_) (fun c19 => ?_)
              · have hf := ifF hf c19
                refine lv_lconst (v := (0 : Int64)) hx hb dX11_weighsTerm_356 (by decide) ?_
                exact hJ357_11 (0 : Int64) H locs ls hP hS  (lv_sub hl [0, 1, 2, 3, 4, 5] rfl) hf
              · have hf := ifT hf c19
                refine lv_lconst (v := (1 : Int64)) hx hb dX11_weighsTerm_352 (by decide) ?_
                refine lv_goto (tgt := 357) hx hb dX11_weighsTerm_353 (by decide) ?_
                exact hJ357_11 (1 : Int64) H locs ls hP hS  (lv_sub hl [0, 1, 2, 3, 4, 5] rfl) hf
            clear ej_7
            refine lv_icmp_ne (tgt := 320) hx hb dX11_weighsTerm_307 (by decide) (fun c20 => ?_) (fun c20 => ?_)
            · have hf := ifF hf c20
              refine lv_iload hx hb dX11_weighsTerm_320 (lv_at hl 0 rfl) ?_
              refine lv_bipush (v := (98 : Int32)) hx hb dX11_weighsTerm_322 (by decide) ?_
              refine lv_icmp_ne (tgt := 337) hx hb dX11_weighsTerm_324 (by decide) (fun c21 => ?_) (fun c21 => ?_)
              · have hf := ifF hf c21
                refine lv_lconst (v := (0 : Int64)) hx hb dX11_weighsTerm_337 (by decide) ?_
                exact hJ338_7 (0 : Int64) H locs ls hP hS  (lv_sub hl [1, 2, 3, 4, 5, 0] rfl) hf
              · have hf := ifT hf c21
                refine lv_aload_n hx hb dX11_weighsTerm_327 rfl (lv_at hl 1 rfl) ?_
                have t22 : kdM (R x0 12) = 1 := wt hT h0 rfl
                refine mm_getr hx hb hts hown hKK hP fk11_12 (Nat.le_of_ble_eq_true rfl) lkX11_31 (kdM_lt h0 (Nat.succ_ne_zero _)) h0 (nM t22 (Nat.succ_ne_zero _)) dX11_weighsTerm_328 ?_
                refine lv_iconst (v := (1 : Int32)) hx hb dX11_weighsTerm_331 (by decide) ?_
                obtain ⟨g23, hf⟩ := grd hf
                refine mm_iald hx hb hKK hP (kdM_lt t22 (Nat.succ_ne_zero _)) t22 g23 dX11_weighsTerm_332 ?_
                refine lv_i2l (v := ((I (R x0 12) ((1 : Int32)).toNatClampNeg)).toInt64) hx hb dX11_weighsTerm_333 rfl ?_
                refine lv_goto (tgt := 338) hx hb dX11_weighsTerm_334 (by decide) ?_
                exact hJ338_7 (((I (R x0 12) ((1 : Int32)).toNatClampNeg)).toInt64) H locs ls hP hS  (lv_sub hl [1, 2, 3, 4, 5, 0] rfl) hf
            · have hf := ifT hf c20
              refine lv_aload_n hx hb dX11_weighsTerm_310 rfl (lv_at hl 1 rfl) ?_
              have t24 : kdM (R x0 12) = 1 := wt hT h0 rfl
              refine mm_getr hx hb hts hown hKK hP fk11_12 (Nat.le_of_ble_eq_true rfl) lkX11_31 (kdM_lt h0 (Nat.succ_ne_zero _)) h0 (nM t24 (Nat.succ_ne_zero _)) dX11_weighsTerm_311 ?_
              refine lv_iconst (v := (0 : Int32)) hx hb dX11_weighsTerm_314 (by decide) ?_
              obtain ⟨g25, hf⟩ := grd hf
              refine mm_iald hx hb hKK hP (kdM_lt t24 (Nat.succ_ne_zero _)) t24 g25 dX11_weighsTerm_315 ?_
              refine lv_i2l (v := ((I (R x0 12) ((0 : Int32)).toNatClampNeg)).toInt64) hx hb dX11_weighsTerm_316 rfl ?_
              refine lv_goto (tgt := 338) hx hb dX11_weighsTerm_317 (by decide) ?_
              exact hJ338_7 (((I (R x0 12) ((0 : Int32)).toNatClampNeg)).toInt64) H locs ls hP hS  (lv_sub hl [1, 2, 3, 4, 5, 0] rfl) hf
          · have hf := ifT hf c5
            refine lv_aload_n hx hb dX11_weighsTerm_136 rfl (lv_at hl 1 rfl) ?_
            have t26 : kdM (R x0 13) = 2 := wt hT h0 rfl
            refine mm_getr hx hb hts hown hKK hP fk11_13 (Nat.le_of_ble_eq_true rfl) lkX11_34 (kdM_lt h0 (Nat.succ_ne_zero _)) h0 (nM t26 (Nat.succ_ne_zero _)) dX11_weighsTerm_137 ?_
            refine lv_iload hx hb dX11_weighsTerm_140 (lv_at hl 4 rfl) ?_
            refine lv_iconst (v := (2 : Int32)) hx hb dX11_weighsTerm_142 (by decide) ?_
            refine lv_isub hx hb dX11_weighsTerm_143 ?_
            refine lv_aload_n hx hb dX11_weighsTerm_144 rfl (lv_at hl 1 rfl) ?_
            have t27 : kdM (R x0 12) = 1 := wt hT h0 rfl
            refine mm_getr hx hb hts hown hKK hP fk11_12 (Nat.le_of_ble_eq_true rfl) lkX11_31 (kdM_lt h0 (Nat.succ_ne_zero _)) h0 (nM t27 (Nat.succ_ne_zero _)) dX11_weighsTerm_145 ?_
            refine lv_iconst (v := (3 : Int32)) hx hb dX11_weighsTerm_148 (by decide) ?_
            obtain ⟨g28, hf⟩ := grd hf
            refine mm_iald hx hb hKK hP (kdM_lt t27 (Nat.succ_ne_zero _)) t27 g28 dX11_weighsTerm_149 ?_
            refine lv_i2l (v := ((I (R x0 12) ((3 : Int32)).toNatClampNeg)).toInt64) hx hb dX11_weighsTerm_150 rfl ?_
            refine lv_aload_n hx hb dX11_weighsTerm_151 rfl (lv_at hl 1 rfl) ?_
            refine mm_getr hx hb hts hown hKK hP fk11_12 (Nat.le_of_ble_eq_true rfl) lkX11_31 (kdM_lt h0 (Nat.succ_ne_zero _)) h0 (nM t27 (Nat.succ_ne_zero _)) dX11_weighsTerm_152 ?_
            refine lv_iconst (v := (5 : Int32)) hx hb dX11_weighsTerm_155 (by decide) ?_
            obtain ⟨g29, hf⟩ := grd hf
            refine mm_iald hx hb hKK hP (kdM_lt t27 (Nat.succ_ne_zero _)) t27 g29 dX11_weighsTerm_156 ?_
            refine lv_i2l (v := ((I (R x0 12) ((5 : Int32)).toNatClampNeg)).toInt64) hx hb dX11_weighsTerm_157 rfl ?_
            refine lv_aload_n hx hb dX11_weighsTerm_158 rfl (lv_at hl 1 rfl) ?_
            refine mm_getr hx hb hts hown hKK hP fk11_13 (Nat.le_of_ble_eq_true rfl) lkX11_34 (kdM_lt h0 (Nat.succ_ne_zero _)) h0 (nM t26 (Nat.succ_ne_zero _)) dX11_weighsTerm_159 ?_
            refine lv_iload hx hb dX11_weighsTerm_162 (lv_at hl 4 rfl) ?_
            refine lv_iconst (v := (1 : Int32)) hx hb dX11_weighsTerm_164 (by decide) ?_
            refine lv_isub hx hb dX11_weighsTerm_165 ?_
            obtain ⟨g30, hf⟩ := grd hf
            refine mm_lald hx hb hKK hP (kdM_lt t26 (Nat.succ_ne_zero _)) t26 g30 dX11_weighsTerm_166 ?_
            refine lv_lmul hx hb dX11_weighsTerm_167 ?_
            refine lv_ladd hx hb dX11_weighsTerm_168 ?_
            refine lv_aload_n hx hb dX11_weighsTerm_169 rfl (lv_at hl 1 rfl) ?_
            refine mm_getr hx hb hts hown hKK hP fk11_12 (Nat.le_of_ble_eq_true rfl) lkX11_31 (kdM_lt h0 (Nat.succ_ne_zero _)) h0 (nM t27 (Nat.succ_ne_zero _)) dX11_weighsTerm_170 ?_
            refine lv_bipush (v := (6 : Int32)) hx hb dX11_weighsTerm_173 (by decide) ?_
            obtain ⟨g31, hf⟩ := grd hf
            refine mm_iald hx hb hKK hP (kdM_lt t27 (Nat.succ_ne_zero _)) t27 g31 dX11_weighsTerm_175 ?_
            refine lv_i2l (v := ((I (R x0 12) ((6 : Int32)).toNatClampNeg)).toInt64) hx hb dX11_weighsTerm_176 rfl ?_
            refine lv_aload_n hx hb dX11_weighsTerm_177 rfl (lv_at hl 1 rfl) ?_
            refine mm_getr hx hb hts hown hKK hP fk11_13 (Nat.le_of_ble_eq_true rfl) lkX11_34 (kdM_lt h0 (Nat.succ_ne_zero _)) h0 (nM t26 (Nat.succ_ne_zero _)) dX11_weighsTerm_178 ?_
            refine lv_iload hx hb dX11_weighsTerm_181 (lv_at hl 4 rfl) ?_
            refine lv_iconst (v := (2 : Int32)) hx hb dX11_weighsTerm_183 (by decide) ?_
            refine lv_isub hx hb dX11_weighsTerm_184 ?_
            obtain ⟨g32, hf⟩ := grd hf
            refine mm_lald hx hb hKK hP (kdM_lt t26 (Nat.succ_ne_zero _)) t26 g32 dX11_weighsTerm_185 ?_
            refine lv_lmul hx hb dX11_weighsTerm_186 ?_
            refine lv_ladd hx hb dX11_weighsTerm_187 ?_
            refine lv_ldc2 (v := (1000000007 : Int64)) hx hb hown (hts _ cwX11_181) dX11_weighsTerm_188 ?_
            refine lv_lrem hx hb dX11_weighsTerm_191 (by decide) ?_
            refine jnE hf (fun L33 eL33 hf => ?_)
            refine mm_last hx hb hKK hP hA hS (kdM_lt t26 (Nat.succ_ne_zero _)) t26 g32 dX11_weighsTerm_192 (fun H locs hP hS => ?_)
            rw [← eL33] at hP
            refine lv_aload_n hx hb dX11_weighsTerm_193 rfl (lv_at hl 1 rfl) ?_
            have t34 : kdM (R x0 14) = 2 := wt hT h0 rfl
            refine mm_getr hx hb hts hown hKK hP fk11_14 (Nat.le_of_ble_eq_true rfl) lkX11_38 (kdM_lt h0 (Nat.succ_ne_zero _)) h0 (nM t34 (Nat.succ_ne_zero _)) dX11_weighsTerm_194 ?_
            refine lv_iload hx hb dX11_weighsTerm_197 (lv_at hl 4 rfl) ?_
            refine lv_iconst (v := (2 : Int32)) hx hb dX11_weighsTerm_199 (by decide) ?_
            refine lv_isub hx hb dX11_weighsTerm_200 ?_
            refine lv_aload_n hx hb dX11_weighsTerm_201 rfl (lv_at hl 1 rfl) ?_
            refine mm_getr hx hb hts hown hKK hP fk11_12 (Nat.le_of_ble_eq_true rfl) lkX11_31 (kdM_lt h0 (Nat.succ_ne_zero _)) h0 (nM t27 (Nat.succ_ne_zero _)) dX11_weighsTerm_202 ?_
            refine lv_iconst (v := (5 : Int32)) hx hb dX11_weighsTerm_205 (by decide) ?_
            refine mm_iald hx hb hKK hP (kdM_lt t27 (Nat.succ_ne_zero _)) t27 g29 dX11_weighsTerm_206 ?_
            refine lv_i2l (v := ((I (R x0 12) ((5 : Int32)).toNatClampNeg)).toInt64) hx hb dX11_weighsTerm_207 rfl ?_
            refine lv_aload_n hx hb dX11_weighsTerm_208 rfl (lv_at hl 1 rfl) ?_
            refine mm_getr hx hb hts hown hKK hP fk11_14 (Nat.le_of_ble_eq_true rfl) lkX11_38 (kdM_lt h0 (Nat.succ_ne_zero _)) h0 (nM t34 (Nat.succ_ne_zero _)) dX11_weighsTerm_209 ?_
            refine lv_iload hx hb dX11_weighsTerm_212 (lv_at hl 4 rfl) ?_
            refine lv_iconst (v := (1 : Int32)) hx hb dX11_weighsTerm_214 (by decide) ?_
            refine lv_isub hx hb dX11_weighsTerm_215 ?_
            obtain ⟨g35, hf⟩ := grd hf
            refine mm_lald hx hb hKK hP (kdM_lt t34 (Nat.succ_ne_zero _)) t34 g35 dX11_weighsTerm_216 ?_
            refine lv_lmul hx hb dX11_weighsTerm_217 ?_
            refine lv_aload_n hx hb dX11_weighsTerm_218 rfl (lv_at hl 1 rfl) ?_
            refine mm_getr hx hb hts hown hKK hP fk11_12 (Nat.le_of_ble_eq_true rfl) lkX11_31 (kdM_lt h0 (Nat.succ_ne_zero _)) h0 (nM t27 (Nat.succ_ne_zero _)) dX11_weighsTerm_219 ?_
            refine lv_bipush (v := (6 : Int32)) hx hb dX11_weighsTerm_222 (by decide) ?_
            refine mm_iald hx hb hKK hP (kdM_lt t27 (Nat.succ_ne_zero _)) t27 g31 dX11_weighsTerm_224 ?_
            refine lv_i2l (v := ((I (R x0 12) ((6 : Int32)).toNatClampNeg)).toInt64) hx hb dX11_weighsTerm_225 rfl ?_
            refine lv_aload_n hx hb dX11_weighsTerm_226 rfl (lv_at hl 1 rfl) ?_
            refine mm_getr hx hb hts hown hKK hP fk11_14 (Nat.le_of_ble_eq_true rfl) lkX11_38 (kdM_lt h0 (Nat.succ_ne_zero _)) h0 (nM t34 (Nat.succ_ne_zero _)) dX11_weighsTerm_227 ?_
            refine lv_iload hx hb dX11_weighsTerm_230 (lv_at hl 4 rfl) ?_
            refine lv_iconst (v := (2 : Int32)) hx hb dX11_weighsTerm_232 (by decide) ?_
            refine lv_isub hx hb dX11_weighsTerm_233 ?_
            obtain ⟨g36, hf⟩ := grd hf
            refine mm_lald hx hb hKK hP (kdM_lt t34 (Nat.succ_ne_zero _)) t34 g36 dX11_weighsTerm_234 ?_
            refine lv_lmul hx hb dX11_weighsTerm_235 ?_
            refine lv_ladd hx hb dX11_weighsTerm_236 ?_
            refine lv_ldc2 (v := (1000000007 : Int64)) hx hb hown (hts _ cwX11_181) dX11_weighsTerm_237 ?_
            refine lv_lrem hx hb dX11_weighsTerm_240 (by decide) ?_
            refine jnE hf (fun L37 eL37 hf => ?_)
            refine mm_last hx hb hKK hP hA hS (kdM_lt t34 (Nat.succ_ne_zero _)) t34 g36 dX11_weighsTerm_241 (fun H locs hP hS => ?_)
            rw [← eL37] at hP
            refine lv_aload_n hx hb dX11_weighsTerm_242 rfl (lv_at hl 1 rfl) ?_
            have t38 : kdM (R x0 15) = 2 := wt hT h0 rfl
            refine mm_getr hx hb hts hown hKK hP fk11_15 (Nat.le_of_ble_eq_true rfl) lkX11_41 (kdM_lt h0 (Nat.succ_ne_zero _)) h0 (nM t38 (Nat.succ_ne_zero _)) dX11_weighsTerm_243 ?_
            refine lv_iload hx hb dX11_weighsTerm_246 (lv_at hl 4 rfl) ?_
            refine lv_iconst (v := (2 : Int32)) hx hb dX11_weighsTerm_248 (by decide) ?_
            refine lv_isub hx hb dX11_weighsTerm_249 ?_
            refine lv_aload_n hx hb dX11_weighsTerm_250 rfl (lv_at hl 1 rfl) ?_
            refine mm_getr hx hb hts hown hKK hP fk11_12 (Nat.le_of_ble_eq_true rfl) lkX11_31 (kdM_lt h0 (Nat.succ_ne_zero _)) h0 (nM t27 (Nat.succ_ne_zero _)) dX11_weighsTerm_251 ?_
            refine lv_iconst (v := (5 : Int32)) hx hb dX11_weighsTerm_254 (by decide) ?_
            refine mm_iald hx hb hKK hP (kdM_lt t27 (Nat.succ_ne_zero _)) t27 g29 dX11_weighsTerm_255 ?_
            refine lv_i2l (v := ((I (R x0 12) ((5 : Int32)).toNatClampNeg)).toInt64) hx hb dX11_weighsTerm_256 rfl ?_
            refine lv_aload_n hx hb dX11_weighsTerm_257 rfl (lv_at hl 1 rfl) ?_
            refine mm_getr hx hb hts hown hKK hP fk11_15 (Nat.le_of_ble_eq_true rfl) lkX11_41 (kdM_lt h0 (Nat.succ_ne_zero _)) h0 (nM t38 (Nat.succ_ne_zero _)) dX11_weighsTerm_258 ?_
            refine lv_iload hx hb dX11_weighsTerm_261 (lv_at hl 4 rfl) ?_
            refine lv_iconst (v := (1 : Int32)) hx hb dX11_weighsTerm_263 (by decide) ?_
            refine lv_isub hx hb dX11_weighsTerm_264 ?_
            obtain ⟨g39, hf⟩ := grd hf
            refine mm_lald hx hb hKK hP (kdM_lt t38 (Nat.succ_ne_zero _)) t38 g39 dX11_weighsTerm_265 ?_
            refine lv_lmul hx hb dX11_weighsTerm_266 ?_
            refine lv_aload_n hx hb dX11_weighsTerm_267 rfl (lv_at hl 1 rfl) ?_
            refine mm_getr hx hb hts hown hKK hP fk11_12 (Nat.le_of_ble_eq_true rfl) lkX11_31 (kdM_lt h0 (Nat.succ_ne_zero _)) h0 (nM t27 (Nat.succ_ne_zero _)) dX11_weighsTerm_268 ?_
            refine lv_bipush (v := (6 : Int32)) hx hb dX11_weighsTerm_271 (by decide) ?_
            refine mm_iald hx hb hKK hP (kdM_lt t27 (Nat.succ_ne_zero _)) t27 g31 dX11_weighsTerm_273 ?_
            refine lv_i2l (v := ((I (R x0 12) ((6 : Int32)).toNatClampNeg)).toInt64) hx hb dX11_weighsTerm_274 rfl ?_
            refine lv_aload_n hx hb dX11_weighsTerm_275 rfl (lv_at hl 1 rfl) ?_
            refine mm_getr hx hb hts hown hKK hP fk11_15 (Nat.le_of_ble_eq_true rfl) lkX11_41 (kdM_lt h0 (Nat.succ_ne_zero _)) h0 (nM t38 (Nat.succ_ne_zero _)) dX11_weighsTerm_276 ?_
            refine lv_iload hx hb dX11_weighsTerm_279 (lv_at hl 4 rfl) ?_
            refine lv_iconst (v := (2 : Int32)) hx hb dX11_weighsTerm_281 (by decide) ?_
            refine lv_isub hx hb dX11_weighsTerm_282 ?_
            obtain ⟨g40, hf⟩ := grd hf
            refine mm_lald hx hb hKK hP (kdM_lt t38 (Nat.succ_ne_zero _)) t38 g40 dX11_weighsTerm_283 ?_
            refine lv_lmul hx hb dX11_weighsTerm_284 ?_
            refine lv_ladd hx hb dX11_weighsTerm_285 ?_
            refine lv_ldc2 (v := (1000000007 : Int64)) hx hb hown (hts _ cwX11_181) dX11_weighsTerm_286 ?_
            refine lv_lrem hx hb dX11_weighsTerm_289 (by decide) ?_
            refine jnE hf (fun L41 eL41 hf => ?_)
            refine mm_last hx hb hKK hP hA hS (kdM_lt t38 (Nat.succ_ne_zero _)) t38 g40 dX11_weighsTerm_290 (fun H locs hP hS => ?_)
            rw [← eL41] at hP
            refine lv_iinc (v := (x4 + (-1 : Int32))) (lv' := [(4, .int (x4 + (-1 : Int32))), (6, .int (I x1 ((x2 + x5)).toNatClampNeg)), (0, .ref (b + x0)), (1, .ref (b + x1)), (2, .int x2), (5, .int x5)]) hx hb dX11_weighsTerm_291 hl (k := 4) rfl rfl (Nat.le_of_ble_eq_true rfl) rfl (fun ls hl => ?_)
            refine lv_goto (tgt := 380) hx hb dX11_weighsTerm_294 (by decide) ?_
            exact hJ380_3 (x4 + (-1 : Int32)) L41 H locs ls hP hS  (lv_sub hl [2, 3, 4, 0, 5] rfl) hf
        · have hf := ifT hf c4
          refine lv_aload_n hx hb dX11_weighsTerm_28 rfl (lv_at hl 1 rfl) ?_
          have t42 : kdM (R x0 13) = 2 := wt hT h0 rfl
          refine mm_getr hx hb hts hown hKK hP fk11_13 (Nat.le_of_ble_eq_true rfl) lkX11_34 (kdM_lt h0 (Nat.succ_ne_zero _)) h0 (nM t42 (Nat.succ_ne_zero _)) dX11_weighsTerm_29 ?_
          refine lv_iload hx hb dX11_weighsTerm_32 (lv_at hl 4 rfl) ?_
          refine lv_iconst (v := (1 : Int32)) hx hb dX11_weighsTerm_34 (by decide) ?_
          refine lv_isub hx hb dX11_weighsTerm_35 ?_
          refine lv_aload_n hx hb dX11_weighsTerm_36 rfl (lv_at hl 1 rfl) ?_
          have t43 : kdM (R x0 12) = 1 := wt hT h0 rfl
          refine mm_getr hx hb hts hown hKK hP fk11_12 (Nat.le_of_ble_eq_true rfl) lkX11_31 (kdM_lt h0 (Nat.succ_ne_zero _)) h0 (nM t43 (Nat.succ_ne_zero _)) dX11_weighsTerm_37 ?_
          refine lv_iconst (v := (2 : Int32)) hx hb dX11_weighsTerm_40 (by decide) ?_
          obtain ⟨g44, hf⟩ := grd hf
          refine mm_iald hx hb hKK hP (kdM_lt t43 (Nat.succ_ne_zero _)) t43 g44 dX11_weighsTerm_41 ?_
          refine lv_i2l (v := ((I (R x0 12) ((2 : Int32)).toNatClampNeg)).toInt64) hx hb dX11_weighsTerm_42 rfl ?_
          refine lv_aload_n hx hb dX11_weighsTerm_43 rfl (lv_at hl 1 rfl) ?_
          refine mm_getr hx hb hts hown hKK hP fk11_12 (Nat.le_of_ble_eq_true rfl) lkX11_31 (kdM_lt h0 (Nat.succ_ne_zero _)) h0 (nM t43 (Nat.succ_ne_zero _)) dX11_weighsTerm_44 ?_
          refine lv_iconst (v := (4 : Int32)) hx hb dX11_weighsTerm_47 (by decide) ?_
          obtain ⟨g45, hf⟩ := grd hf
          refine mm_iald hx hb hKK hP (kdM_lt t43 (Nat.succ_ne_zero _)) t43 g45 dX11_weighsTerm_48 ?_
          refine lv_i2l (v := ((I (R x0 12) ((4 : Int32)).toNatClampNeg)).toInt64) hx hb dX11_weighsTerm_49 rfl ?_
          refine lv_aload_n hx hb dX11_weighsTerm_50 rfl (lv_at hl 1 rfl) ?_
          refine mm_getr hx hb hts hown hKK hP fk11_13 (Nat.le_of_ble_eq_true rfl) lkX11_34 (kdM_lt h0 (Nat.succ_ne_zero _)) h0 (nM t42 (Nat.succ_ne_zero _)) dX11_weighsTerm_51 ?_
          refine lv_iload hx hb dX11_weighsTerm_54 (lv_at hl 4 rfl) ?_
          refine lv_iconst (v := (1 : Int32)) hx hb dX11_weighsTerm_56 (by decide) ?_
          refine lv_isub hx hb dX11_weighsTerm_57 ?_
          obtain ⟨g46, hf⟩ := grd hf
          refine mm_lald hx hb hKK hP (kdM_lt t42 (Nat.succ_ne_zero _)) t42 g46 dX11_weighsTerm_58 ?_
          refine lv_lmul hx hb dX11_weighsTerm_59 ?_
          refine lv_ladd hx hb dX11_weighsTerm_60 ?_
          refine lv_ldc2 (v := (1000000007 : Int64)) hx hb hown (hts _ cwX11_181) dX11_weighsTerm_61 ?_
          refine lv_lrem hx hb dX11_weighsTerm_64 (by decide) ?_
          refine jnE hf (fun L47 eL47 hf => ?_)
          refine mm_last hx hb hKK hP hA hS (kdM_lt t42 (Nat.succ_ne_zero _)) t42 g46 dX11_weighsTerm_65 (fun H locs hP hS => ?_)
          rw [← eL47] at hP
          refine lv_aload_n hx hb dX11_weighsTerm_66 rfl (lv_at hl 1 rfl) ?_
          have t48 : kdM (R x0 14) = 2 := wt hT h0 rfl
          refine mm_getr hx hb hts hown hKK hP fk11_14 (Nat.le_of_ble_eq_true rfl) lkX11_38 (kdM_lt h0 (Nat.succ_ne_zero _)) h0 (nM t48 (Nat.succ_ne_zero _)) dX11_weighsTerm_67 ?_
          refine lv_iload hx hb dX11_weighsTerm_70 (lv_at hl 4 rfl) ?_
          refine lv_iconst (v := (1 : Int32)) hx hb dX11_weighsTerm_72 (by decide) ?_
          refine lv_isub hx hb dX11_weighsTerm_73 ?_
          refine lv_aload_n hx hb dX11_weighsTerm_74 rfl (lv_at hl 1 rfl) ?_
          refine mm_getr hx hb hts hown hKK hP fk11_12 (Nat.le_of_ble_eq_true rfl) lkX11_31 (kdM_lt h0 (Nat.succ_ne_zero _)) h0 (nM t43 (Nat.succ_ne_zero _)) dX11_weighsTerm_75 ?_
          refine lv_iconst (v := (4 : Int32)) hx hb dX11_weighsTerm_78 (by decide) ?_
          refine mm_iald hx hb hKK hP (kdM_lt t43 (Nat.succ_ne_zero _)) t43 g45 dX11_weighsTerm_79 ?_
          refine lv_i2l (v := ((I (R x0 12) ((4 : Int32)).toNatClampNeg)).toInt64) hx hb dX11_weighsTerm_80 rfl ?_
          refine lv_aload_n hx hb dX11_weighsTerm_81 rfl (lv_at hl 1 rfl) ?_
          refine mm_getr hx hb hts hown hKK hP fk11_14 (Nat.le_of_ble_eq_true rfl) lkX11_38 (kdM_lt h0 (Nat.succ_ne_zero _)) h0 (nM t48 (Nat.succ_ne_zero _)) dX11_weighsTerm_82 ?_
          refine lv_iload hx hb dX11_weighsTerm_85 (lv_at hl 4 rfl) ?_
          refine lv_iconst (v := (1 : Int32)) hx hb dX11_weighsTerm_87 (by decide) ?_
          refine lv_isub hx hb dX11_weighsTerm_88 ?_
          obtain ⟨g49, hf⟩ := grd hf
          refine mm_lald hx hb hKK hP (kdM_lt t48 (Nat.succ_ne_zero _)) t48 g49 dX11_weighsTerm_89 ?_
          refine lv_lmul hx hb dX11_weighsTerm_90 ?_
          refine lv_ldc2 (v := (1000000007 : Int64)) hx hb hown (hts _ cwX11_181) dX11_weighsTerm_91 ?_
          refine lv_lrem hx hb dX11_weighsTerm_94 (by decide) ?_
          refine jnE hf (fun L50 eL50 hf => ?_)
          refine mm_last hx hb hKK hP hA hS (kdM_lt t48 (Nat.succ_ne_zero _)) t48 g49 dX11_weighsTerm_95 (fun H locs hP hS => ?_)
          rw [← eL50] at hP
          refine lv_aload_n hx hb dX11_weighsTerm_96 rfl (lv_at hl 1 rfl) ?_
          have t51 : kdM (R x0 15) = 2 := wt hT h0 rfl
          refine mm_getr hx hb hts hown hKK hP fk11_15 (Nat.le_of_ble_eq_true rfl) lkX11_41 (kdM_lt h0 (Nat.succ_ne_zero _)) h0 (nM t51 (Nat.succ_ne_zero _)) dX11_weighsTerm_97 ?_
          refine lv_iload hx hb dX11_weighsTerm_100 (lv_at hl 4 rfl) ?_
          refine lv_iconst (v := (1 : Int32)) hx hb dX11_weighsTerm_102 (by decide) ?_
          refine lv_isub hx hb dX11_weighsTerm_103 ?_
          refine lv_aload_n hx hb dX11_weighsTerm_104 rfl (lv_at hl 1 rfl) ?_
          refine mm_getr hx hb hts hown hKK hP fk11_12 (Nat.le_of_ble_eq_true rfl) lkX11_31 (kdM_lt h0 (Nat.succ_ne_zero _)) h0 (nM t43 (Nat.succ_ne_zero _)) dX11_weighsTerm_105 ?_
          refine lv_iconst (v := (4 : Int32)) hx hb dX11_weighsTerm_108 (by decide) ?_
          refine mm_iald hx hb hKK hP (kdM_lt t43 (Nat.succ_ne_zero _)) t43 g45 dX11_weighsTerm_109 ?_
          refine lv_i2l (v := ((I (R x0 12) ((4 : Int32)).toNatClampNeg)).toInt64) hx hb dX11_weighsTerm_110 rfl ?_
          refine lv_aload_n hx hb dX11_weighsTerm_111 rfl (lv_at hl 1 rfl) ?_
          refine mm_getr hx hb hts hown hKK hP fk11_15 (Nat.le_of_ble_eq_true rfl) lkX11_41 (kdM_lt h0 (Nat.succ_ne_zero _)) h0 (nM t51 (Nat.succ_ne_zero _)) dX11_weighsTerm_112 ?_
          refine lv_iload hx hb dX11_weighsTerm_115 (lv_at hl 4 rfl) ?_
          refine lv_iconst (v := (1 : Int32)) hx hb dX11_weighsTerm_117 (by decide) ?_
          refine lv_isub hx hb dX11_weighsTerm_118 ?_
          obtain ⟨g52, hf⟩ := grd hf
          refine mm_lald hx hb hKK hP (kdM_lt t51 (Nat.succ_ne_zero _)) t51 g52 dX11_weighsTerm_119 ?_
          refine lv_lmul hx hb dX11_weighsTerm_120 ?_
          refine lv_ldc2 (v := (1000000007 : Int64)) hx hb hown (hts _ cwX11_181) dX11_weighsTerm_121 ?_
          refine lv_lrem hx hb dX11_weighsTerm_124 (by decide) ?_
          refine jnE hf (fun L53 eL53 hf => ?_)
          refine mm_last hx hb hKK hP hA hS (kdM_lt t51 (Nat.succ_ne_zero _)) t51 g52 dX11_weighsTerm_125 (fun H locs hP hS => ?_)
          rw [← eL53] at hP
          refine lv_goto (tgt := 380) hx hb dX11_weighsTerm_126 (by decide) ?_
          exact hJ380_3 x4 L53 H locs ls hP hS  (lv_sub hl [1, 2, 3, 4, 5] rfl) hf
  obtain ⟨L_54, e_54, hf⟩ := bd1_o hf
  refine lp8 FU x0 x1 x2 (0 : Int32) (x3 - (1 : Int32)) I L R L_54 H locs ls hP hS hT h0 h1 (lv_sub hl [2, 3, 4, 1, 0] rfl) e_54 (fun H locs ls hP hS hl => ?_)
  exact hret L_54 hf H locs ls _ dX11_weighsTerm_386 hP hT hS
def rmX11_compares : Room := { frames := 1, cells := 0, slots := 0, locals := 26 }
set_option maxHeartbeats 4000000 in
set_option maxRecDepth 100000 in
theorem k_X11_compares (l : Launch) (D : va_G) (ce : Nat → ClassId) (b : Nat) (I : mI) (L : mL) (R : mR) (hT : WT kdM R) (x0 : Nat) (x1 : Int32) (x2 : Int32) (x3 : Int32) (x4 : Int32) (h0 : kdM x0 = 17) (o1 : Int32) (o2 : mL) (hf : f_X11_compares x0 x1 x2 x3 x4 I L R = some (o1, o2)) : Met l yX11_compares (Cond.code yX11_compares cX11_compares 12 (some .int) :: GW) rmX11_compares (va_Pc [.ref (b + x0), .int x1, .int x2, .int x3, .int x4] (PW D ce b kdM lnM 21 I L R)) (va_Qi (fun r u => r = o1 ∧ u = (I, o2, R)) (QW D ce b kdM lnM 21) (box b 21)) 0 0 (box b 21) := by
  refine Met.ofW (cc := cX11_compares) (maxL := 12) (ret := (some .int)) (by decide) rfl ?_
  intro p e s m args below meth c s₁ B hml hv
  obtain ⟨rfl, hP, hKK⟩ := hv
  have hx := B.exec
  have hb := B.bytes
  have hr := B.returns
  have hts0 := atoms_spec (ws := Cond.code yX11_compares cX11_compares 12 (some .int) :: GW) B.pre
  have hts : ∀ w ∈ GW, w.before _ s = true := fun w h => hts0 w (List.mem_cons_of_mem _ h)
  clear hts0
  have hown : s.vm.findClass RX11 = some m.cls := findClass_of_methodNamed B.named
  have hlocks := B.notSynchronized
  have hA : ∀ q, box b 21 q → box b 21 q := fun _ h => h
  have hS : va_S (box b 21) s.heap s.heap [] := va_S.rf
  have hl := lv_entry ([.ref (b + x0), .int x1, .int x2, .int x3, .int x4]) (n := 12) (Nat.le_of_ble_eq_true rfl)
  rw [lg_entry_eq]
  generalize (lg_sl ([.ref (b + x0), .int x1, .int x2, .int x3, .int x4]) ++ List.replicate (12 - (lg_sl ([.ref (b + x0), .int x1, .int x2, .int x3, .int x4])).length) Slot.unset).toArray = ls at hl ⊢
  have hl : lv_has ls 12 [(0, .ref (b + x0)), (1, .int x1), (2, .int x2), (3, .int x3), (4, .int x4)] := hl
  generalize ([.ref (b + x0), .int x1, .int x2, .int x3, .int x4] : List Value).toArray = av at hts ⊢
  show W p l e rmX11_compares s m av below meth c s.heap [] 0 0 _ _
  obtain ⟨QQ, hQQ⟩ : ∃ z, z = MQ below (va_Qi (fun r u => r = o1 ∧ u = (I, o2, R)) (QW D ce b kdM lnM 21) (box b 21)) av s 0 0 (box b 21) := ⟨_, rfl⟩
  rw [← hQQ]
  have hret : ∀ (r : Int32) (L1 : mL), some (r, L1) = some (o1, o2) → ∀ (H1 : Heap) (locs1 : List Loc) (ls1 : Array Slot) (pc1 : Nat), decode cX11_compares pc1 = .ok (.ireturn, 1) → va_P D vwCl (wd ce b kdM lnM 21 I L1 R) H1 → WT kdM R → va_S (box b 21) s.heap H1 locs1 → W p l e rmX11_compares s m av below meth c H1 locs1 0 0 QQ (F0 m pc1 ls1 [.int r]) := by
    intro r L1 hq H1 locs1 ls1 pc1 hd hP hT hS
    cases hq
    rw [hQQ]
    exact mm_iret hx hb hr hlocks hP hT hS hd
  unfold f_X11_compares at hf
  obtain ⟨H, hH⟩ : ∃ z, z = s.heap := ⟨_, rfl⟩
  obtain ⟨locs, hlo⟩ : ∃ z : List Loc, z = [] := ⟨_, rfl⟩
  have hP : va_P D vwCl (wd ce b kdM lnM 21 I L R) H := by rw [hH]; exact hP
  have hS : va_S (box b 21) s.heap H locs := by rw [hH, hlo]; exact hS
  rw [show W p l e rmX11_compares s m av below meth c s.heap [] 0 0 QQ = W p l e rmX11_compares s m av below meth c H locs 0 0 QQ by rw [hH, hlo]]
  clear hH hlo
  clear hQQ
  show W p l e rmX11_compares s m av below meth c H locs 0 0 QQ (F0 m 0 ls [])
  refine lv_aload_n hx hb dX11_compares_0 rfl (lv_at hl 0 rfl) ?_
  refine lv_aload_n hx hb dX11_compares_1 rfl (lv_at hl 0 rfl) ?_
  have t1 : kdM (R x0 0) = 1 := wt hT h0 rfl
  refine mm_getr hx hb hts hown hKK hP fk11_0 (Nat.le_of_ble_eq_true rfl) lkX11_7 (kdM_lt h0 (Nat.succ_ne_zero _)) h0 (nM t1 (Nat.succ_ne_zero _)) dX11_compares_2 ?_
  refine lv_iload_n hx hb dX11_compares_5 rfl (lv_at hl 1 rfl) ?_
  refine lv_iload_n hx hb dX11_compares_6 rfl (lv_at hl 2 rfl) ?_
  obtain ⟨L2, e2, hf⟩ := bd1_o hf
  refine mm_Vv (rest := []) hx hb hml hown hts hKK hP hS hA (kdM_lt h0 (Nat.succ_ne_zero _)) h0 (show vwCl[11]? = some (yX11_weighsTerm.cls, TX11, 32) from rfl) vkX11_183 (k_X11_weighsTerm l D ce b I L R hT x0 (R x0 0) x1 x2 h0 t1 L2 e2) rfl hl.1 rfl (Nat.le_of_ble_eq_true rfl) ⟨rfl, rfl⟩ ⟨Nat.le_of_ble_eq_true rfl, Nat.le_of_ble_eq_true rfl⟩ ⟨Nat.zero_le _, Nat.zero_le _⟩ dX11_compares_7 (fun H locs hP hT hS => ?_)
  refine lv_aload_n hx hb dX11_compares_10 rfl (lv_at hl 0 rfl) ?_
  have t3 : kdM (R x0 13) = 2 := wt hT h0 rfl
  refine mm_getr hx hb hts hown hKK hP fk11_13 (Nat.le_of_ble_eq_true rfl) lkX11_34 (kdM_lt h0 (Nat.succ_ne_zero _)) h0 (nM t3 (Nat.succ_ne_zero _)) dX11_compares_11 ?_
  refine lv_iconst (v := (0 : Int32)) hx hb dX11_compares_14 (by decide) ?_
  obtain ⟨g4, hf⟩ := grd hf
  refine mm_lald hx hb hKK hP (kdM_lt t3 (Nat.succ_ne_zero _)) t3 g4 dX11_compares_15 ?_
  refine lv_lstore (lv' := [(5, .long (L2 (R x0 13) ((0 : Int32)).toNatClampNeg)), (0, .ref (b + x0)), (1, .int x1), (2, .int x2), (3, .int x3), (4, .int x4)]) hx hb dX11_compares_16 hl (Nat.le_of_ble_eq_true rfl) rfl (fun ls hl => ?_)
  refine lv_aload_n hx hb dX11_compares_18 rfl (lv_at hl 1 rfl) ?_
  have t5 : kdM (R x0 14) = 2 := wt hT h0 rfl
  refine mm_getr hx hb hts hown hKK hP fk11_14 (Nat.le_of_ble_eq_true rfl) lkX11_38 (kdM_lt h0 (Nat.succ_ne_zero _)) h0 (nM t5 (Nat.succ_ne_zero _)) dX11_compares_19 ?_
  refine lv_iconst (v := (0 : Int32)) hx hb dX11_compares_22 (by decide) ?_
  obtain ⟨g6, hf⟩ := grd hf
  refine mm_lald hx hb hKK hP (kdM_lt t5 (Nat.succ_ne_zero _)) t5 g6 dX11_compares_23 ?_
  refine lv_lstore (lv' := [(7, .long (L2 (R x0 14) ((0 : Int32)).toNatClampNeg)), (5, .long (L2 (R x0 13) ((0 : Int32)).toNatClampNeg)), (0, .ref (b + x0)), (1, .int x1), (2, .int x2), (3, .int x3), (4, .int x4)]) hx hb dX11_compares_24 hl (Nat.le_of_ble_eq_true rfl) rfl (fun ls hl => ?_)
  refine lv_aload_n hx hb dX11_compares_26 rfl (lv_at hl 2 rfl) ?_
  have t7 : kdM (R x0 15) = 2 := wt hT h0 rfl
  refine mm_getr hx hb hts hown hKK hP fk11_15 (Nat.le_of_ble_eq_true rfl) lkX11_41 (kdM_lt h0 (Nat.succ_ne_zero _)) h0 (nM t7 (Nat.succ_ne_zero _)) dX11_compares_27 ?_
  refine lv_iconst (v := (0 : Int32)) hx hb dX11_compares_30 (by decide) ?_
  obtain ⟨g8, hf⟩ := grd hf
  refine mm_lald hx hb hKK hP (kdM_lt t7 (Nat.succ_ne_zero _)) t7 g8 dX11_compares_31 ?_
  refine lv_lstore (lv' := [(9, .long (L2 (R x0 15) ((0 : Int32)).toNatClampNeg)), (7, .long (L2 (R x0 14) ((0 : Int32)).toNatClampNeg)), (5, .long (L2 (R x0 13) ((0 : Int32)).toNatClampNeg)), (0, .ref (b + x0)), (1, .int x1), (2, .int x2), (3, .int x3), (4, .int x4)]) hx hb dX11_compares_32 hl (Nat.le_of_ble_eq_true rfl) rfl (fun ls hl => ?_)
  refine lv_aload_n hx hb dX11_compares_34 rfl (lv_at hl 3 rfl) ?_
  refine lv_aload_n hx hb dX11_compares_35 rfl (lv_at hl 3 rfl) ?_
  refine mm_getr hx hb hts hown hKK hP fk11_0 (Nat.le_of_ble_eq_true rfl) lkX11_7 (kdM_lt h0 (Nat.succ_ne_zero _)) h0 (nM t1 (Nat.succ_ne_zero _)) dX11_compares_36 ?_
  refine lv_iload_n hx hb dX11_compares_39 rfl (lv_at hl 6 rfl) ?_
  refine lv_iload hx hb dX11_compares_40 (lv_at hl 7 rfl) ?_
  obtain ⟨L9, e9, hf⟩ := bd1_o hf
  refine mm_Vv (rest := []) hx hb hml hown hts hKK hP hS hA (kdM_lt h0 (Nat.succ_ne_zero _)) h0 (show vwCl[11]? = some (yX11_weighsTerm.cls, TX11, 32) from rfl) vkX11_183 (k_X11_weighsTerm l D ce b I L2 R hT x0 (R x0 0) x3 x4 h0 t1 L9 e9) rfl hl.1 rfl (Nat.le_of_ble_eq_true rfl) ⟨rfl, rfl⟩ ⟨Nat.le_of_ble_eq_true rfl, Nat.le_of_ble_eq_true rfl⟩ ⟨Nat.zero_le _, Nat.zero_le _⟩ dX11_compares_42 (fun H locs hP hT hS => ?_)
  refine lv_lload hx hb dX11_compares_45 (lv_at hl 1 rfl) ?_
  refine lv_aload_n hx hb dX11_compares_47 rfl (lv_at hl 3 rfl) ?_
  refine mm_getr hx hb hts hown hKK hP fk11_14 (Nat.le_of_ble_eq_true rfl) lkX11_38 (kdM_lt h0 (Nat.succ_ne_zero _)) h0 (nM t5 (Nat.succ_ne_zero _)) dX11_compares_48 ?_
  refine lv_iconst (v := (0 : Int32)) hx hb dX11_compares_51 (by decide) ?_
  refine mm_lald hx hb hKK hP (kdM_lt t5 (Nat.succ_ne_zero _)) t5 g6 dX11_compares_52 ?_
  refine W.lcmp hx hb dX11_compares_53 ?_
  refine jnE hf (fun j74_10 ej_10 hf => ?_)
  have hJ74_10 : ∀ (w0_10 : Int32) (H : Heap) (locs : List Loc) (ls : Array Slot), va_P D vwCl (wd ce b kdM lnM 21 I L9 R) H → va_S (box b 21) s.heap H locs → lv_has ls 12 [(0, .ref (b + x0)), (5, .long (L2 (R x0 13) ((0 : Int32)).toNatClampNeg))] → j74_10 w0_10 = some (o1, o2) → W p l e rmX11_compares s m av below meth c H locs 0 0 QQ (F0 m 74 ls [.int w0_10]) := by
    intro w0_10 H locs ls hP hS  hl hf
    rw [ej_10] at hf
    try dsimp only at hf
    refine lv_istore (lv' := [(11, .int w0_10), (0, .ref (b + x0)), (5, .long (L2 (R x0 13) ((0 : Int32)).toNatClampNeg))]) hx hb dX11_compares_74 hl (Nat.le_of_ble_eq_true rfl) rfl (fun ls hl => ?_)
    refine lv_iload hx hb dX11_compares_76 (lv_at hl 0 rfl) ?_
    refine jnE hf (fun j93_11 ej_11 hf => ?_)
    have hJ93_11 : ∀ (H : Heap) (locs : List Loc) (ls : Array Slot), va_P D vwCl (wd ce b kdM lnM 21 I L9 R) H → va_S (box b 21) s.heap H locs → lv_has ls 12 [] → j93_11  = some (o1, o2) → W p l e rmX11_compares s m av below meth c H locs 0 0 QQ (F0 m 93 ls []) := by
      intro  H locs ls hP hS  hl hf
      rw [ej_11] at hf
      try dsimp only at hf
      refine lv_iconst (v := (0 : Int32)) hx hb dX11_compares_93 (by decide) ?_
      refine lv_goto (tgt := 114) hx hb dX11_compares_94 (by decide) ?_
      exact hret (0 : Int32) L9 hf H locs ls _ dX11_compares_114 hP hT hS
    clear ej_11
    refine lv_if_eq (tgt := 93) hx hb dX11_compares_78 (by decide) (fun c12 => ?_) (fun c12 => ?_)
    · have hf := ifT hf c12
      exact hJ93_11  H locs ls hP hS  (lv_sub hl [] rfl) hf
    · have hf := ifF hf c12
      refine lv_lload hx hb dX11_compares_81 (lv_at hl 2 rfl) ?_
      refine lv_aload_n hx hb dX11_compares_83 rfl (lv_at hl 1 rfl) ?_
      refine mm_getr hx hb hts hown hKK hP fk11_13 (Nat.le_of_ble_eq_true rfl) lkX11_34 (kdM_lt h0 (Nat.succ_ne_zero _)) h0 (nM t3 (Nat.succ_ne_zero _)) dX11_compares_84 ?_
      refine lv_iconst (v := (0 : Int32)) hx hb dX11_compares_87 (by decide) ?_
      refine mm_lald hx hb hKK hP (kdM_lt t3 (Nat.succ_ne_zero _)) t3 g4 dX11_compares_88 ?_
      refine W.lcmp hx hb dX11_compares_89 ?_
      refine lv_if_ge (tgt := 97) hx hb dX11_compares_90 (by decide) (fun c13 => ?_) (fun c13 => ?_)
      · have hf := ifT hf c13
        refine lv_lload hx hb dX11_compares_97 (lv_at hl 2 rfl) ?_
        refine lv_aload_n hx hb dX11_compares_99 rfl (lv_at hl 1 rfl) ?_
        refine mm_getr hx hb hts hown hKK hP fk11_13 (Nat.le_of_ble_eq_true rfl) lkX11_34 (kdM_lt h0 (Nat.succ_ne_zero _)) h0 (nM t3 (Nat.succ_ne_zero _)) dX11_compares_100 ?_
        refine lv_iconst (v := (0 : Int32)) hx hb dX11_compares_103 (by decide) ?_
        refine mm_lald hx hb hKK hP (kdM_lt t3 (Nat.succ_ne_zero _)) t3 g4 dX11_compares_104 ?_
        refine W.lcmp hx hb dX11_compares_105 ?_
        refine lv_if_le (tgt := 113) hx hb dX11_compares_106 (by decide) (fun c14 => ?_) (fun c14 => ?_)
        · have hf := ifT hf c14
          refine lv_iconst (v := (1 : Int32)) hx hb dX11_compares_113 (by decide) ?_
          exact hret (1 : Int32) L9 hf H locs ls _ dX11_compares_114 hP hT hS
        · have hf := ifF hf c14
          refine lv_iconst (v := (2 : Int32)) hx hb dX11_compares_109 (by decide) ?_
          refine lv_goto (tgt := 114) hx hb dX11_compares_110 (by decide) ?_
          exact hret (2 : Int32) L9 hf H locs ls _ dX11_compares_114 hP hT hS
      · have hf := ifF hf c13
        exact hJ93_11  H locs ls hP hS  (lv_sub hl [] rfl) hf
  clear ej_10
  refine jnE hf (fun j73_15 ej_15 hf => ?_)
  have hJ73_15 : ∀ (H : Heap) (locs : List Loc) (ls : Array Slot), va_P D vwCl (wd ce b kdM lnM 21 I L9 R) H → va_S (box b 21) s.heap H locs → lv_has ls 12 [(0, .ref (b + x0)), (5, .long (L2 (R x0 13) ((0 : Int32)).toNatClampNeg))] → j73_15  = some (o1, o2) → W p l e rmX11_compares s m av below meth c H locs 0 0 QQ (F0 m 73 ls []) := by
    intro  H locs ls hP hS  hl hf
    rw [ej_15] at hf
    try dsimp only at hf
    refine lv_iconst (v := (0 : Int32)) hx hb dX11_compares_73 (by decide) ?_
    exact hJ74_10 (0 : Int32) H locs ls hP hS  (lv_sub hl [0, 1] rfl) hf
  clear ej_15
  refine lv_if_lt (tgt := 73) hx hb dX11_compares_54 (by decide) (fun c16 => ?_) (fun c16 => ?_)
  · have hf := ifT hf c16
    exact hJ73_15  H locs ls hP hS  (lv_sub hl [3, 2] rfl) hf
  · have hf := ifF hf c16
    refine lv_lload hx hb dX11_compares_57 (lv_at hl 0 rfl) ?_
    refine lv_aload_n hx hb dX11_compares_59 rfl (lv_at hl 3 rfl) ?_
    refine mm_getr hx hb hts hown hKK hP fk11_15 (Nat.le_of_ble_eq_true rfl) lkX11_41 (kdM_lt h0 (Nat.succ_ne_zero _)) h0 (nM t7 (Nat.succ_ne_zero _)) dX11_compares_60 ?_
    refine lv_iconst (v := (0 : Int32)) hx hb dX11_compares_63 (by decide) ?_
    refine mm_lald hx hb hKK hP (kdM_lt t7 (Nat.succ_ne_zero _)) t7 g8 dX11_compares_64 ?_
    refine W.lcmp hx hb dX11_compares_65 ?_
    refine lv_if_lt (tgt := 73) hx hb dX11_compares_66 (by decide) (fun c17 => ?_) (fun c17 => ?_)
    · have hf := ifT hf c17
      exact hJ73_15  H locs ls hP hS  (lv_sub hl [3, 2] rfl) hf
    · have hf := ifF hf c17
      refine lv_iconst (v := (1 : Int32)) hx hb dX11_compares_69 (by decide) ?_
      refine lv_goto (tgt := 74) hx hb dX11_compares_70 (by decide) ?_
      exact hJ74_10 (1 : Int32) H locs ls hP hS  (lv_sub hl [3, 2] rfl) hf
def rmX11_comparesRule : Room := { frames := 2, cells := 0, slots := 0, locals := 57 }
set_option maxHeartbeats 4000000 in
set_option maxRecDepth 100000 in
theorem k_X11_comparesRule (l : Launch) (D : va_G) (ce : Nat → ClassId) (b : Nat) (I : mI) (L : mL) (R : mR) (hT : WT kdM R) (x0 : Nat) (x1 : Int32) (h0 : kdM x0 = 17) (o1 : Int32) (o2 : mL) (hf : f_X11_comparesRule x0 x1 I L R = some (o1, o2)) : Met l yX11_comparesRule (Cond.code yX11_comparesRule cX11_comparesRule 2 (some .int) :: GW) rmX11_comparesRule (va_Pc [.ref (b + x0), .int x1] (PW D ce b kdM lnM 21 I L R)) (va_Qi (fun r u => r = o1 ∧ u = (I, o2, R)) (QW D ce b kdM lnM 21) (box b 21)) 0 0 (box b 21) := by
  refine Met.ofW (cc := cX11_comparesRule) (maxL := 2) (ret := (some .int)) (by decide) rfl ?_
  intro p e s m args below meth c s₁ B hml hv
  obtain ⟨rfl, hP, hKK⟩ := hv
  have hx := B.exec
  have hb := B.bytes
  have hr := B.returns
  have hts0 := atoms_spec (ws := Cond.code yX11_comparesRule cX11_comparesRule 2 (some .int) :: GW) B.pre
  have hts : ∀ w ∈ GW, w.before _ s = true := fun w h => hts0 w (List.mem_cons_of_mem _ h)
  clear hts0
  have hown : s.vm.findClass RX11 = some m.cls := findClass_of_methodNamed B.named
  have hlocks := B.notSynchronized
  have hA : ∀ q, box b 21 q → box b 21 q := fun _ h => h
  have hS : va_S (box b 21) s.heap s.heap [] := va_S.rf
  have hl := lv_entry ([.ref (b + x0), .int x1]) (n := 2) (Nat.le_of_ble_eq_true rfl)
  rw [lg_entry_eq]
  generalize (lg_sl ([.ref (b + x0), .int x1]) ++ List.replicate (2 - (lg_sl ([.ref (b + x0), .int x1])).length) Slot.unset).toArray = ls at hl ⊢
  have hl : lv_has ls 2 [(0, .ref (b + x0)), (1, .int x1)] := hl
  generalize ([.ref (b + x0), .int x1] : List Value).toArray = av at hts ⊢
  show W p l e rmX11_comparesRule s m av below meth c s.heap [] 0 0 _ _
  obtain ⟨QQ, hQQ⟩ : ∃ z, z = MQ below (va_Qi (fun r u => r = o1 ∧ u = (I, o2, R)) (QW D ce b kdM lnM 21) (box b 21)) av s 0 0 (box b 21) := ⟨_, rfl⟩
  rw [← hQQ]
  have hret : ∀ (r : Int32) (L1 : mL), some (r, L1) = some (o1, o2) → ∀ (H1 : Heap) (locs1 : List Loc) (ls1 : Array Slot) (pc1 : Nat), decode cX11_comparesRule pc1 = .ok (.ireturn, 1) → va_P D vwCl (wd ce b kdM lnM 21 I L1 R) H1 → WT kdM R → va_S (box b 21) s.heap H1 locs1 → W p l e rmX11_comparesRule s m av below meth c H1 locs1 0 0 QQ (F0 m pc1 ls1 [.int r]) := by
    intro r L1 hq H1 locs1 ls1 pc1 hd hP hT hS
    cases hq
    rw [hQQ]
    exact mm_iret hx hb hr hlocks hP hT hS hd
  unfold f_X11_comparesRule at hf
  obtain ⟨H, hH⟩ : ∃ z, z = s.heap := ⟨_, rfl⟩
  obtain ⟨locs, hlo⟩ : ∃ z : List Loc, z = [] := ⟨_, rfl⟩
  have hP : va_P D vwCl (wd ce b kdM lnM 21 I L R) H := by rw [hH]; exact hP
  have hS : va_S (box b 21) s.heap H locs := by rw [hH, hlo]; exact hS
  rw [show W p l e rmX11_comparesRule s m av below meth c s.heap [] 0 0 QQ = W p l e rmX11_comparesRule s m av below meth c H locs 0 0 QQ by rw [hH, hlo]]
  clear hH hlo
  clear hQQ
  show W p l e rmX11_comparesRule s m av below meth c H locs 0 0 QQ (F0 m 0 ls [])
  refine lv_aload_n hx hb dX11_comparesRule_0 rfl (lv_at hl 0 rfl) ?_
  refine lv_iload_n hx hb dX11_comparesRule_1 rfl (lv_at hl 1 rfl) ?_
  obtain ⟨r1, e1, hf⟩ := bd1_o hf
  refine mm_Si (rest := [.ref (b + x0)]) hx hb hml hown hts hKK hP hS hA skX11_117 (k_X11_leftOf l D ce b I L R hT x1  r1 e1) rfl hl.1 rfl (Nat.le_of_ble_eq_true rfl) ⟨rfl, rfl⟩ ⟨Nat.le_of_ble_eq_true rfl, Nat.le_of_ble_eq_true rfl⟩ ⟨Nat.zero_le _, Nat.zero_le _⟩ dX11_comparesRule_2 (fun H locs hP hT hS => ?_)
  refine lv_aload_n hx hb dX11_comparesRule_5 rfl (lv_at hl 0 rfl) ?_
  have t2 : kdM (R x0 0) = 1 := wt hT h0 rfl
  refine mm_getr hx hb hts hown hKK hP fk11_0 (Nat.le_of_ble_eq_true rfl) lkX11_7 (kdM_lt h0 (Nat.succ_ne_zero _)) h0 (nM t2 (Nat.succ_ne_zero _)) dX11_comparesRule_6 ?_
  refine lv_iload_n hx hb dX11_comparesRule_9 rfl (lv_at hl 1 rfl) ?_
  obtain ⟨r3, e3, hf⟩ := bd1_o hf
  refine mm_Si (rest := [.int r1, .ref (b + x0)]) hx hb hml hown hts hKK hP hS hA skX11_158 (k_X11_leftLong l D ce b I L R hT (R x0 0) x1 t2 r3 e3) rfl hl.1 rfl (Nat.le_of_ble_eq_true rfl) ⟨rfl, rfl⟩ ⟨Nat.le_of_ble_eq_true rfl, Nat.le_of_ble_eq_true rfl⟩ ⟨Nat.zero_le _, Nat.zero_le _⟩ dX11_comparesRule_10 (fun H locs hP hT hS => ?_)
  refine lv_iload_n hx hb dX11_comparesRule_13 rfl (lv_at hl 1 rfl) ?_
  obtain ⟨r4, e4, hf⟩ := bd1_o hf
  refine mm_Si (rest := [.int r3, .int r1, .ref (b + x0)]) hx hb hml hown hts hKK hP hS hA skX11_127 (k_X11_rightOf l D ce b I L R hT x1  r4 e4) rfl hl.1 rfl (Nat.le_of_ble_eq_true rfl) ⟨rfl, rfl⟩ ⟨Nat.le_of_ble_eq_true rfl, Nat.le_of_ble_eq_true rfl⟩ ⟨Nat.zero_le _, Nat.zero_le _⟩ dX11_comparesRule_14 (fun H locs hP hT hS => ?_)
  refine lv_aload_n hx hb dX11_comparesRule_17 rfl (lv_at hl 0 rfl) ?_
  refine mm_getr hx hb hts hown hKK hP fk11_0 (Nat.le_of_ble_eq_true rfl) lkX11_7 (kdM_lt h0 (Nat.succ_ne_zero _)) h0 (nM t2 (Nat.succ_ne_zero _)) dX11_comparesRule_18 ?_
  refine lv_iload_n hx hb dX11_comparesRule_21 rfl (lv_at hl 1 rfl) ?_
  obtain ⟨r5, e5, hf⟩ := bd1_o hf
  refine mm_Si (rest := [.int r4, .int r3, .int r1, .ref (b + x0)]) hx hb hml hown hts hKK hP hS hA skX11_162 (k_X11_rightLong l D ce b I L R hT (R x0 0) x1 t2 r5 e5) rfl hl.1 rfl (Nat.le_of_ble_eq_true rfl) ⟨rfl, rfl⟩ ⟨Nat.le_of_ble_eq_true rfl, Nat.le_of_ble_eq_true rfl⟩ ⟨Nat.zero_le _, Nat.zero_le _⟩ dX11_comparesRule_22 (fun H locs hP hT hS => ?_)
  obtain ⟨r6, L6, e6, hf⟩ := bd2_o hf
  refine mm_Vi (rest := []) hx hb hml hown hts hKK hP hS hA (kdM_lt h0 (Nat.succ_ne_zero _)) h0 (show vwCl[11]? = some (yX11_compares.cls, TX11, 32) from rfl) vkX11_187 (k_X11_compares l D ce b I L R hT x0 r1 r3 r4 r5 h0 r6 L6 e6) rfl hl.1 rfl (Nat.le_of_ble_eq_true rfl) ⟨rfl, rfl⟩ ⟨Nat.le_of_ble_eq_true rfl, Nat.le_of_ble_eq_true rfl⟩ ⟨Nat.zero_le _, Nat.zero_le _⟩ dX11_comparesRule_25 (fun H locs hP hT hS => ?_)
  exact hret r6 L6 hf H locs ls _ dX11_comparesRule_28 hP hT hS
def rmX11_goesOn : Room := { frames := 0, cells := 0, slots := 0, locals := 0 }
set_option maxHeartbeats 4000000 in
set_option maxRecDepth 100000 in
theorem k_X11_goesOn (l : Launch) (D : va_G) (ce : Nat → ClassId) (b : Nat) (I : mI) (L : mL) (R : mR) (hT : WT kdM R) (x0 : Nat) (x1 : Int32) (x2 : Int32) (h0 : kdM x0 = 17) (o1 : Int32) (o2 : mI) (hf : f_X11_goesOn x0 x1 x2 I R = some (o1, o2)) : Met l yX11_goesOn (Cond.code yX11_goesOn cX11_goesOn 4 (some .boolean) :: GW) rmX11_goesOn (va_Pc [.ref (b + x0), .int x1, .int x2] (PW D ce b kdM lnM 21 I L R)) (va_Qi (fun r u => r = o1 ∧ u = (o2, L, R)) (QW D ce b kdM lnM 21) (box b 21)) 0 0 (box b 21) := by
  refine Met.ofW (cc := cX11_goesOn) (maxL := 4) (ret := (some .boolean)) (by decide) rfl ?_
  intro p e s m args below meth c s₁ B hml hv
  obtain ⟨rfl, hP, hKK⟩ := hv
  have hx := B.exec
  have hb := B.bytes
  have hr := B.returns
  have hts0 := atoms_spec (ws := Cond.code yX11_goesOn cX11_goesOn 4 (some .boolean) :: GW) B.pre
  have hts : ∀ w ∈ GW, w.before _ s = true := fun w h => hts0 w (List.mem_cons_of_mem _ h)
  clear hts0
  have hown : s.vm.findClass RX11 = some m.cls := findClass_of_methodNamed B.named
  have hlocks := B.notSynchronized
  have hA : ∀ q, box b 21 q → box b 21 q := fun _ h => h
  have hS : va_S (box b 21) s.heap s.heap [] := va_S.rf
  have hl := lv_entry ([.ref (b + x0), .int x1, .int x2]) (n := 4) (Nat.le_of_ble_eq_true rfl)
  rw [lg_entry_eq]
  generalize (lg_sl ([.ref (b + x0), .int x1, .int x2]) ++ List.replicate (4 - (lg_sl ([.ref (b + x0), .int x1, .int x2])).length) Slot.unset).toArray = ls at hl ⊢
  have hl : lv_has ls 4 [(0, .ref (b + x0)), (1, .int x1), (2, .int x2)] := hl
  generalize ([.ref (b + x0), .int x1, .int x2] : List Value).toArray = av at hts ⊢
  show W p l e rmX11_goesOn s m av below meth c s.heap [] 0 0 _ _
  obtain ⟨QQ, hQQ⟩ : ∃ z, z = MQ below (va_Qi (fun r u => r = o1 ∧ u = (o2, L, R)) (QW D ce b kdM lnM 21) (box b 21)) av s 0 0 (box b 21) := ⟨_, rfl⟩
  rw [← hQQ]
  have hret : ∀ (r : Int32) (I1 : mI), some (r, I1) = some (o1, o2) → ∀ (H1 : Heap) (locs1 : List Loc) (ls1 : Array Slot) (pc1 : Nat), decode cX11_goesOn pc1 = .ok (.ireturn, 1) → zb r = true → va_P D vwCl (wd ce b kdM lnM 21 I1 L R) H1 → WT kdM R → va_S (box b 21) s.heap H1 locs1 → W p l e rmX11_goesOn s m av below meth c H1 locs1 0 0 QQ (F0 m pc1 ls1 [.int r]) := by
    intro r I1 hq H1 locs1 ls1 pc1 hd hz hP hT hS
    cases hq
    rw [hQQ]
    exact mm_zret hx hb hr hlocks hz hP hT hS hd
  unfold f_X11_goesOn at hf
  obtain ⟨H, hH⟩ : ∃ z, z = s.heap := ⟨_, rfl⟩
  obtain ⟨locs, hlo⟩ : ∃ z : List Loc, z = [] := ⟨_, rfl⟩
  have hP : va_P D vwCl (wd ce b kdM lnM 21 I L R) H := by rw [hH]; exact hP
  have hS : va_S (box b 21) s.heap H locs := by rw [hH, hlo]; exact hS
  rw [show W p l e rmX11_goesOn s m av below meth c s.heap [] 0 0 QQ = W p l e rmX11_goesOn s m av below meth c H locs 0 0 QQ by rw [hH, hlo]]
  clear hH hlo
  clear hQQ
  show W p l e rmX11_goesOn s m av below meth c H locs 0 0 QQ (F0 m 0 ls [])
  refine lv_bipush (v := (6 : Int32)) hx hb dX11_goesOn_0 (by decide) ?_
  refine lv_istore_n (lv' := [(3, .int (6 : Int32)), (0, .ref (b + x0)), (1, .int x1), (2, .int x2)]) hx hb dX11_goesOn_2 rfl hl (Nat.le_of_ble_eq_true rfl) rfl (fun ls hl => ?_)
  have lp3 : ∀ (n : Nat) (x0 : Nat) (x1 : Int32) (x2 : Int32) (x3 : Int32) (I : mI) (L : mL) (R : mR) (a1 : Int32) (a2 : mI) (H : Heap) (locs : List Loc) (ls : Array Slot), va_P D vwCl (wd ce b kdM lnM 21 I L R) H → va_S (box b 21) s.heap H locs → WT kdM R → kdM x0 = 17 → lv_has ls 4 [(0, .ref (b + x0)), (1, .int x1), (2, .int x2), (3, .int x3)] → f_X11_goesOn_L3 n x0 x1 x2 x3 I R = some (a1, a2) → (∀ (H1 : Heap) (locs1 : List Loc) (ls1 : Array Slot), va_P D vwCl (wd ce b kdM lnM 21 a2 L R) H1 → va_S (box b 21) s.heap H1 locs1 → lv_has ls1 4 [(0, .ref (b + x0)), (3, .int a1)] → W p l e rmX11_goesOn s m av below meth c H1 locs1 0 0 QQ (F0 m 39 ls1 [])) → W p l e rmX11_goesOn s m av below meth c H locs 0 0 QQ (F0 m 3 ls []) := by
    intro n
    induction n with
    | zero =>
      intro x0 x1 x2 x3 I L R a1 a2 H locs ls hP hS hT h0 hl hf kx
      exact absurd (show (none : Option (Int32 × mI)) = some _ from hf) (by simp)
    | succ n ih =>
      intro x0 x1 x2 x3 I L R a1 a2 H locs ls hP hS hT h0 hl hf kx
      rw [f_X11_goesOn_L3] at hf
      refine lv_iload_n hx hb dX11_goesOn_3 rfl (lv_at hl 3 rfl) ?_
      refine lv_if_lt (tgt := 39) hx hb dX11_goesOn_4 (by decide) (fun c1 => ?_) (fun c1 => ?_)
      · have hf := ifT hf c1
        cases hf
        exact kx H locs ls hP hS (lv_sub hl [0, 3] rfl)
      · have hf := ifF hf c1
        refine lv_aload_n hx hb dX11_goesOn_7 rfl (lv_at hl 0 rfl) ?_
        have t2 : kdM (R x0 12) = 1 := wt hT h0 rfl
        refine mm_getr hx hb hts hown hKK hP fk11_12 (Nat.le_of_ble_eq_true rfl) lkX11_31 (kdM_lt h0 (Nat.succ_ne_zero _)) h0 (nM t2 (Nat.succ_ne_zero _)) dX11_goesOn_8 ?_
        refine lv_iload_n hx hb dX11_goesOn_11 rfl (lv_at hl 3 rfl) ?_
        obtain ⟨g3, hf⟩ := grd hf
        refine mm_iald hx hb hKK hP (kdM_lt t2 (Nat.succ_ne_zero _)) t2 g3 dX11_goesOn_12 ?_
        refine lv_iload_n hx hb dX11_goesOn_13 rfl (lv_at hl 2 rfl) ?_
        refine lv_icmp_ne (tgt := 39) hx hb dX11_goesOn_14 (by decide) (fun c4 => ?_) (fun c4 => ?_)
        · have hf := ifF hf c4
          cases hf
          exact kx H locs ls hP hS (lv_sub hl [0, 3] rfl)
        · have hf := ifT hf c4
          refine lv_aload_n hx hb dX11_goesOn_17 rfl (lv_at hl 0 rfl) ?_
          refine mm_getr hx hb hts hown hKK hP fk11_12 (Nat.le_of_ble_eq_true rfl) lkX11_31 (kdM_lt h0 (Nat.succ_ne_zero _)) h0 (nM t2 (Nat.succ_ne_zero _)) dX11_goesOn_18 ?_
          refine lv_iload_n hx hb dX11_goesOn_21 rfl (lv_at hl 3 rfl) ?_
          refine lv_iload_n hx hb dX11_goesOn_22 rfl (lv_at hl 3 rfl) ?_
          refine lv_iconst (v := (4 : Int32)) hx hb dX11_goesOn_23 (by decide) ?_
          refine jnE hf (fun j32_5 ej_5 hf => ?_)
          have hJ32_5 : ∀ (w2_5 : Int32) (H : Heap) (locs : List Loc) (ls : Array Slot), va_P D vwCl (wd ce b kdM lnM 21 I L R) H → va_S (box b 21) s.heap H locs → lv_has ls 4 [(0, .ref (b + x0)), (1, .int x1), (2, .int x2), (3, .int x3)] → j32_5 w2_5 = some (a1, a2) → W p l e rmX11_goesOn s m av below meth c H locs 0 0 QQ (F0 m 32 ls [.int w2_5, .int x3, .ref (b + (R x0 12))]) := by
            intro w2_5 H locs ls hP hS  hl hf
            rw [ej_5] at hf
            try dsimp only at hf
            refine jnE hf (fun I6 eI6 hf => ?_)
            refine mm_iast hx hb hKK hP hA hS (kdM_lt t2 (Nat.succ_ne_zero _)) t2 g3 dX11_goesOn_32 (fun H locs hP hS => ?_)
            rw [← eI6] at hP
            refine lv_iinc (v := (x3 + (-1 : Int32))) (lv' := [(3, .int (x3 + (-1 : Int32))), (0, .ref (b + x0)), (1, .int x1), (2, .int x2)]) hx hb dX11_goesOn_33 hl (k := 3) rfl rfl (Nat.le_of_ble_eq_true rfl) rfl (fun ls hl => ?_)
            refine lv_goto (tgt := 3) hx hb dX11_goesOn_36 (by decide) ?_
            exact ih x0 x1 x2 (x3 + (-1 : Int32)) I6 L R a1 a2 H locs ls hP hS hT h0 (lv_sub hl [1, 2, 3, 0] rfl) hf kx
          clear ej_5
          refine lv_icmp_ge (tgt := 31) hx hb dX11_goesOn_24 (by decide) (fun c7 => ?_) (fun c7 => ?_)
          · have hf := ifT hf c7
            refine lv_iload_n hx hb dX11_goesOn_31 rfl (lv_at hl 1 rfl) ?_
            exact hJ32_5 x1 H locs ls hP hS  (lv_sub hl [0, 1, 2, 3] rfl) hf
          · have hf := ifF hf c7
            refine lv_iconst (v := (0 : Int32)) hx hb dX11_goesOn_27 (by decide) ?_
            refine lv_goto (tgt := 32) hx hb dX11_goesOn_28 (by decide) ?_
            exact hJ32_5 (0 : Int32) H locs ls hP hS  (lv_sub hl [0, 1, 2, 3] rfl) hf
  obtain ⟨y3_8, I_8, e_8, hf⟩ := bd2_o hf
  refine lp3 FU x0 x1 x2 (6 : Int32) I L R y3_8 I_8 H locs ls hP hS hT h0 (lv_sub hl [1, 2, 3, 0] rfl) e_8 (fun H locs ls hP hS hl => ?_)
  refine lv_iload_n hx hb dX11_goesOn_39 rfl (lv_at hl 1 rfl) ?_
  refine lv_if_ge (tgt := 45) hx hb dX11_goesOn_40 (by decide) (fun c9 => ?_) (fun c9 => ?_)
  · have hf := ifT hf c9
    refine lv_aload_n hx hb dX11_goesOn_45 rfl (lv_at hl 0 rfl) ?_
    have t10 : kdM (R x0 12) = 1 := wt hT h0 rfl
    refine mm_getr hx hb hts hown hKK hP fk11_12 (Nat.le_of_ble_eq_true rfl) lkX11_31 (kdM_lt h0 (Nat.succ_ne_zero _)) h0 (nM t10 (Nat.succ_ne_zero _)) dX11_goesOn_46 ?_
    refine lv_iload_n hx hb dX11_goesOn_49 rfl (lv_at hl 1 rfl) ?_
    refine lv_dup2_11 hx hb dX11_goesOn_50 rfl rfl ?_
    obtain ⟨g11, hf⟩ := grd hf
    refine mm_iald hx hb hKK hP (kdM_lt t10 (Nat.succ_ne_zero _)) t10 g11 dX11_goesOn_51 ?_
    refine lv_iconst (v := (1 : Int32)) hx hb dX11_goesOn_52 (by decide) ?_
    refine lv_iadd hx hb dX11_goesOn_53 ?_
    refine jnE hf (fun I12 eI12 hf => ?_)
    refine mm_iast hx hb hKK hP hA hS (kdM_lt t10 (Nat.succ_ne_zero _)) t10 g11 dX11_goesOn_54 (fun H locs hP hS => ?_)
    rw [← eI12] at hP
    refine lv_iconst (v := (1 : Int32)) hx hb dX11_goesOn_55 (by decide) ?_
    exact hret (1 : Int32) I12 hf H locs ls _ dX11_goesOn_56 rfl hP hT hS
  · have hf := ifF hf c9
    refine lv_iconst (v := (0 : Int32)) hx hb dX11_goesOn_43 (by decide) ?_
    exact hret (0 : Int32) I_8 hf H locs ls _ dX11_goesOn_44 rfl hP hT hS
def rmX11_numberOf : Room := { frames := 0, cells := 0, slots := 0, locals := 0 }
set_option maxHeartbeats 4000000 in
set_option maxRecDepth 100000 in
theorem k_X11_numberOf (l : Launch) (D : va_G) (ce : Nat → ClassId) (b : Nat) (I : mI) (L : mL) (R : mR) (hT : WT kdM R) (x0 : Nat) (h0 : kdM x0 = 17) (o1 : Int32) (hf : f_X11_numberOf x0 I R = some o1) : Met l yX11_numberOf (Cond.code yX11_numberOf cX11_numberOf 3 (some .int) :: GW) rmX11_numberOf (va_Pc [.ref (b + x0)] (PW D ce b kdM lnM 21 I L R)) (va_Qi (fun r u => r = o1 ∧ u = (I, L, R)) (QW D ce b kdM lnM 21) (box b 21)) 0 0 (box b 21) := by
  refine Met.ofW (cc := cX11_numberOf) (maxL := 3) (ret := (some .int)) (by decide) rfl ?_
  intro p e s m args below meth c s₁ B hml hv
  obtain ⟨rfl, hP, hKK⟩ := hv
  have hx := B.exec
  have hb := B.bytes
  have hr := B.returns
  have hts0 := atoms_spec (ws := Cond.code yX11_numberOf cX11_numberOf 3 (some .int) :: GW) B.pre
  have hts : ∀ w ∈ GW, w.before _ s = true := fun w h => hts0 w (List.mem_cons_of_mem _ h)
  clear hts0
  have hown : s.vm.findClass RX11 = some m.cls := findClass_of_methodNamed B.named
  have hlocks := B.notSynchronized
  have hA : ∀ q, box b 21 q → box b 21 q := fun _ h => h
  have hS : va_S (box b 21) s.heap s.heap [] := va_S.rf
  have hl := lv_entry ([.ref (b + x0)]) (n := 3) (Nat.le_of_ble_eq_true rfl)
  rw [lg_entry_eq]
  generalize (lg_sl ([.ref (b + x0)]) ++ List.replicate (3 - (lg_sl ([.ref (b + x0)])).length) Slot.unset).toArray = ls at hl ⊢
  have hl : lv_has ls 3 [(0, .ref (b + x0))] := hl
  generalize ([.ref (b + x0)] : List Value).toArray = av at hts ⊢
  show W p l e rmX11_numberOf s m av below meth c s.heap [] 0 0 _ _
  obtain ⟨QQ, hQQ⟩ : ∃ z, z = MQ below (va_Qi (fun r u => r = o1 ∧ u = (I, L, R)) (QW D ce b kdM lnM 21) (box b 21)) av s 0 0 (box b 21) := ⟨_, rfl⟩
  rw [← hQQ]
  have hret : ∀ (r : Int32), some r = some o1 → ∀ (H1 : Heap) (locs1 : List Loc) (ls1 : Array Slot) (pc1 : Nat), decode cX11_numberOf pc1 = .ok (.ireturn, 1) → va_P D vwCl (wd ce b kdM lnM 21 I L R) H1 → WT kdM R → va_S (box b 21) s.heap H1 locs1 → W p l e rmX11_numberOf s m av below meth c H1 locs1 0 0 QQ (F0 m pc1 ls1 [.int r]) := by
    intro r hq H1 locs1 ls1 pc1 hd hP hT hS
    cases hq
    rw [hQQ]
    exact mm_iret hx hb hr hlocks hP hT hS hd
  unfold f_X11_numberOf at hf
  obtain ⟨H, hH⟩ : ∃ z, z = s.heap := ⟨_, rfl⟩
  obtain ⟨locs, hlo⟩ : ∃ z : List Loc, z = [] := ⟨_, rfl⟩
  have hP : va_P D vwCl (wd ce b kdM lnM 21 I L R) H := by rw [hH]; exact hP
  have hS : va_S (box b 21) s.heap H locs := by rw [hH, hlo]; exact hS
  rw [show W p l e rmX11_numberOf s m av below meth c s.heap [] 0 0 QQ = W p l e rmX11_numberOf s m av below meth c H locs 0 0 QQ by rw [hH, hlo]]
  clear hH hlo
  clear hQQ
  show W p l e rmX11_numberOf s m av below meth c H locs 0 0 QQ (F0 m 0 ls [])
  refine lv_iconst (v := (0 : Int32)) hx hb dX11_numberOf_0 (by decide) ?_
  refine lv_istore_n (lv' := [(1, .int (0 : Int32)), (0, .ref (b + x0))]) hx hb dX11_numberOf_1 rfl hl (Nat.le_of_ble_eq_true rfl) rfl (fun ls hl => ?_)
  refine lv_iconst (v := (0 : Int32)) hx hb dX11_numberOf_2 (by decide) ?_
  refine lv_istore_n (lv' := [(2, .int (0 : Int32)), (1, .int (0 : Int32)), (0, .ref (b + x0))]) hx hb dX11_numberOf_3 rfl hl (Nat.le_of_ble_eq_true rfl) rfl (fun ls hl => ?_)
  have lp4 : ∀ (n : Nat) (x0 : Nat) (x1 : Int32) (x2 : Int32) (I : mI) (L : mL) (R : mR) (a1 : Int32) (H : Heap) (locs : List Loc) (ls : Array Slot), va_P D vwCl (wd ce b kdM lnM 21 I L R) H → va_S (box b 21) s.heap H locs → WT kdM R → kdM x0 = 17 → lv_has ls 3 [(0, .ref (b + x0)), (1, .int x1), (2, .int x2)] → f_X11_numberOf_L4 n x0 x1 x2 I R = some a1 → (∀ (H1 : Heap) (locs1 : List Loc) (ls1 : Array Slot), va_P D vwCl (wd ce b kdM lnM 21 I L R) H1 → va_S (box b 21) s.heap H1 locs1 → lv_has ls1 3 [(1, .int a1)] → W p l e rmX11_numberOf s m av below meth c H1 locs1 0 0 QQ (F0 m 28 ls1 [])) → W p l e rmX11_numberOf s m av below meth c H locs 0 0 QQ (F0 m 4 ls []) := by
    intro n
    induction n with
    | zero =>
      intro x0 x1 x2 I L R a1 H locs ls hP hS hT h0 hl hf kx
      exact absurd (show (none : Option (Int32)) = some _ from hf) (by simp)
    | succ n ih =>
      intro x0 x1 x2 I L R a1 H locs ls hP hS hT h0 hl hf kx
      rw [f_X11_numberOf_L4] at hf
      refine lv_iload_n hx hb dX11_numberOf_4 rfl (lv_at hl 2 rfl) ?_
      refine lv_bipush (v := (7 : Int32)) hx hb dX11_numberOf_5 (by decide) ?_
      refine lv_icmp_ge (tgt := 28) hx hb dX11_numberOf_7 (by decide) (fun c1 => ?_) (fun c1 => ?_)
      · have hf := ifT hf c1
        cases hf
        exact kx H locs ls hP hS (lv_sub hl [1] rfl)
      · have hf := ifF hf c1
        refine lv_bipush (v := (10 : Int32)) hx hb dX11_numberOf_10 (by decide) ?_
        refine lv_iload_n hx hb dX11_numberOf_12 rfl (lv_at hl 1 rfl) ?_
        refine lv_imul hx hb dX11_numberOf_13 ?_
        refine lv_aload_n hx hb dX11_numberOf_14 rfl (lv_at hl 0 rfl) ?_
        have t2 : kdM (R x0 12) = 1 := wt hT h0 rfl
        refine mm_getr hx hb hts hown hKK hP fk11_12 (Nat.le_of_ble_eq_true rfl) lkX11_31 (kdM_lt h0 (Nat.succ_ne_zero _)) h0 (nM t2 (Nat.succ_ne_zero _)) dX11_numberOf_15 ?_
        refine lv_iload_n hx hb dX11_numberOf_18 rfl (lv_at hl 2 rfl) ?_
        obtain ⟨g3, hf⟩ := grd hf
        refine mm_iald hx hb hKK hP (kdM_lt t2 (Nat.succ_ne_zero _)) t2 g3 dX11_numberOf_19 ?_
        refine lv_iadd hx hb dX11_numberOf_20 ?_
        refine lv_istore_n (lv' := [(1, .int (((10 : Int32) * x1) + (I (R x0 12) x2.toNatClampNeg))), (0, .ref (b + x0)), (2, .int x2)]) hx hb dX11_numberOf_21 rfl hl (Nat.le_of_ble_eq_true rfl) rfl (fun ls hl => ?_)
        refine lv_iinc (v := (x2 + (1 : Int32))) (lv' := [(2, .int (x2 + (1 : Int32))), (1, .int (((10 : Int32) * x1) + (I (R x0 12) x2.toNatClampNeg))), (0, .ref (b + x0))]) hx hb dX11_numberOf_22 hl (k := 2) rfl rfl (Nat.le_of_ble_eq_true rfl) rfl (fun ls hl => ?_)
        refine lv_goto (tgt := 4) hx hb dX11_numberOf_25 (by decide) ?_
        exact ih x0 (((10 : Int32) * x1) + (I (R x0 12) x2.toNatClampNeg)) (x2 + (1 : Int32)) I L R a1 H locs ls hP hS hT h0 (lv_sub hl [2, 1, 0] rfl) hf kx
  obtain ⟨y1_4, e_4, hf⟩ := bd1_o hf
  refine lp4 FU x0 (0 : Int32) (0 : Int32) I L R y1_4 H locs ls hP hS hT h0 (lv_sub hl [2, 1, 0] rfl) e_4 (fun H locs ls hP hS hl => ?_)
  refine lv_iload_n hx hb dX11_numberOf_28 rfl (lv_at hl 0 rfl) ?_
  exact hret y1_4 hf H locs ls _ dX11_numberOf_29 hP hT hS
def rmX11_areAll : Room := { frames := 3, cells := 0, slots := 0, locals := 78 }
set_option maxHeartbeats 4000000 in
set_option maxRecDepth 100000 in
theorem k_X11_areAll (l : Launch) (D : va_G) (ce : Nat → ClassId) (b : Nat) (I : mI) (L : mL) (R : mR) (hT : WT kdM R) (x0 : Nat) (x1 : Int32) (h0 : kdM x0 = 17) (o1 : Int32) (o2 : mL) (hf : f_X11_areAll x0 x1 I L R = some (o1, o2)) : Met l yX11_areAll (Cond.code yX11_areAll cX11_areAll 4 (some .boolean) :: GW) rmX11_areAll (va_Pc [.ref (b + x0), .int x1] (PW D ce b kdM lnM 21 I L R)) (va_Qi (fun r u => r = o1 ∧ u = (I, o2, R)) (QW D ce b kdM lnM 21) (box b 21)) 0 0 (box b 21) := by
  refine Met.ofW (cc := cX11_areAll) (maxL := 4) (ret := (some .boolean)) (by decide) rfl ?_
  intro p e s m args below meth c s₁ B hml hv
  obtain ⟨rfl, hP, hKK⟩ := hv
  have hx := B.exec
  have hb := B.bytes
  have hr := B.returns
  have hts0 := atoms_spec (ws := Cond.code yX11_areAll cX11_areAll 4 (some .boolean) :: GW) B.pre
  have hts : ∀ w ∈ GW, w.before _ s = true := fun w h => hts0 w (List.mem_cons_of_mem _ h)
  clear hts0
  have hown : s.vm.findClass RX11 = some m.cls := findClass_of_methodNamed B.named
  have hlocks := B.notSynchronized
  have hA : ∀ q, box b 21 q → box b 21 q := fun _ h => h
  have hS : va_S (box b 21) s.heap s.heap [] := va_S.rf
  have hl := lv_entry ([.ref (b + x0), .int x1]) (n := 4) (Nat.le_of_ble_eq_true rfl)
  rw [lg_entry_eq]
  generalize (lg_sl ([.ref (b + x0), .int x1]) ++ List.replicate (4 - (lg_sl ([.ref (b + x0), .int x1])).length) Slot.unset).toArray = ls at hl ⊢
  have hl : lv_has ls 4 [(0, .ref (b + x0)), (1, .int x1)] := hl
  generalize ([.ref (b + x0), .int x1] : List Value).toArray = av at hts ⊢
  show W p l e rmX11_areAll s m av below meth c s.heap [] 0 0 _ _
  obtain ⟨QQ, hQQ⟩ : ∃ z, z = MQ below (va_Qi (fun r u => r = o1 ∧ u = (I, o2, R)) (QW D ce b kdM lnM 21) (box b 21)) av s 0 0 (box b 21) := ⟨_, rfl⟩
  rw [← hQQ]
  have hret : ∀ (r : Int32) (L1 : mL), some (r, L1) = some (o1, o2) → ∀ (H1 : Heap) (locs1 : List Loc) (ls1 : Array Slot) (pc1 : Nat), decode cX11_areAll pc1 = .ok (.ireturn, 1) → zb r = true → va_P D vwCl (wd ce b kdM lnM 21 I L1 R) H1 → WT kdM R → va_S (box b 21) s.heap H1 locs1 → W p l e rmX11_areAll s m av below meth c H1 locs1 0 0 QQ (F0 m pc1 ls1 [.int r]) := by
    intro r L1 hq H1 locs1 ls1 pc1 hd hz hP hT hS
    cases hq
    rw [hQQ]
    exact mm_zret hx hb hr hlocks hz hP hT hS hd
  unfold f_X11_areAll at hf
  obtain ⟨H, hH⟩ : ∃ z, z = s.heap := ⟨_, rfl⟩
  obtain ⟨locs, hlo⟩ : ∃ z : List Loc, z = [] := ⟨_, rfl⟩
  have hP : va_P D vwCl (wd ce b kdM lnM 21 I L R) H := by rw [hH]; exact hP
  have hS : va_S (box b 21) s.heap H locs := by rw [hH, hlo]; exact hS
  rw [show W p l e rmX11_areAll s m av below meth c s.heap [] 0 0 QQ = W p l e rmX11_areAll s m av below meth c H locs 0 0 QQ by rw [hH, hlo]]
  clear hH hlo
  clear hQQ
  show W p l e rmX11_areAll s m av below meth c H locs 0 0 QQ (F0 m 0 ls [])
  refine lv_iconst (v := (1 : Int32)) hx hb dX11_areAll_0 (by decide) ?_
  refine lv_istore_n (lv' := [(2, .int (1 : Int32)), (0, .ref (b + x0)), (1, .int x1)]) hx hb dX11_areAll_1 rfl hl (Nat.le_of_ble_eq_true rfl) rfl (fun ls hl => ?_)
  refine lv_iconst (v := (0 : Int32)) hx hb dX11_areAll_2 (by decide) ?_
  refine lv_istore_n (lv' := [(3, .int (0 : Int32)), (2, .int (1 : Int32)), (0, .ref (b + x0)), (1, .int x1)]) hx hb dX11_areAll_3 rfl hl (Nat.le_of_ble_eq_true rfl) rfl (fun ls hl => ?_)
  have lp4 : ∀ (n : Nat) (x0 : Nat) (x1 : Int32) (x2 : Int32) (x3 : Int32) (I : mI) (L : mL) (R : mR) (a1 : Int32) (a2 : mL) (H : Heap) (locs : List Loc) (ls : Array Slot), va_P D vwCl (wd ce b kdM lnM 21 I L R) H → va_S (box b 21) s.heap H locs → WT kdM R → kdM x0 = 17 → lv_has ls 4 [(0, .ref (b + x0)), (1, .int x1), (2, .int x2), (3, .int x3)] → f_X11_areAll_L4 n x0 x1 x2 x3 I L R = some (a1, a2) → (∀ (H1 : Heap) (locs1 : List Loc) (ls1 : Array Slot), va_P D vwCl (wd ce b kdM lnM 21 I a2 R) H1 → va_S (box b 21) s.heap H1 locs1 → lv_has ls1 4 [(2, .int a1)] → W p l e rmX11_areAll s m av below meth c H1 locs1 0 0 QQ (F0 m 39 ls1 [])) → W p l e rmX11_areAll s m av below meth c H locs 0 0 QQ (F0 m 4 ls []) := by
    intro n
    induction n with
    | zero =>
      intro x0 x1 x2 x3 I L R a1 a2 H locs ls hP hS hT h0 hl hf kx
      exact absurd (show (none : Option (Int32 × mL)) = some _ from hf) (by simp)
    | succ n ih =>
      intro x0 x1 x2 x3 I L R a1 a2 H locs ls hP hS hT h0 hl hf kx
      rw [f_X11_areAll_L4] at hf
      refine lv_iload_n hx hb dX11_areAll_4 rfl (lv_at hl 3 rfl) ?_
      refine lv_aload_n hx hb dX11_areAll_5 rfl (lv_at hl 0 rfl) ?_
      have t1 : kdM (R x0 0) = 1 := wt hT h0 rfl
      refine mm_getr hx hb hts hown hKK hP fk11_0 (Nat.le_of_ble_eq_true rfl) lkX11_7 (kdM_lt h0 (Nat.succ_ne_zero _)) h0 (nM t1 (Nat.succ_ne_zero _)) dX11_areAll_6 ?_
      refine lv_iconst (v := (0 : Int32)) hx hb dX11_areAll_9 (by decide) ?_
      obtain ⟨g2, hf⟩ := grd hf
      refine mm_iald hx hb hKK hP (kdM_lt t1 (Nat.succ_ne_zero _)) t1 g2 dX11_areAll_10 ?_
      refine lv_icmp_ge (tgt := 39) hx hb dX11_areAll_11 (by decide) (fun c3 => ?_) (fun c3 => ?_)
      · have hf := ifT hf c3
        cases hf
        exact kx H locs ls hP hS (lv_sub hl [2] rfl)
      · have hf := ifF hf c3
        refine lv_iload_n hx hb dX11_areAll_14 rfl (lv_at hl 2 rfl) ?_
        refine lv_if_eq (tgt := 39) hx hb dX11_areAll_15 (by decide) (fun c4 => ?_) (fun c4 => ?_)
        · have hf := ifT hf c4
          cases hf
          exact kx H locs ls hP hS (lv_sub hl [2] rfl)
        · have hf := ifF hf c4
          refine lv_aload_n hx hb dX11_areAll_18 rfl (lv_at hl 0 rfl) ?_
          refine lv_iload_n hx hb dX11_areAll_19 rfl (lv_at hl 3 rfl) ?_
          obtain ⟨r5, L5, e5, hf⟩ := bd2_o hf
          refine mm_Vi (rest := []) hx hb hml hown hts hKK hP hS hA (kdM_lt h0 (Nat.succ_ne_zero _)) h0 (show vwCl[11]? = some (yX11_comparesRule.cls, TX11, 32) from rfl) vkX11_191 (k_X11_comparesRule l D ce b I L R hT x0 x3 h0 r5 L5 e5) rfl hl.1 rfl (Nat.le_of_ble_eq_true rfl) ⟨rfl, rfl⟩ ⟨Nat.le_of_ble_eq_true rfl, Nat.le_of_ble_eq_true rfl⟩ ⟨Nat.zero_le _, Nat.zero_le _⟩ dX11_areAll_20 (fun H locs hP hT hS => ?_)
          refine lv_iload_n hx hb dX11_areAll_23 rfl (lv_at hl 1 rfl) ?_
          refine jnE hf (fun j32_6 ej_6 hf => ?_)
          have hJ32_6 : ∀ (w0_6 : Int32) (H : Heap) (locs : List Loc) (ls : Array Slot), va_P D vwCl (wd ce b kdM lnM 21 I L5 R) H → va_S (box b 21) s.heap H locs → lv_has ls 4 [(0, .ref (b + x0)), (1, .int x1), (3, .int x3)] → j32_6 w0_6 = some (a1, a2) → W p l e rmX11_areAll s m av below meth c H locs 0 0 QQ (F0 m 32 ls [.int w0_6]) := by
            intro w0_6 H locs ls hP hS  hl hf
            rw [ej_6] at hf
            try dsimp only at hf
            refine lv_istore_n (lv' := [(2, .int w0_6), (0, .ref (b + x0)), (1, .int x1), (3, .int x3)]) hx hb dX11_areAll_32 rfl hl (Nat.le_of_ble_eq_true rfl) rfl (fun ls hl => ?_)
            refine lv_iinc (v := (x3 + (1 : Int32))) (lv' := [(3, .int (x3 + (1 : Int32))), (2, .int w0_6), (0, .ref (b + x0)), (1, .int x1)]) hx hb dX11_areAll_33 hl (k := 3) rfl rfl (Nat.le_of_ble_eq_true rfl) rfl (fun ls hl => ?_)
            refine lv_goto (tgt := 4) hx hb dX11_areAll_36 (by decide) ?_
            exact ih x0 x1 w0_6 (x3 + (1 : Int32)) I L5 R a1 a2 H locs ls hP hS hT h0 (lv_sub hl [2, 3, 1, 0] rfl) hf kx
          clear ej_6
          refine lv_icmp_lt (tgt := 31) hx hb dX11_areAll_24 (by decide) (fun c7 => ?_) (fun c7 => ?_)
          · have hf := ifT hf c7
            refine lv_iconst (v := (0 : Int32)) hx hb dX11_areAll_31 (by decide) ?_
            exact hJ32_6 (0 : Int32) H locs ls hP hS  (lv_sub hl [0, 1, 3] rfl) hf
          · have hf := ifF hf c7
            refine lv_iconst (v := (1 : Int32)) hx hb dX11_areAll_27 (by decide) ?_
            refine lv_goto (tgt := 32) hx hb dX11_areAll_28 (by decide) ?_
            exact hJ32_6 (1 : Int32) H locs ls hP hS  (lv_sub hl [0, 1, 3] rfl) hf
  obtain ⟨y2_8, L_8, e_8, hf⟩ := bd2_o hf
  refine lp4 FU x0 x1 (1 : Int32) (0 : Int32) I L R y2_8 L_8 H locs ls hP hS hT h0 (lv_sub hl [2, 3, 1, 0] rfl) e_8 (fun H locs ls hP hS hl => ?_)
  refine lv_iload_n hx hb dX11_areAll_39 rfl (lv_at hl 0 rfl) ?_
  obtain ⟨g9, hf⟩ := grd hf
  exact hret y2_8 L_8 hf H locs ls _ dX11_areAll_40 g9 hP hT hS
def rmX11_fall : Room := { frames := 4, cells := 0, slots := 0, locals := 101 }
set_option maxHeartbeats 4000000 in
set_option maxRecDepth 100000 in
theorem k_X11_fall (l : Launch) (D : va_G) (ce : Nat → ClassId) (b : Nat) (I : mI) (L : mL) (R : mR) (hT : WT kdM R) (x0 : Nat) (h0 : kdM x0 = 17) (o1 : Int32) (o2 : mI) (o3 : mL) (hf : f_X11_fall x0 I L R = some (o1, o2, o3)) : Met l yX11_fall (Cond.code yX11_fall cX11_fall 2 (some .int) :: GW) rmX11_fall (va_Pc [.ref (b + x0)] (PW D ce b kdM lnM 21 I L R)) (va_Qi (fun r u => r = o1 ∧ u = (o2, o3, R)) (QW D ce b kdM lnM 21) (box b 21)) 0 0 (box b 21) := by
  refine Met.ofW (cc := cX11_fall) (maxL := 2) (ret := (some .int)) (by decide) rfl ?_
  intro p e s m args below meth c s₁ B hml hv
  obtain ⟨rfl, hP, hKK⟩ := hv
  have hx := B.exec
  have hb := B.bytes
  have hr := B.returns
  have hts0 := atoms_spec (ws := Cond.code yX11_fall cX11_fall 2 (some .int) :: GW) B.pre
  have hts : ∀ w ∈ GW, w.before _ s = true := fun w h => hts0 w (List.mem_cons_of_mem _ h)
  clear hts0
  have hown : s.vm.findClass RX11 = some m.cls := findClass_of_methodNamed B.named
  have hlocks := B.notSynchronized
  have hA : ∀ q, box b 21 q → box b 21 q := fun _ h => h
  have hS : va_S (box b 21) s.heap s.heap [] := va_S.rf
  have hl := lv_entry ([.ref (b + x0)]) (n := 2) (Nat.le_of_ble_eq_true rfl)
  rw [lg_entry_eq]
  generalize (lg_sl ([.ref (b + x0)]) ++ List.replicate (2 - (lg_sl ([.ref (b + x0)])).length) Slot.unset).toArray = ls at hl ⊢
  have hl : lv_has ls 2 [(0, .ref (b + x0))] := hl
  generalize ([.ref (b + x0)] : List Value).toArray = av at hts ⊢
  show W p l e rmX11_fall s m av below meth c s.heap [] 0 0 _ _
  obtain ⟨QQ, hQQ⟩ : ∃ z, z = MQ below (va_Qi (fun r u => r = o1 ∧ u = (o2, o3, R)) (QW D ce b kdM lnM 21) (box b 21)) av s 0 0 (box b 21) := ⟨_, rfl⟩
  rw [← hQQ]
  have hret : ∀ (r : Int32) (I1 : mI) (L1 : mL), some (r, I1, L1) = some (o1, o2, o3) → ∀ (H1 : Heap) (locs1 : List Loc) (ls1 : Array Slot) (pc1 : Nat), decode cX11_fall pc1 = .ok (.ireturn, 1) → va_P D vwCl (wd ce b kdM lnM 21 I1 L1 R) H1 → WT kdM R → va_S (box b 21) s.heap H1 locs1 → W p l e rmX11_fall s m av below meth c H1 locs1 0 0 QQ (F0 m pc1 ls1 [.int r]) := by
    intro r I1 L1 hq H1 locs1 ls1 pc1 hd hP hT hS
    cases hq
    rw [hQQ]
    exact mm_iret hx hb hr hlocks hP hT hS hd
  unfold f_X11_fall at hf
  obtain ⟨H, hH⟩ : ∃ z, z = s.heap := ⟨_, rfl⟩
  obtain ⟨locs, hlo⟩ : ∃ z : List Loc, z = [] := ⟨_, rfl⟩
  have hP : va_P D vwCl (wd ce b kdM lnM 21 I L R) H := by rw [hH]; exact hP
  have hS : va_S (box b 21) s.heap H locs := by rw [hH, hlo]; exact hS
  rw [show W p l e rmX11_fall s m av below meth c s.heap [] 0 0 QQ = W p l e rmX11_fall s m av below meth c H locs 0 0 QQ by rw [hH, hlo]]
  clear hH hlo
  clear hQQ
  show W p l e rmX11_fall s m av below meth c H locs 0 0 QQ (F0 m 0 ls [])
  refine lv_aload_n hx hb dX11_fall_0 rfl (lv_at hl 0 rfl) ?_
  refine lv_bipush (v := (111 : Int32)) hx hb dX11_fall_1 (by decide) ?_
  refine lv_bipush (v := (9 : Int32)) hx hb dX11_fall_3 (by decide) ?_
  obtain ⟨r1, I1, e1, hf⟩ := bd2_o hf
  refine mm_Vi (rest := []) hx hb hml hown hts hKK hP hS hA (kdM_lt h0 (Nat.succ_ne_zero _)) h0 (show vwCl[11]? = some (yX11_laysFigures.cls, TX11, 32) from rfl) vkX11_194 (k_X11_laysFigures l D ce b I L R hT x0 (111 : Int32) (9 : Int32) h0 r1 I1 e1) rfl hl.1 rfl (Nat.le_of_ble_eq_true rfl) ⟨rfl, rfl⟩ ⟨Nat.le_of_ble_eq_true rfl, Nat.le_of_ble_eq_true rfl⟩ ⟨Nat.zero_le _, Nat.zero_le _⟩ dX11_fall_5 (fun H locs hP hT hS => ?_)
  refine lv_istore_n (lv' := [(1, .int r1), (0, .ref (b + x0))]) hx hb dX11_fall_8 rfl hl (Nat.le_of_ble_eq_true rfl) rfl (fun ls hl => ?_)
  have lp9 : ∀ (n : Nat) (x0 : Nat) (x1 : Int32) (I : mI) (L : mL) (R : mR) (q : (Int32 × mI × mL) ⊕ (mI × mL)) (H : Heap) (locs : List Loc) (ls : Array Slot), va_P D vwCl (wd ce b kdM lnM 21 I L R) H → va_S (box b 21) s.heap H locs → WT kdM R → kdM x0 = 17 → lv_has ls 2 [(0, .ref (b + x0)), (1, .int x1)] → f_X11_fall_L9 n x0 x1 I L R = some q → (∀ (I1 : mI) (L1 : mL), some (Sum.inr (I1, L1)) = some q → ∀ (H1 : Heap) (locs1 : List Loc) (ls1 : Array Slot), va_P D vwCl (wd ce b kdM lnM 21 I1 L1 R) H1 → va_S (box b 21) s.heap H1 locs1 → lv_has ls1 2 [] → W p l e rmX11_fall s m av below meth c H1 locs1 0 0 QQ (F0 m 36 ls1 [])) → (∀ (r : Int32) (I1 : mI) (L1 : mL), some (Sum.inl (r, I1, L1)) = some q → ∀ (H1 : Heap) (locs1 : List Loc) (ls1 : Array Slot) (pc1 : Nat), decode cX11_fall pc1 = .ok (.ireturn, 1) → va_P D vwCl (wd ce b kdM lnM 21 I1 L1 R) H1 → WT kdM R → va_S (box b 21) s.heap H1 locs1 → W p l e rmX11_fall s m av below meth c H1 locs1 0 0 QQ (F0 m pc1 ls1 [.int r])) → W p l e rmX11_fall s m av below meth c H locs 0 0 QQ (F0 m 9 ls []) := by
    intro n
    induction n with
    | zero =>
      intro x0 x1 I L R q H locs ls hP hS hT h0 hl hf kx kr
      exact absurd (show (none : Option ((Int32 × mI × mL) ⊕ (mI × mL))) = some _ from hf) (by simp)
    | succ n ih =>
      intro x0 x1 I L R q H locs ls hP hS hT h0 hl hf kx kr
      rw [f_X11_fall_L9] at hf
      refine lv_iload_n hx hb dX11_fall_9 rfl (lv_at hl 1 rfl) ?_
      refine lv_if_eq (tgt := 36) hx hb dX11_fall_10 (by decide) (fun c2 => ?_) (fun c2 => ?_)
      · have hf := ifT hf c2
        exact kx I L hf H locs ls hP hS (lv_sub hl [] rfl)
      · have hf := ifF hf c2
        refine lv_aload_n hx hb dX11_fall_13 rfl (lv_at hl 0 rfl) ?_
        refine lv_iconst (v := (2 : Int32)) hx hb dX11_fall_14 (by decide) ?_
        obtain ⟨r3, L3, e3, hf⟩ := bd2_o hf
        refine mm_Vi (rest := []) hx hb hml hown hts hKK hP hS hA (kdM_lt h0 (Nat.succ_ne_zero _)) h0 (show vwCl[11]? = some (yX11_areAll.cls, TX11, 32) from rfl) vkX11_198 (k_X11_areAll l D ce b I L R hT x0 (2 : Int32) h0 r3 L3 e3) rfl hl.1 rfl (Nat.le_of_ble_eq_true rfl) ⟨rfl, rfl⟩ ⟨Nat.le_of_ble_eq_true rfl, Nat.le_of_ble_eq_true rfl⟩ ⟨Nat.zero_le _, Nat.zero_le _⟩ dX11_fall_15 (fun H locs hP hT hS => ?_)
        refine lv_if_eq (tgt := 26) hx hb dX11_fall_18 (by decide) (fun c4 => ?_) (fun c4 => ?_)
        · have hf := ifT hf c4
          refine lv_aload_n hx hb dX11_fall_26 rfl (lv_at hl 0 rfl) ?_
          refine lv_iconst (v := (1 : Int32)) hx hb dX11_fall_27 (by decide) ?_
          refine lv_iconst (v := (3 : Int32)) hx hb dX11_fall_28 (by decide) ?_
          obtain ⟨r5, I5, e5, hf⟩ := bd2_o hf
          refine mm_Vi (rest := []) hx hb hml hown hts hKK hP hS hA (kdM_lt h0 (Nat.succ_ne_zero _)) h0 (show vwCl[11]? = some (yX11_goesOn.cls, TX11, 32) from rfl) vkX11_204 (k_X11_goesOn l D ce b I L3 R hT x0 (1 : Int32) (3 : Int32) h0 r5 I5 e5) rfl hl.1 rfl (Nat.le_of_ble_eq_true rfl) ⟨rfl, rfl⟩ ⟨Nat.le_of_ble_eq_true rfl, Nat.le_of_ble_eq_true rfl⟩ ⟨Nat.zero_le _, Nat.zero_le _⟩ dX11_fall_29 (fun H locs hP hT hS => ?_)
          refine lv_istore_n (lv' := [(1, .int r5), (0, .ref (b + x0))]) hx hb dX11_fall_32 rfl hl (Nat.le_of_ble_eq_true rfl) rfl (fun ls hl => ?_)
          refine lv_goto (tgt := 9) hx hb dX11_fall_33 (by decide) ?_
          exact ih x0 r5 I5 L3 R q H locs ls hP hS hT h0 (lv_sub hl [1, 0] rfl) hf kx kr
        · have hf := ifF hf c4
          refine lv_aload_n hx hb dX11_fall_21 rfl (lv_at hl 0 rfl) ?_
          obtain ⟨r6, e6, hf⟩ := bd1_o hf
          refine mm_Vi (rest := []) hx hb hml hown hts hKK hP hS hA (kdM_lt h0 (Nat.succ_ne_zero _)) h0 (show vwCl[11]? = some (yX11_numberOf.cls, TX11, 32) from rfl) vkX11_201 (k_X11_numberOf l D ce b I L3 R hT x0 h0 r6 e6) rfl hl.1 rfl (Nat.le_of_ble_eq_true rfl) ⟨rfl, rfl⟩ ⟨Nat.le_of_ble_eq_true rfl, Nat.le_of_ble_eq_true rfl⟩ ⟨Nat.zero_le _, Nat.zero_le _⟩ dX11_fall_22 (fun H locs hP hT hS => ?_)
          exact kr r6 I L3 hf H locs ls _ dX11_fall_25 hP hT hS
  obtain ⟨q_7, e_7, hf⟩ := bdS_o hf
  refine lp9 FU x0 r1 I1 L R q_7 H locs ls hP hS hT h0 (lv_sub hl [1, 0] rfl) e_7 (fun I_7 L_7 hq H locs ls hP hS hl => ?_) (fun r_7 I_7 L_7 hq H locs ls pc1 hd hP hT hS => ?_)
  · have hf := elR2 hf (Option.some.inj hq).symm
    refine lv_iconst (v := (-1 : Int32)) hx hb dX11_fall_36 (by decide) ?_
    exact hret (-1 : Int32) I_7 L_7 hf H locs ls _ dX11_fall_37 hP hT hS
  · have hf := elL3 hf (Option.some.inj hq).symm
    exact hret r_7 I_7 L_7 hf H locs ls pc1 hd hP hT hS
