def rmX11_turns : Room := { frames := 6, cells := 0, slots := 0, locals := 139 }
set_option maxHeartbeats 4000000 in
set_option maxRecDepth 100000 in
theorem k_X11_turns (l : Launch) (D : va_G) (ce : Nat → ClassId) (b : Nat) (I : mI) (L : mL) (R : mR) (hT : WT kdM R) (x0 : Nat) (x1 : Int32) (h0 : kdM x0 = 17) (o1 : Int32) (o2 : mI) (hf : f_X11_turns x0 x1 I R = some (o1, o2)) : Met l yX11_turns (Cond.code yX11_turns cX11_turns 4 (some .int) :: GW) rmX11_turns (va_Pc [.ref (b + x0), .int x1] (PW D ce b kdM lnM 21 I L R)) (va_Qi (fun r u => r = o1 ∧ u = (o2, L, R)) (QW D ce b kdM lnM 21) (box b 21)) 0 0 (box b 21) := by
  refine Met.ofW (cc := cX11_turns) (maxL := 4) (ret := (some .int)) (by decide) rfl ?_
  intro p e s m args below meth c s₁ B hml hv
  obtain ⟨rfl, hP, hKK⟩ := hv
  have hx := B.exec
  have hb := B.bytes
  have hr := B.returns
  have hts0 := atoms_spec (ws := Cond.code yX11_turns cX11_turns 4 (some .int) :: GW) B.pre
  have hts : ∀ w ∈ GW, w.before _ s = true := fun w h => hts0 w (List.mem_cons_of_mem _ h)
  clear hts0
  have hown : s.vm.findClass RX11 = some m.cls := findClass_of_methodNamed B.named
  have hlocks := B.notSynchronized
  have hA : ∀ q, box b 21 q → box b 21 q := fun _ h => h
  have hS : va_S (box b 21) s.heap s.heap [] := va_S.rf
  have hl := lv_entry ([.ref (b + x0), .int x1]) (n := 4) (Nat.le_of_ble_eq_true rfl)
  rw [lg_entry_eq]
  generalize (lg_sl ([.ref (b + x0), .int x1]) ++ List.replicate (4 - (lg_sl ([.ref (b + x0), .int x1])).length) Slot.unset).toArray = ls at hl ⊢
  have hl : lv_has ls 4 [(0, .ref (b + x0)), (1, .int x1)] := hl
  generalize ([.ref (b + x0), .int x1] : List Value).toArray = av at hts ⊢
  show W p l e rmX11_turns s m av below meth c s.heap [] 0 0 _ _
  obtain ⟨QQ, hQQ⟩ : ∃ z, z = MQ below (va_Qi (fun r u => r = o1 ∧ u = (o2, L, R)) (QW D ce b kdM lnM 21) (box b 21)) av s 0 0 (box b 21) := ⟨_, rfl⟩
  rw [← hQQ]
  have hret : ∀ (r : Int32) (I1 : mI), some (r, I1) = some (o1, o2) → ∀ (H1 : Heap) (locs1 : List Loc) (ls1 : Array Slot) (pc1 : Nat), decode cX11_turns pc1 = .ok (.ireturn, 1) → va_P D vwCl (wd ce b kdM lnM 21 I1 L R) H1 → WT kdM R → va_S (box b 21) s.heap H1 locs1 → W p l e rmX11_turns s m av below meth c H1 locs1 0 0 QQ (F0 m pc1 ls1 [.int r]) := by
    intro r I1 hq H1 locs1 ls1 pc1 hd hP hT hS
    cases hq
    rw [hQQ]
    exact mm_iret hx hb hr hlocks hP hT hS hd
  unfold f_X11_turns at hf
  obtain ⟨H, hH⟩ : ∃ z, z = s.heap := ⟨_, rfl⟩
  obtain ⟨locs, hlo⟩ : ∃ z : List Loc, z = [] := ⟨_, rfl⟩
  have hP : va_P D vwCl (wd ce b kdM lnM 21 I L R) H := by rw [hH]; exact hP
  have hS : va_S (box b 21) s.heap H locs := by rw [hH, hlo]; exact hS
  rw [show W p l e rmX11_turns s m av below meth c s.heap [] 0 0 QQ = W p l e rmX11_turns s m av below meth c H locs 0 0 QQ by rw [hH, hlo]]
  clear hH hlo
  clear hQQ
  show W p l e rmX11_turns s m av below meth c H locs 0 0 QQ (F0 m 0 ls [])
  refine lv_iload_n hx hb dX11_turns_0 rfl (lv_at hl 1 rfl) ?_
  refine lv_iconst (v := (0 : Int32)) hx hb dX11_turns_1 (by decide) ?_
  refine lv_bipush (v := (30 : Int32)) hx hb dX11_turns_2 (by decide) ?_
  obtain ⟨r1, e1, hf⟩ := bd1_o hf
  refine mm_Si (rest := []) hx hb hml hown hts hKK hP hS hA skX11_96 (k_X11_in l D ce b I L R hT x1 (0 : Int32) (30 : Int32)  r1 e1) rfl hl.1 rfl (Nat.le_of_ble_eq_true rfl) ⟨rfl, rfl⟩ ⟨Nat.le_of_ble_eq_true rfl, Nat.le_of_ble_eq_true rfl⟩ ⟨Nat.zero_le _, Nat.zero_le _⟩ dX11_turns_4 (fun H locs hP hT hS => ?_)
  refine lv_if_ne (tgt := 17) hx hb dX11_turns_7 (by decide) (fun c2 => ?_) (fun c2 => ?_)
  · have hf := ifF hf c2
    refine lv_aload_n hx hb dX11_turns_17 rfl (lv_at hl 0 rfl) ?_
    obtain ⟨I3, e3, hf⟩ := bd1_o hf
    refine mm_Vv (rest := []) hx hb hml hown hts hKK hP hS hA (kdM_lt h0 (Nat.succ_ne_zero _)) h0 (show vwCl[11]? = some (yX11_remembers.cls, TX11, 32) from rfl) vkX11_142 (k_X11_remembers l D ce b I L R hT x0 h0 I3 e3) rfl hl.1 rfl (Nat.le_of_ble_eq_true rfl) ⟨rfl, rfl⟩ ⟨Nat.le_of_ble_eq_true rfl, Nat.le_of_ble_eq_true rfl⟩ ⟨Nat.zero_le _, Nat.zero_le _⟩ dX11_turns_18 (fun H locs hP hT hS => ?_)
    refine lv_aload_n hx hb dX11_turns_21 rfl (lv_at hl 0 rfl) ?_
    obtain ⟨I4, e4, hf⟩ := bd1_o hf
    refine mm_Vv (rest := []) hx hb hml hown hts hKK hP hS hA (kdM_lt h0 (Nat.succ_ne_zero _)) h0 (show vwCl[11]? = some (yX11_laysTerm.cls, TX11, 32) from rfl) vkX11_261 (k_X11_laysTerm l D ce b I3 L R hT x0 h0 I4 e4) rfl hl.1 rfl (Nat.le_of_ble_eq_true rfl) ⟨rfl, rfl⟩ ⟨Nat.le_of_ble_eq_true rfl, Nat.le_of_ble_eq_true rfl⟩ ⟨Nat.zero_le _, Nat.zero_le _⟩ dX11_turns_22 (fun H locs hP hT hS => ?_)
    refine lv_iconst (v := (0 : Int32)) hx hb dX11_turns_25 (by decide) ?_
    refine lv_istore_n (lv' := [(2, .int (0 : Int32)), (0, .ref (b + x0)), (1, .int x1)]) hx hb dX11_turns_26 rfl hl (Nat.le_of_ble_eq_true rfl) rfl (fun ls hl => ?_)
    have lp27 : ∀ (n : Nat) (x0 : Nat) (x1 : Int32) (x2 : Int32) (I : mI) (L : mL) (R : mR) (a1 : Int32) (a2 : mI) (H : Heap) (locs : List Loc) (ls : Array Slot), va_P D vwCl (wd ce b kdM lnM 21 I L R) H → va_S (box b 21) s.heap H locs → WT kdM R → kdM x0 = 17 → lv_has ls 4 [(0, .ref (b + x0)), (1, .int x1), (2, .int x2)] → f_X11_turns_L27 n x0 x1 x2 I R = some (a1, a2) → (∀ (H1 : Heap) (locs1 : List Loc) (ls1 : Array Slot), va_P D vwCl (wd ce b kdM lnM 21 a2 L R) H1 → va_S (box b 21) s.heap H1 locs1 → lv_has ls1 4 [(0, .ref (b + x0)), (2, .int a1)] → W p l e rmX11_turns s m av below meth c H1 locs1 0 0 QQ (F0 m 52 ls1 [])) → W p l e rmX11_turns s m av below meth c H locs 0 0 QQ (F0 m 27 ls []) := by
      intro n
      induction n with
      | zero =>
        intro x0 x1 x2 I L R a1 a2 H locs ls hP hS hT h0 hl hf kx
        exact absurd (show (none : Option (Int32 × mI)) = some _ from hf) (by simp)
      | succ n ih =>
        intro x0 x1 x2 I L R a1 a2 H locs ls hP hS hT h0 hl hf kx
        rw [f_X11_turns_L27] at hf
        refine lv_iload_n hx hb dX11_turns_27 rfl (lv_at hl 2 rfl) ?_
        refine lv_iload_n hx hb dX11_turns_28 rfl (lv_at hl 1 rfl) ?_
        refine lv_icmp_ge (tgt := 52) hx hb dX11_turns_29 (by decide) (fun c5 => ?_) (fun c5 => ?_)
        · have hf := ifT hf c5
          cases hf
          exact kx H locs ls hP hS (lv_sub hl [0, 2] rfl)
        · have hf := ifF hf c5
          refine lv_aload_n hx hb dX11_turns_32 rfl (lv_at hl 0 rfl) ?_
          obtain ⟨r6, I6, e6, hf⟩ := bd2_o hf
          refine mm_Vi (rest := []) hx hb hml hown hts hKK hP hS hA (kdM_lt h0 (Nat.succ_ne_zero _)) h0 (show vwCl[11]? = some (yX11_findsTurn.cls, TX11, 32) from rfl) vkX11_264 (k_X11_findsTurn l D ce b I L R hT x0 h0 r6 I6 e6) rfl hl.1 rfl (Nat.le_of_ble_eq_true rfl) ⟨rfl, rfl⟩ ⟨Nat.le_of_ble_eq_true rfl, Nat.le_of_ble_eq_true rfl⟩ ⟨Nat.zero_le _, Nat.zero_le _⟩ dX11_turns_33 (fun H locs hP hT hS => ?_)
          refine lv_if_eq (tgt := 52) hx hb dX11_turns_36 (by decide) (fun c7 => ?_) (fun c7 => ?_)
          · have hf := ifT hf c7
            cases hf
            exact kx H locs ls hP hS (lv_sub hl [0, 2] rfl)
          · have hf := ifF hf c7
            refine lv_aload_n hx hb dX11_turns_39 rfl (lv_at hl 0 rfl) ?_
            obtain ⟨r8, I8, e8, hf⟩ := bd2_o hf
            refine mm_Vi (rest := []) hx hb hml hown hts hKK hP hS hA (kdM_lt h0 (Nat.succ_ne_zero _)) h0 (show vwCl[11]? = some (yX11_doesTurn.cls, TX11, 32) from rfl) vkX11_267 (k_X11_doesTurn l D ce b I6 L R hT x0 h0 r8 I8 e8) rfl hl.1 rfl (Nat.le_of_ble_eq_true rfl) ⟨rfl, rfl⟩ ⟨Nat.le_of_ble_eq_true rfl, Nat.le_of_ble_eq_true rfl⟩ ⟨Nat.zero_le _, Nat.zero_le _⟩ dX11_turns_40 (fun H locs hP hT hS => ?_)
            refine lv_if_eq (tgt := 52) hx hb dX11_turns_43 (by decide) (fun c9 => ?_) (fun c9 => ?_)
            · have hf := ifT hf c9
              cases hf
              exact kx H locs ls hP hS (lv_sub hl [0, 2] rfl)
            · have hf := ifF hf c9
              refine lv_iinc (v := (x2 + (1 : Int32))) (lv' := [(2, .int (x2 + (1 : Int32))), (0, .ref (b + x0)), (1, .int x1)]) hx hb dX11_turns_46 hl (k := 2) rfl rfl (Nat.le_of_ble_eq_true rfl) rfl (fun ls hl => ?_)
              refine lv_goto (tgt := 27) hx hb dX11_turns_49 (by decide) ?_
              exact ih x0 x1 (x2 + (1 : Int32)) I8 L R a1 a2 H locs ls hP hS hT h0 (lv_sub hl [1, 2, 0] rfl) hf kx
    obtain ⟨y2_10, I_10, e_10, hf⟩ := bd2_o hf
    refine lp27 FU x0 x1 (0 : Int32) I4 L R y2_10 I_10 H locs ls hP hS hT h0 (lv_sub hl [1, 2, 0] rfl) e_10 (fun H locs ls hP hS hl => ?_)
    refine lv_aload_n hx hb dX11_turns_52 rfl (lv_at hl 0 rfl) ?_
    have t11 : kdM (R x0 0) = 1 := wt hT h0 rfl
    refine mm_getr hx hb hts hown hKK hP fk11_0 (Nat.le_of_ble_eq_true rfl) lkX11_7 (kdM_lt h0 (Nat.succ_ne_zero _)) h0 (nM t11 (Nat.succ_ne_zero _)) dX11_turns_53 ?_
    refine lv_sipush (v := (131 : Int32)) hx hb dX11_turns_56 (by decide) ?_
    refine lv_aload_n hx hb dX11_turns_59 rfl (lv_at hl 0 rfl) ?_
    refine mm_geti hx hb hts hown hKK hP fk11_24 (Or.inl rfl) lkX11_237 (kdM_lt h0 (Nat.succ_ne_zero _)) h0 dX11_turns_60 ?_
    obtain ⟨g12, hf⟩ := grd hf
    refine jnE hf (fun I13 eI13 hf => ?_)
    refine mm_iast hx hb hKK hP hA hS (kdM_lt t11 (Nat.succ_ne_zero _)) t11 g12 dX11_turns_63 (fun H locs hP hS => ?_)
    rw [← eI13] at hP
    refine lv_iconst (v := (0 : Int32)) hx hb dX11_turns_64 (by decide) ?_
    refine lv_istore_n (lv' := [(3, .int (0 : Int32)), (0, .ref (b + x0)), (2, .int y2_10)]) hx hb dX11_turns_65 rfl hl (Nat.le_of_ble_eq_true rfl) rfl (fun ls hl => ?_)
    have lp66 : ∀ (n : Nat) (x0 : Nat) (x2 : Int32) (x3 : Int32) (I : mI) (L : mL) (R : mR) (a1 : mI) (H : Heap) (locs : List Loc) (ls : Array Slot), va_P D vwCl (wd ce b kdM lnM 21 I L R) H → va_S (box b 21) s.heap H locs → WT kdM R → kdM x0 = 17 → lv_has ls 4 [(0, .ref (b + x0)), (2, .int x2), (3, .int x3)] → f_X11_turns_L66 n x0 x2 x3 I R = some a1 → (∀ (H1 : Heap) (locs1 : List Loc) (ls1 : Array Slot), va_P D vwCl (wd ce b kdM lnM 21 a1 L R) H1 → va_S (box b 21) s.heap H1 locs1 → lv_has ls1 4 [(2, .int x2)] → W p l e rmX11_turns s m av below meth c H1 locs1 0 0 QQ (F0 m 106 ls1 [])) → W p l e rmX11_turns s m av below meth c H locs 0 0 QQ (F0 m 66 ls []) := by
      intro n
      induction n with
      | zero =>
        intro x0 x2 x3 I L R a1 H locs ls hP hS hT h0 hl hf kx
        exact absurd (show (none : Option (mI)) = some _ from hf) (by simp)
      | succ n ih =>
        intro x0 x2 x3 I L R a1 H locs ls hP hS hT h0 hl hf kx
        rw [f_X11_turns_L66] at hf
        refine lv_iload_n hx hb dX11_turns_66 rfl (lv_at hl 2 rfl) ?_
        refine lv_bipush (v := (60 : Int32)) hx hb dX11_turns_67 (by decide) ?_
        refine lv_icmp_ge (tgt := 106) hx hb dX11_turns_69 (by decide) (fun c14 => ?_) (fun c14 => ?_)
        · have hf := ifT hf c14
          cases hf
          exact kx H locs ls hP hS (lv_sub hl [1] rfl)
        · have hf := ifF hf c14
          refine lv_aload_n hx hb dX11_turns_72 rfl (lv_at hl 0 rfl) ?_
          have t15 : kdM (R x0 0) = 1 := wt hT h0 rfl
          refine mm_getr hx hb hts hown hKK hP fk11_0 (Nat.le_of_ble_eq_true rfl) lkX11_7 (kdM_lt h0 (Nat.succ_ne_zero _)) h0 (nM t15 (Nat.succ_ne_zero _)) dX11_turns_73 ?_
          refine lv_sipush (v := (132 : Int32)) hx hb dX11_turns_76 (by decide) ?_
          refine lv_iload_n hx hb dX11_turns_79 rfl (lv_at hl 2 rfl) ?_
          refine lv_iadd hx hb dX11_turns_80 ?_
          refine lv_iload_n hx hb dX11_turns_81 rfl (lv_at hl 2 rfl) ?_
          refine lv_aload_n hx hb dX11_turns_82 rfl (lv_at hl 0 rfl) ?_
          refine mm_geti hx hb hts hown hKK hP fk11_24 (Or.inl rfl) lkX11_237 (kdM_lt h0 (Nat.succ_ne_zero _)) h0 dX11_turns_83 ?_
          refine jnE hf (fun j99_16 ej_16 hf => ?_)
          have hJ99_16 : ∀ (w2_16 : Int32) (H : Heap) (locs : List Loc) (ls : Array Slot), va_P D vwCl (wd ce b kdM lnM 21 I L R) H → va_S (box b 21) s.heap H locs → lv_has ls 4 [(0, .ref (b + x0)), (2, .int x2), (3, .int x3)] → j99_16 w2_16 = some a1 → W p l e rmX11_turns s m av below meth c H locs 0 0 QQ (F0 m 99 ls [.int w2_16, .int ((132 : Int32) + x3), .ref (b + (R x0 0))]) := by
            intro w2_16 H locs ls hP hS  hl hf
            rw [ej_16] at hf
            try dsimp only at hf
            obtain ⟨g17, hf⟩ := grd hf
            refine jnE hf (fun I18 eI18 hf => ?_)
            refine mm_iast hx hb hKK hP hA hS (kdM_lt t15 (Nat.succ_ne_zero _)) t15 g17 dX11_turns_99 (fun H locs hP hS => ?_)
            rw [← eI18] at hP
            refine lv_iinc (v := (x3 + (1 : Int32))) (lv' := [(3, .int (x3 + (1 : Int32))), (0, .ref (b + x0)), (2, .int x2)]) hx hb dX11_turns_100 hl (k := 2) rfl rfl (Nat.le_of_ble_eq_true rfl) rfl (fun ls hl => ?_)
            refine lv_goto (tgt := 66) hx hb dX11_turns_103 (by decide) ?_
            exact ih x0 x2 (x3 + (1 : Int32)) I18 L R a1 H locs ls hP hS hT h0 (lv_sub hl [1, 2, 0] rfl) hf kx
          clear ej_16
          refine lv_icmp_ge (tgt := 98) hx hb dX11_turns_86 (by decide) (fun c19 => ?_) (fun c19 => ?_)
          · have hf := ifT hf c19
            refine lv_iconst (v := (0 : Int32)) hx hb dX11_turns_98 (by decide) ?_
            exact hJ99_16 (0 : Int32) H locs ls hP hS  (lv_sub hl [0, 1, 2] rfl) hf
          · have hf := ifF hf c19
            refine lv_aload_n hx hb dX11_turns_89 rfl (lv_at hl 0 rfl) ?_
            have t20 : kdM (R x0 23) = 1 := wt hT h0 rfl
            refine mm_getr hx hb hts hown hKK hP fk11_23 (Nat.le_of_ble_eq_true rfl) lkX11_60 (kdM_lt h0 (Nat.succ_ne_zero _)) h0 (nM t20 (Nat.succ_ne_zero _)) dX11_turns_90 ?_
            refine lv_iload_n hx hb dX11_turns_93 rfl (lv_at hl 2 rfl) ?_
            obtain ⟨g21, hf⟩ := grd hf
            refine mm_iald hx hb hKK hP (kdM_lt t20 (Nat.succ_ne_zero _)) t20 g21 dX11_turns_94 ?_
            refine lv_goto (tgt := 99) hx hb dX11_turns_95 (by decide) ?_
            exact hJ99_16 (I (R x0 23) x3.toNatClampNeg) H locs ls hP hS  (lv_sub hl [0, 1, 2] rfl) hf
    obtain ⟨I_22, e_22, hf⟩ := bd1_o hf
    refine lp66 FU x0 y2_10 (0 : Int32) I13 L R I_22 H locs ls hP hS hT h0 (lv_sub hl [1, 2, 0] rfl) e_22 (fun H locs ls hP hS hl => ?_)
    refine lv_iload_n hx hb dX11_turns_106 rfl (lv_at hl 0 rfl) ?_
    exact hret y2_10 I_22 hf H locs ls _ dX11_turns_107 hP hT hS
  · have hf := ifT hf c2
    refine lv_aload_n hx hb dX11_turns_10 rfl (lv_at hl 0 rfl) ?_
    refine lv_bipush (v := (-2 : Int32)) hx hb dX11_turns_11 (by decide) ?_
    obtain ⟨r23, I23, e23, hf⟩ := bd2_o hf
    refine mm_Vi (rest := []) hx hb hml hown hts hKK hP hS hA (kdM_lt h0 (Nat.succ_ne_zero _)) h0 (show vwCl[11]? = some (yX11_refuses.cls, TX11, 32) from rfl) vkX11_80 (k_X11_refuses l D ce b I L R hT x0 (-2 : Int32) h0 r23 I23 e23) rfl hl.1 rfl (Nat.le_of_ble_eq_true rfl) ⟨rfl, rfl⟩ ⟨Nat.le_of_ble_eq_true rfl, Nat.le_of_ble_eq_true rfl⟩ ⟨Nat.zero_le _, Nat.zero_le _⟩ dX11_turns_13 (fun H locs hP hT hS => ?_)
    exact hret r23 I23 hf H locs ls _ dX11_turns_16 hP hT hS
def rmX11_settled : Room := { frames := 6, cells := 0, slots := 0, locals := 139 }
set_option maxHeartbeats 4000000 in
set_option maxRecDepth 100000 in
theorem k_X11_settled (l : Launch) (D : va_G) (ce : Nat → ClassId) (b : Nat) (I : mI) (L : mL) (R : mR) (hT : WT kdM R) (x0 : Nat) (h0 : kdM x0 = 17) (o1 : Int32) (o2 : mI) (hf : f_X11_settled x0 I R = some (o1, o2)) : Met l yX11_settled (Cond.code yX11_settled cX11_settled 2 (some .int) :: GW) rmX11_settled (va_Pc [.ref (b + x0)] (PW D ce b kdM lnM 21 I L R)) (va_Qi (fun r u => r = o1 ∧ u = (o2, L, R)) (QW D ce b kdM lnM 21) (box b 21)) 0 0 (box b 21) := by
  refine Met.ofW (cc := cX11_settled) (maxL := 2) (ret := (some .int)) (by decide) rfl ?_
  intro p e s m args below meth c s₁ B hml hv
  obtain ⟨rfl, hP, hKK⟩ := hv
  have hx := B.exec
  have hb := B.bytes
  have hr := B.returns
  have hts0 := atoms_spec (ws := Cond.code yX11_settled cX11_settled 2 (some .int) :: GW) B.pre
  have hts : ∀ w ∈ GW, w.before _ s = true := fun w h => hts0 w (List.mem_cons_of_mem _ h)
  clear hts0
  have hown : s.vm.findClass RX11 = some m.cls := findClass_of_methodNamed B.named
  have hlocks := B.notSynchronized
  have hA : ∀ q, box b 21 q → box b 21 q := fun _ h => h
  have hS : va_S (box b 21) s.heap s.heap [] := va_S.rf
  have hl := lv_entry ([.ref (b + x0)]) (n := 2) (Nat.le_of_ble_eq_true rfl)
  rw [lg_entry_eq]
  generalize (lg_sl ([.ref (b + x0)]) ++ List.replicate (2 - (lg_sl ([.ref (b + x0)])).length) Slot.unset).toArray = ls at hl ⊢
  have hl : lv_has ls 2 [(0, .ref (b + x0))] := hl
  generalize ([.ref (b + x0)] : List Value).toArray = av at hts ⊢
  show W p l e rmX11_settled s m av below meth c s.heap [] 0 0 _ _
  obtain ⟨QQ, hQQ⟩ : ∃ z, z = MQ below (va_Qi (fun r u => r = o1 ∧ u = (o2, L, R)) (QW D ce b kdM lnM 21) (box b 21)) av s 0 0 (box b 21) := ⟨_, rfl⟩
  rw [← hQQ]
  have hret : ∀ (r : Int32) (I1 : mI), some (r, I1) = some (o1, o2) → ∀ (H1 : Heap) (locs1 : List Loc) (ls1 : Array Slot) (pc1 : Nat), decode cX11_settled pc1 = .ok (.ireturn, 1) → va_P D vwCl (wd ce b kdM lnM 21 I1 L R) H1 → WT kdM R → va_S (box b 21) s.heap H1 locs1 → W p l e rmX11_settled s m av below meth c H1 locs1 0 0 QQ (F0 m pc1 ls1 [.int r]) := by
    intro r I1 hq H1 locs1 ls1 pc1 hd hP hT hS
    cases hq
    rw [hQQ]
    exact mm_iret hx hb hr hlocks hP hT hS hd
  unfold f_X11_settled at hf
  obtain ⟨H, hH⟩ : ∃ z, z = s.heap := ⟨_, rfl⟩
  obtain ⟨locs, hlo⟩ : ∃ z : List Loc, z = [] := ⟨_, rfl⟩
  have hP : va_P D vwCl (wd ce b kdM lnM 21 I L R) H := by rw [hH]; exact hP
  have hS : va_S (box b 21) s.heap H locs := by rw [hH, hlo]; exact hS
  rw [show W p l e rmX11_settled s m av below meth c s.heap [] 0 0 QQ = W p l e rmX11_settled s m av below meth c H locs 0 0 QQ by rw [hH, hlo]]
  clear hH hlo
  clear hQQ
  show W p l e rmX11_settled s m av below meth c H locs 0 0 QQ (F0 m 0 ls [])
  refine lv_aload_n hx hb dX11_settled_0 rfl (lv_at hl 0 rfl) ?_
  obtain ⟨I1, e1, hf⟩ := bd1_o hf
  refine mm_Vv (rest := []) hx hb hml hown hts hKK hP hS hA (kdM_lt h0 (Nat.succ_ne_zero _)) h0 (show vwCl[11]? = some (yX11_laysTerm.cls, TX11, 32) from rfl) vkX11_261 (k_X11_laysTerm l D ce b I L R hT x0 h0 I1 e1) rfl hl.1 rfl (Nat.le_of_ble_eq_true rfl) ⟨rfl, rfl⟩ ⟨Nat.le_of_ble_eq_true rfl, Nat.le_of_ble_eq_true rfl⟩ ⟨Nat.zero_le _, Nat.zero_le _⟩ dX11_settled_1 (fun H locs hP hT hS => ?_)
  refine lv_iconst (v := (0 : Int32)) hx hb dX11_settled_4 (by decide) ?_
  refine lv_istore_n (lv' := [(1, .int (0 : Int32)), (0, .ref (b + x0))]) hx hb dX11_settled_5 rfl hl (Nat.le_of_ble_eq_true rfl) rfl (fun ls hl => ?_)
  have lp6 : ∀ (n : Nat) (x0 : Nat) (x1 : Int32) (I : mI) (L : mL) (R : mR) (q : (Int32 × mI) ⊕ (mI)) (H : Heap) (locs : List Loc) (ls : Array Slot), va_P D vwCl (wd ce b kdM lnM 21 I L R) H → va_S (box b 21) s.heap H locs → WT kdM R → kdM x0 = 17 → lv_has ls 2 [(0, .ref (b + x0)), (1, .int x1)] → f_X11_settled_L6 n x0 x1 I R = some q → (∀ (I1 : mI), some (Sum.inr I1) = some q → ∀ (H1 : Heap) (locs1 : List Loc) (ls1 : Array Slot), va_P D vwCl (wd ce b kdM lnM 21 I1 L R) H1 → va_S (box b 21) s.heap H1 locs1 → lv_has ls1 2 [] → W p l e rmX11_settled s m av below meth c H1 locs1 0 0 QQ (F0 m 42 ls1 [])) → (∀ (r : Int32) (I1 : mI), some (Sum.inl (r, I1)) = some q → ∀ (H1 : Heap) (locs1 : List Loc) (ls1 : Array Slot) (pc1 : Nat), decode cX11_settled pc1 = .ok (.ireturn, 1) → va_P D vwCl (wd ce b kdM lnM 21 I1 L R) H1 → WT kdM R → va_S (box b 21) s.heap H1 locs1 → W p l e rmX11_settled s m av below meth c H1 locs1 0 0 QQ (F0 m pc1 ls1 [.int r])) → W p l e rmX11_settled s m av below meth c H locs 0 0 QQ (F0 m 6 ls []) := by
    intro n
    induction n with
    | zero =>
      intro x0 x1 I L R q H locs ls hP hS hT h0 hl hf kx kr
      exact absurd (show (none : Option ((Int32 × mI) ⊕ (mI))) = some _ from hf) (by simp)
    | succ n ih =>
      intro x0 x1 I L R q H locs ls hP hS hT h0 hl hf kx kr
      rw [f_X11_settled_L6] at hf
      refine lv_iload_n hx hb dX11_settled_6 rfl (lv_at hl 1 rfl) ?_
      refine lv_bipush (v := (30 : Int32)) hx hb dX11_settled_7 (by decide) ?_
      refine lv_icmp_gt (tgt := 42) hx hb dX11_settled_9 (by decide) (fun c2 => ?_) (fun c2 => ?_)
      · have hf := ifT hf c2
        exact kx I hf H locs ls hP hS (lv_sub hl [] rfl)
      · have hf := ifF hf c2
        refine lv_aload_n hx hb dX11_settled_12 rfl (lv_at hl 0 rfl) ?_
        obtain ⟨r3, I3, e3, hf⟩ := bd2_o hf
        refine mm_Vi (rest := []) hx hb hml hown hts hKK hP hS hA (kdM_lt h0 (Nat.succ_ne_zero _)) h0 (show vwCl[11]? = some (yX11_findsTurn.cls, TX11, 32) from rfl) vkX11_264 (k_X11_findsTurn l D ce b I L R hT x0 h0 r3 I3 e3) rfl hl.1 rfl (Nat.le_of_ble_eq_true rfl) ⟨rfl, rfl⟩ ⟨Nat.le_of_ble_eq_true rfl, Nat.le_of_ble_eq_true rfl⟩ ⟨Nat.zero_le _, Nat.zero_le _⟩ dX11_settled_13 (fun H locs hP hT hS => ?_)
        refine lv_if_ne (tgt := 21) hx hb dX11_settled_16 (by decide) (fun c4 => ?_) (fun c4 => ?_)
        · have hf := ifF hf c4
          refine lv_iload_n hx hb dX11_settled_21 rfl (lv_at hl 1 rfl) ?_
          refine lv_bipush (v := (30 : Int32)) hx hb dX11_settled_22 (by decide) ?_
          refine lv_icmp_eq (tgt := 34) hx hb dX11_settled_24 (by decide) (fun c5 => ?_) (fun c5 => ?_)
          · have hf := ifT hf c5
            refine lv_iconst (v := (-1 : Int32)) hx hb dX11_settled_34 (by decide) ?_
            exact kr (-1 : Int32) I3 hf H locs ls _ dX11_settled_35 hP hT hS
          · have hf := ifF hf c5
            refine lv_aload_n hx hb dX11_settled_27 rfl (lv_at hl 0 rfl) ?_
            obtain ⟨r6, I6, e6, hf⟩ := bd2_o hf
            refine mm_Vi (rest := []) hx hb hml hown hts hKK hP hS hA (kdM_lt h0 (Nat.succ_ne_zero _)) h0 (show vwCl[11]? = some (yX11_doesTurn.cls, TX11, 32) from rfl) vkX11_267 (k_X11_doesTurn l D ce b I3 L R hT x0 h0 r6 I6 e6) rfl hl.1 rfl (Nat.le_of_ble_eq_true rfl) ⟨rfl, rfl⟩ ⟨Nat.le_of_ble_eq_true rfl, Nat.le_of_ble_eq_true rfl⟩ ⟨Nat.zero_le _, Nat.zero_le _⟩ dX11_settled_28 (fun H locs hP hT hS => ?_)
            refine lv_if_ne (tgt := 36) hx hb dX11_settled_31 (by decide) (fun c7 => ?_) (fun c7 => ?_)
            · have hf := ifF hf c7
              refine lv_iinc (v := (x1 + (1 : Int32))) (lv' := [(1, .int (x1 + (1 : Int32))), (0, .ref (b + x0))]) hx hb dX11_settled_36 hl (k := 1) rfl rfl (Nat.le_of_ble_eq_true rfl) rfl (fun ls hl => ?_)
              refine lv_goto (tgt := 6) hx hb dX11_settled_39 (by decide) ?_
              exact ih x0 (x1 + (1 : Int32)) I6 L R q H locs ls hP hS hT h0 (lv_sub hl [1, 0] rfl) hf kx kr
            · have hf := ifT hf c7
              refine lv_iconst (v := (-1 : Int32)) hx hb dX11_settled_34 (by decide) ?_
              exact kr (-1 : Int32) I6 hf H locs ls _ dX11_settled_35 hP hT hS
        · have hf := ifT hf c4
          refine lv_iload_n hx hb dX11_settled_19 rfl (lv_at hl 1 rfl) ?_
          exact kr x1 I3 hf H locs ls _ dX11_settled_20 hP hT hS
  obtain ⟨q_8, e_8, hf⟩ := bdS_o hf
  refine lp6 FU x0 (0 : Int32) I1 L R q_8 H locs ls hP hS hT h0 (lv_sub hl [1, 0] rfl) e_8 (fun I_8 hq H locs ls hP hS hl => ?_) (fun r_8 I_8 hq H locs ls pc1 hd hP hT hS => ?_)
  · have hf := elR1 hf (Option.some.inj hq).symm
    refine lv_iconst (v := (-1 : Int32)) hx hb dX11_settled_42 (by decide) ?_
    exact hret (-1 : Int32) I_8 hf H locs ls _ dX11_settled_43 hP hT hS
  · have hf := elL2 hf (Option.some.inj hq).symm
    exact hret r_8 I_8 hf H locs ls pc1 hd hP hT hS
def rmX11_settles : Room := { frames := 7, cells := 0, slots := 0, locals := 160 }
set_option maxHeartbeats 4000000 in
set_option maxRecDepth 100000 in
theorem k_X11_settles (l : Launch) (D : va_G) (ce : Nat → ClassId) (b : Nat) (I : mI) (L : mL) (R : mR) (hT : WT kdM R) (x0 : Nat) (h0 : kdM x0 = 17) (o1 : Int32) (o2 : mI) (hf : f_X11_settles x0 I R = some (o1, o2)) : Met l yX11_settles (Cond.code yX11_settles cX11_settles 1 (some .int) :: GW) rmX11_settles (va_Pc [.ref (b + x0)] (PW D ce b kdM lnM 21 I L R)) (va_Qi (fun r u => r = o1 ∧ u = (o2, L, R)) (QW D ce b kdM lnM 21) (box b 21)) 0 0 (box b 21) := by
  refine Met.ofW (cc := cX11_settles) (maxL := 1) (ret := (some .int)) (by decide) rfl ?_
  intro p e s m args below meth c s₁ B hml hv
  obtain ⟨rfl, hP, hKK⟩ := hv
  have hx := B.exec
  have hb := B.bytes
  have hr := B.returns
  have hts0 := atoms_spec (ws := Cond.code yX11_settles cX11_settles 1 (some .int) :: GW) B.pre
  have hts : ∀ w ∈ GW, w.before _ s = true := fun w h => hts0 w (List.mem_cons_of_mem _ h)
  clear hts0
  have hown : s.vm.findClass RX11 = some m.cls := findClass_of_methodNamed B.named
  have hlocks := B.notSynchronized
  have hA : ∀ q, box b 21 q → box b 21 q := fun _ h => h
  have hS : va_S (box b 21) s.heap s.heap [] := va_S.rf
  have hl := lv_entry ([.ref (b + x0)]) (n := 1) (Nat.le_of_ble_eq_true rfl)
  rw [lg_entry_eq]
  generalize (lg_sl ([.ref (b + x0)]) ++ List.replicate (1 - (lg_sl ([.ref (b + x0)])).length) Slot.unset).toArray = ls at hl ⊢
  have hl : lv_has ls 1 [(0, .ref (b + x0))] := hl
  generalize ([.ref (b + x0)] : List Value).toArray = av at hts ⊢
  show W p l e rmX11_settles s m av below meth c s.heap [] 0 0 _ _
  obtain ⟨QQ, hQQ⟩ : ∃ z, z = MQ below (va_Qi (fun r u => r = o1 ∧ u = (o2, L, R)) (QW D ce b kdM lnM 21) (box b 21)) av s 0 0 (box b 21) := ⟨_, rfl⟩
  rw [← hQQ]
  have hret : ∀ (r : Int32) (I1 : mI), some (r, I1) = some (o1, o2) → ∀ (H1 : Heap) (locs1 : List Loc) (ls1 : Array Slot) (pc1 : Nat), decode cX11_settles pc1 = .ok (.ireturn, 1) → va_P D vwCl (wd ce b kdM lnM 21 I1 L R) H1 → WT kdM R → va_S (box b 21) s.heap H1 locs1 → W p l e rmX11_settles s m av below meth c H1 locs1 0 0 QQ (F0 m pc1 ls1 [.int r]) := by
    intro r I1 hq H1 locs1 ls1 pc1 hd hP hT hS
    cases hq
    rw [hQQ]
    exact mm_iret hx hb hr hlocks hP hT hS hd
  unfold f_X11_settles at hf
  obtain ⟨H, hH⟩ : ∃ z, z = s.heap := ⟨_, rfl⟩
  obtain ⟨locs, hlo⟩ : ∃ z : List Loc, z = [] := ⟨_, rfl⟩
  have hP : va_P D vwCl (wd ce b kdM lnM 21 I L R) H := by rw [hH]; exact hP
  have hS : va_S (box b 21) s.heap H locs := by rw [hH, hlo]; exact hS
  rw [show W p l e rmX11_settles s m av below meth c s.heap [] 0 0 QQ = W p l e rmX11_settles s m av below meth c H locs 0 0 QQ by rw [hH, hlo]]
  clear hH hlo
  clear hQQ
  show W p l e rmX11_settles s m av below meth c H locs 0 0 QQ (F0 m 0 ls [])
  refine lv_aload_n hx hb dX11_settles_0 rfl (lv_at hl 0 rfl) ?_
  obtain ⟨r1, I1, e1, hf⟩ := bd2_o hf
  refine mm_Vi (rest := []) hx hb hml hown hts hKK hP hS hA (kdM_lt h0 (Nat.succ_ne_zero _)) h0 (show vwCl[11]? = some (yX11_settled.cls, TX11, 32) from rfl) vkX11_270 (k_X11_settled l D ce b I L R hT x0 h0 r1 I1 e1) rfl hl.1 rfl (Nat.le_of_ble_eq_true rfl) ⟨rfl, rfl⟩ ⟨Nat.le_of_ble_eq_true rfl, Nat.le_of_ble_eq_true rfl⟩ ⟨Nat.zero_le _, Nat.zero_le _⟩ dX11_settles_1 (fun H locs hP hT hS => ?_)
  exact hret r1 I1 hf H locs ls _ dX11_settles_4 hP hT hS
def rmX11_nextOf : Room := { frames := 6, cells := 0, slots := 0, locals := 139 }
set_option maxHeartbeats 4000000 in
set_option maxRecDepth 100000 in
theorem k_X11_nextOf (l : Launch) (D : va_G) (ce : Nat → ClassId) (b : Nat) (I : mI) (L : mL) (R : mR) (hT : WT kdM R) (x0 : Nat) (x1 : Int32) (h0 : kdM x0 = 17) (o1 : Int32) (o2 : mI) (hf : f_X11_nextOf x0 x1 I R = some (o1, o2)) : Met l yX11_nextOf (Cond.code yX11_nextOf cX11_nextOf 2 (some .int) :: GW) rmX11_nextOf (va_Pc [.ref (b + x0), .int x1] (PW D ce b kdM lnM 21 I L R)) (va_Qi (fun r u => r = o1 ∧ u = (o2, L, R)) (QW D ce b kdM lnM 21) (box b 21)) 0 0 (box b 21) := by
  refine Met.ofW (cc := cX11_nextOf) (maxL := 2) (ret := (some .int)) (by decide) rfl ?_
  intro p e s m args below meth c s₁ B hml hv
  obtain ⟨rfl, hP, hKK⟩ := hv
  have hx := B.exec
  have hb := B.bytes
  have hr := B.returns
  have hts0 := atoms_spec (ws := Cond.code yX11_nextOf cX11_nextOf 2 (some .int) :: GW) B.pre
  have hts : ∀ w ∈ GW, w.before _ s = true := fun w h => hts0 w (List.mem_cons_of_mem _ h)
  clear hts0
  have hown : s.vm.findClass RX11 = some m.cls := findClass_of_methodNamed B.named
  have hlocks := B.notSynchronized
  have hA : ∀ q, box b 21 q → box b 21 q := fun _ h => h
  have hS : va_S (box b 21) s.heap s.heap [] := va_S.rf
  have hl := lv_entry ([.ref (b + x0), .int x1]) (n := 2) (Nat.le_of_ble_eq_true rfl)
  rw [lg_entry_eq]
  generalize (lg_sl ([.ref (b + x0), .int x1]) ++ List.replicate (2 - (lg_sl ([.ref (b + x0), .int x1])).length) Slot.unset).toArray = ls at hl ⊢
  have hl : lv_has ls 2 [(0, .ref (b + x0)), (1, .int x1)] := hl
  generalize ([.ref (b + x0), .int x1] : List Value).toArray = av at hts ⊢
  show W p l e rmX11_nextOf s m av below meth c s.heap [] 0 0 _ _
  obtain ⟨QQ, hQQ⟩ : ∃ z, z = MQ below (va_Qi (fun r u => r = o1 ∧ u = (o2, L, R)) (QW D ce b kdM lnM 21) (box b 21)) av s 0 0 (box b 21) := ⟨_, rfl⟩
  rw [← hQQ]
  have hret : ∀ (r : Int32) (I1 : mI), some (r, I1) = some (o1, o2) → ∀ (H1 : Heap) (locs1 : List Loc) (ls1 : Array Slot) (pc1 : Nat), decode cX11_nextOf pc1 = .ok (.ireturn, 1) → va_P D vwCl (wd ce b kdM lnM 21 I1 L R) H1 → WT kdM R → va_S (box b 21) s.heap H1 locs1 → W p l e rmX11_nextOf s m av below meth c H1 locs1 0 0 QQ (F0 m pc1 ls1 [.int r]) := by
    intro r I1 hq H1 locs1 ls1 pc1 hd hP hT hS
    cases hq
    rw [hQQ]
    exact mm_iret hx hb hr hlocks hP hT hS hd
  unfold f_X11_nextOf at hf
  obtain ⟨H, hH⟩ : ∃ z, z = s.heap := ⟨_, rfl⟩
  obtain ⟨locs, hlo⟩ : ∃ z : List Loc, z = [] := ⟨_, rfl⟩
  have hP : va_P D vwCl (wd ce b kdM lnM 21 I L R) H := by rw [hH]; exact hP
  have hS : va_S (box b 21) s.heap H locs := by rw [hH, hlo]; exact hS
  rw [show W p l e rmX11_nextOf s m av below meth c s.heap [] 0 0 QQ = W p l e rmX11_nextOf s m av below meth c H locs 0 0 QQ by rw [hH, hlo]]
  clear hH hlo
  clear hQQ
  show W p l e rmX11_nextOf s m av below meth c H locs 0 0 QQ (F0 m 0 ls [])
  refine lv_aload_n hx hb dX11_nextOf_0 rfl (lv_at hl 0 rfl) ?_
  obtain ⟨I1, e1, hf⟩ := bd1_o hf
  refine mm_Vv (rest := []) hx hb hml hown hts hKK hP hS hA (kdM_lt h0 (Nat.succ_ne_zero _)) h0 (show vwCl[11]? = some (yX11_laysTerm.cls, TX11, 32) from rfl) vkX11_261 (k_X11_laysTerm l D ce b I L R hT x0 h0 I1 e1) rfl hl.1 rfl (Nat.le_of_ble_eq_true rfl) ⟨rfl, rfl⟩ ⟨Nat.le_of_ble_eq_true rfl, Nat.le_of_ble_eq_true rfl⟩ ⟨Nat.zero_le _, Nat.zero_le _⟩ dX11_nextOf_1 (fun H locs hP hT hS => ?_)
  refine lv_aload_n hx hb dX11_nextOf_4 rfl (lv_at hl 0 rfl) ?_
  obtain ⟨r2, I2, e2, hf⟩ := bd2_o hf
  refine mm_Vi (rest := []) hx hb hml hown hts hKK hP hS hA (kdM_lt h0 (Nat.succ_ne_zero _)) h0 (show vwCl[11]? = some (yX11_findsTurn.cls, TX11, 32) from rfl) vkX11_264 (k_X11_findsTurn l D ce b I1 L R hT x0 h0 r2 I2 e2) rfl hl.1 rfl (Nat.le_of_ble_eq_true rfl) ⟨rfl, rfl⟩ ⟨Nat.le_of_ble_eq_true rfl, Nat.le_of_ble_eq_true rfl⟩ ⟨Nat.zero_le _, Nat.zero_le _⟩ dX11_nextOf_5 (fun H locs hP hT hS => ?_)
  refine lv_if_ne (tgt := 15) hx hb dX11_nextOf_8 (by decide) (fun c3 => ?_) (fun c3 => ?_)
  · have hf := ifF hf c3
    refine lv_iload_n hx hb dX11_nextOf_15 rfl (lv_at hl 1 rfl) ?_
    refine lv_if_ne (tgt := 26) hx hb dX11_nextOf_16 (by decide) (fun c4 => ?_) (fun c4 => ?_)
    · have hf := ifF hf c4
      refine lv_aload_n hx hb dX11_nextOf_26 rfl (lv_at hl 0 rfl) ?_
      refine mm_geti hx hb hts hown hKK hP fk11_29 (Or.inl rfl) lkX11_252 (kdM_lt h0 (Nat.succ_ne_zero _)) h0 dX11_nextOf_27 ?_
      exact hret (I2 x0 29) I2 hf H locs ls _ dX11_nextOf_30 hP hT hS
    · have hf := ifT hf c4
      refine lv_aload_n hx hb dX11_nextOf_19 rfl (lv_at hl 0 rfl) ?_
      refine mm_geti hx hb hts hown hKK hP fk11_28 (Or.inl rfl) lkX11_249 (kdM_lt h0 (Nat.succ_ne_zero _)) h0 dX11_nextOf_20 ?_
      refine lv_goto (tgt := 30) hx hb dX11_nextOf_23 (by decide) ?_
      exact hret (I2 x0 28) I2 hf H locs ls _ dX11_nextOf_30 hP hT hS
  · have hf := ifT hf c3
    refine lv_iconst (v := (-1 : Int32)) hx hb dX11_nextOf_11 (by decide) ?_
    refine lv_goto (tgt := 30) hx hb dX11_nextOf_12 (by decide) ?_
    exact hret (-1 : Int32) I2 hf H locs ls _ dX11_nextOf_30 hP hT hS
def rmX11_next : Room := { frames := 7, cells := 0, slots := 0, locals := 160 }
set_option maxHeartbeats 4000000 in
set_option maxRecDepth 100000 in
theorem k_X11_next (l : Launch) (D : va_G) (ce : Nat → ClassId) (b : Nat) (I : mI) (L : mL) (R : mR) (hT : WT kdM R) (x0 : Nat) (x1 : Int32) (h0 : kdM x0 = 17) (o1 : Int32) (o2 : mI) (hf : f_X11_next x0 x1 I R = some (o1, o2)) : Met l yX11_next (Cond.code yX11_next cX11_next 2 (some .int) :: GW) rmX11_next (va_Pc [.ref (b + x0), .int x1] (PW D ce b kdM lnM 21 I L R)) (va_Qi (fun r u => r = o1 ∧ u = (o2, L, R)) (QW D ce b kdM lnM 21) (box b 21)) 0 0 (box b 21) := by
  refine Met.ofW (cc := cX11_next) (maxL := 2) (ret := (some .int)) (by decide) rfl ?_
  intro p e s m args below meth c s₁ B hml hv
  obtain ⟨rfl, hP, hKK⟩ := hv
  have hx := B.exec
  have hb := B.bytes
  have hr := B.returns
  have hts0 := atoms_spec (ws := Cond.code yX11_next cX11_next 2 (some .int) :: GW) B.pre
  have hts : ∀ w ∈ GW, w.before _ s = true := fun w h => hts0 w (List.mem_cons_of_mem _ h)
  clear hts0
  have hown : s.vm.findClass RX11 = some m.cls := findClass_of_methodNamed B.named
  have hlocks := B.notSynchronized
  have hA : ∀ q, box b 21 q → box b 21 q := fun _ h => h
  have hS : va_S (box b 21) s.heap s.heap [] := va_S.rf
  have hl := lv_entry ([.ref (b + x0), .int x1]) (n := 2) (Nat.le_of_ble_eq_true rfl)
  rw [lg_entry_eq]
  generalize (lg_sl ([.ref (b + x0), .int x1]) ++ List.replicate (2 - (lg_sl ([.ref (b + x0), .int x1])).length) Slot.unset).toArray = ls at hl ⊢
  have hl : lv_has ls 2 [(0, .ref (b + x0)), (1, .int x1)] := hl
  generalize ([.ref (b + x0), .int x1] : List Value).toArray = av at hts ⊢
  show W p l e rmX11_next s m av below meth c s.heap [] 0 0 _ _
  obtain ⟨QQ, hQQ⟩ : ∃ z, z = MQ below (va_Qi (fun r u => r = o1 ∧ u = (o2, L, R)) (QW D ce b kdM lnM 21) (box b 21)) av s 0 0 (box b 21) := ⟨_, rfl⟩
  rw [← hQQ]
  have hret : ∀ (r : Int32) (I1 : mI), some (r, I1) = some (o1, o2) → ∀ (H1 : Heap) (locs1 : List Loc) (ls1 : Array Slot) (pc1 : Nat), decode cX11_next pc1 = .ok (.ireturn, 1) → va_P D vwCl (wd ce b kdM lnM 21 I1 L R) H1 → WT kdM R → va_S (box b 21) s.heap H1 locs1 → W p l e rmX11_next s m av below meth c H1 locs1 0 0 QQ (F0 m pc1 ls1 [.int r]) := by
    intro r I1 hq H1 locs1 ls1 pc1 hd hP hT hS
    cases hq
    rw [hQQ]
    exact mm_iret hx hb hr hlocks hP hT hS hd
  unfold f_X11_next at hf
  obtain ⟨H, hH⟩ : ∃ z, z = s.heap := ⟨_, rfl⟩
  obtain ⟨locs, hlo⟩ : ∃ z : List Loc, z = [] := ⟨_, rfl⟩
  have hP : va_P D vwCl (wd ce b kdM lnM 21 I L R) H := by rw [hH]; exact hP
  have hS : va_S (box b 21) s.heap H locs := by rw [hH, hlo]; exact hS
  rw [show W p l e rmX11_next s m av below meth c s.heap [] 0 0 QQ = W p l e rmX11_next s m av below meth c H locs 0 0 QQ by rw [hH, hlo]]
  clear hH hlo
  clear hQQ
  show W p l e rmX11_next s m av below meth c H locs 0 0 QQ (F0 m 0 ls [])
  refine lv_iload_n hx hb dX11_next_0 rfl (lv_at hl 1 rfl) ?_
  refine lv_iconst (v := (0 : Int32)) hx hb dX11_next_1 (by decide) ?_
  refine lv_iconst (v := (1 : Int32)) hx hb dX11_next_2 (by decide) ?_
  obtain ⟨r1, e1, hf⟩ := bd1_o hf
  refine mm_Si (rest := []) hx hb hml hown hts hKK hP hS hA skX11_96 (k_X11_in l D ce b I L R hT x1 (0 : Int32) (1 : Int32)  r1 e1) rfl hl.1 rfl (Nat.le_of_ble_eq_true rfl) ⟨rfl, rfl⟩ ⟨Nat.le_of_ble_eq_true rfl, Nat.le_of_ble_eq_true rfl⟩ ⟨Nat.zero_le _, Nat.zero_le _⟩ dX11_next_3 (fun H locs hP hT hS => ?_)
  refine lv_if_eq (tgt := 17) hx hb dX11_next_6 (by decide) (fun c2 => ?_) (fun c2 => ?_)
  · have hf := ifT hf c2
    refine lv_aload_n hx hb dX11_next_17 rfl (lv_at hl 0 rfl) ?_
    refine lv_bipush (v := (-2 : Int32)) hx hb dX11_next_18 (by decide) ?_
    obtain ⟨r3, I3, e3, hf⟩ := bd2_o hf
    refine mm_Vi (rest := []) hx hb hml hown hts hKK hP hS hA (kdM_lt h0 (Nat.succ_ne_zero _)) h0 (show vwCl[11]? = some (yX11_refuses.cls, TX11, 32) from rfl) vkX11_80 (k_X11_refuses l D ce b I L R hT x0 (-2 : Int32) h0 r3 I3 e3) rfl hl.1 rfl (Nat.le_of_ble_eq_true rfl) ⟨rfl, rfl⟩ ⟨Nat.le_of_ble_eq_true rfl, Nat.le_of_ble_eq_true rfl⟩ ⟨Nat.zero_le _, Nat.zero_le _⟩ dX11_next_20 (fun H locs hP hT hS => ?_)
    exact hret r3 I3 hf H locs ls _ dX11_next_23 hP hT hS
  · have hf := ifF hf c2
    refine lv_aload_n hx hb dX11_next_9 rfl (lv_at hl 0 rfl) ?_
    refine lv_iload_n hx hb dX11_next_10 rfl (lv_at hl 1 rfl) ?_
    obtain ⟨r4, I4, e4, hf⟩ := bd2_o hf
    refine mm_Vi (rest := []) hx hb hml hown hts hKK hP hS hA (kdM_lt h0 (Nat.succ_ne_zero _)) h0 (show vwCl[11]? = some (yX11_nextOf.cls, TX11, 32) from rfl) vkX11_273 (k_X11_nextOf l D ce b I L R hT x0 x1 h0 r4 I4 e4) rfl hl.1 rfl (Nat.le_of_ble_eq_true rfl) ⟨rfl, rfl⟩ ⟨Nat.le_of_ble_eq_true rfl, Nat.le_of_ble_eq_true rfl⟩ ⟨Nat.zero_le _, Nat.zero_le _⟩ dX11_next_11 (fun H locs hP hT hS => ?_)
    refine lv_goto (tgt := 23) hx hb dX11_next_14 (by decide) ?_
    exact hret r4 I4 hf H locs ls _ dX11_next_23 hP hT hS
def rmX11_letter : Room := { frames := 1, cells := 0, slots := 0, locals := 21 }
set_option maxHeartbeats 4000000 in
set_option maxRecDepth 100000 in
theorem k_X11_letter (l : Launch) (D : va_G) (ce : Nat → ClassId) (b : Nat) (I : mI) (L : mL) (R : mR) (hT : WT kdM R) (x0 : Nat) (x1 : Int32) (h0 : kdM x0 = 17) (o1 : Int32) (o2 : mI) (hf : f_X11_letter x0 x1 I R = some (o1, o2)) : Met l yX11_letter (Cond.code yX11_letter cX11_letter 2 (some .int) :: GW) rmX11_letter (va_Pc [.ref (b + x0), .int x1] (PW D ce b kdM lnM 21 I L R)) (va_Qi (fun r u => r = o1 ∧ u = (o2, L, R)) (QW D ce b kdM lnM 21) (box b 21)) 0 0 (box b 21) := by
  refine Met.ofW (cc := cX11_letter) (maxL := 2) (ret := (some .int)) (by decide) rfl ?_
  intro p e s m args below meth c s₁ B hml hv
  obtain ⟨rfl, hP, hKK⟩ := hv
  have hx := B.exec
  have hb := B.bytes
  have hr := B.returns
  have hts0 := atoms_spec (ws := Cond.code yX11_letter cX11_letter 2 (some .int) :: GW) B.pre
  have hts : ∀ w ∈ GW, w.before _ s = true := fun w h => hts0 w (List.mem_cons_of_mem _ h)
  clear hts0
  have hown : s.vm.findClass RX11 = some m.cls := findClass_of_methodNamed B.named
  have hlocks := B.notSynchronized
  have hA : ∀ q, box b 21 q → box b 21 q := fun _ h => h
  have hS : va_S (box b 21) s.heap s.heap [] := va_S.rf
  have hl := lv_entry ([.ref (b + x0), .int x1]) (n := 2) (Nat.le_of_ble_eq_true rfl)
  rw [lg_entry_eq]
  generalize (lg_sl ([.ref (b + x0), .int x1]) ++ List.replicate (2 - (lg_sl ([.ref (b + x0), .int x1])).length) Slot.unset).toArray = ls at hl ⊢
  have hl : lv_has ls 2 [(0, .ref (b + x0)), (1, .int x1)] := hl
  generalize ([.ref (b + x0), .int x1] : List Value).toArray = av at hts ⊢
  show W p l e rmX11_letter s m av below meth c s.heap [] 0 0 _ _
  obtain ⟨QQ, hQQ⟩ : ∃ z, z = MQ below (va_Qi (fun r u => r = o1 ∧ u = (o2, L, R)) (QW D ce b kdM lnM 21) (box b 21)) av s 0 0 (box b 21) := ⟨_, rfl⟩
  rw [← hQQ]
  have hret : ∀ (r : Int32) (I1 : mI), some (r, I1) = some (o1, o2) → ∀ (H1 : Heap) (locs1 : List Loc) (ls1 : Array Slot) (pc1 : Nat), decode cX11_letter pc1 = .ok (.ireturn, 1) → va_P D vwCl (wd ce b kdM lnM 21 I1 L R) H1 → WT kdM R → va_S (box b 21) s.heap H1 locs1 → W p l e rmX11_letter s m av below meth c H1 locs1 0 0 QQ (F0 m pc1 ls1 [.int r]) := by
    intro r I1 hq H1 locs1 ls1 pc1 hd hP hT hS
    cases hq
    rw [hQQ]
    exact mm_iret hx hb hr hlocks hP hT hS hd
  unfold f_X11_letter at hf
  obtain ⟨H, hH⟩ : ∃ z, z = s.heap := ⟨_, rfl⟩
  obtain ⟨locs, hlo⟩ : ∃ z : List Loc, z = [] := ⟨_, rfl⟩
  have hP : va_P D vwCl (wd ce b kdM lnM 21 I L R) H := by rw [hH]; exact hP
  have hS : va_S (box b 21) s.heap H locs := by rw [hH, hlo]; exact hS
  rw [show W p l e rmX11_letter s m av below meth c s.heap [] 0 0 QQ = W p l e rmX11_letter s m av below meth c H locs 0 0 QQ by rw [hH, hlo]]
  clear hH hlo
  clear hQQ
  show W p l e rmX11_letter s m av below meth c H locs 0 0 QQ (F0 m 0 ls [])
  refine lv_iload_n hx hb dX11_letter_0 rfl (lv_at hl 1 rfl) ?_
  refine lv_iconst (v := (-1 : Int32)) hx hb dX11_letter_1 (by decide) ?_
  refine lv_icmp_ge (tgt := 12) hx hb dX11_letter_2 (by decide) (fun c1 => ?_) (fun c1 => ?_)
  · have hf := ifT hf c1
    refine lv_iload_n hx hb dX11_letter_12 rfl (lv_at hl 1 rfl) ?_
    refine lv_iconst (v := (-1 : Int32)) hx hb dX11_letter_13 (by decide) ?_
    refine lv_icmp_ne (tgt := 28) hx hb dX11_letter_14 (by decide) (fun c2 => ?_) (fun c2 => ?_)
    · have hf := ifF hf c2
      refine lv_iload_n hx hb dX11_letter_28 rfl (lv_at hl 1 rfl) ?_
      refine lv_aload_n hx hb dX11_letter_29 rfl (lv_at hl 0 rfl) ?_
      have t3 : kdM (R x0 0) = 1 := wt hT h0 rfl
      refine mm_getr hx hb hts hown hKK hP fk11_0 (Nat.le_of_ble_eq_true rfl) lkX11_7 (kdM_lt h0 (Nat.succ_ne_zero _)) h0 (nM t3 (Nat.succ_ne_zero _)) dX11_letter_30 ?_
      refine lv_sipush (v := (131 : Int32)) hx hb dX11_letter_33 (by decide) ?_
      obtain ⟨g4, hf⟩ := grd hf
      refine mm_iald hx hb hKK hP (kdM_lt t3 (Nat.succ_ne_zero _)) t3 g4 dX11_letter_36 ?_
      refine lv_icmp_ge (tgt := 53) hx hb dX11_letter_37 (by decide) (fun c5 => ?_) (fun c5 => ?_)
      · have hf := ifT hf c5
        refine lv_bipush (v := (-5 : Int32)) hx hb dX11_letter_53 (by decide) ?_
        exact hret (-5 : Int32) I hf H locs ls _ dX11_letter_55 hP hT hS
      · have hf := ifF hf c5
        refine lv_aload_n hx hb dX11_letter_40 rfl (lv_at hl 0 rfl) ?_
        refine mm_getr hx hb hts hown hKK hP fk11_0 (Nat.le_of_ble_eq_true rfl) lkX11_7 (kdM_lt h0 (Nat.succ_ne_zero _)) h0 (nM t3 (Nat.succ_ne_zero _)) dX11_letter_41 ?_
        refine lv_sipush (v := (132 : Int32)) hx hb dX11_letter_44 (by decide) ?_
        refine lv_iload_n hx hb dX11_letter_47 rfl (lv_at hl 1 rfl) ?_
        refine lv_iadd hx hb dX11_letter_48 ?_
        obtain ⟨g6, hf⟩ := grd hf
        refine mm_iald hx hb hKK hP (kdM_lt t3 (Nat.succ_ne_zero _)) t3 g6 dX11_letter_49 ?_
        refine lv_goto (tgt := 55) hx hb dX11_letter_50 (by decide) ?_
        exact hret (I (R x0 0) (((132 : Int32) + x1)).toNatClampNeg) I hf H locs ls _ dX11_letter_55 hP hT hS
    · have hf := ifT hf c2
      refine lv_aload_n hx hb dX11_letter_17 rfl (lv_at hl 0 rfl) ?_
      have t7 : kdM (R x0 0) = 1 := wt hT h0 rfl
      refine mm_getr hx hb hts hown hKK hP fk11_0 (Nat.le_of_ble_eq_true rfl) lkX11_7 (kdM_lt h0 (Nat.succ_ne_zero _)) h0 (nM t7 (Nat.succ_ne_zero _)) dX11_letter_18 ?_
      refine lv_sipush (v := (131 : Int32)) hx hb dX11_letter_21 (by decide) ?_
      obtain ⟨g8, hf⟩ := grd hf
      refine mm_iald hx hb hKK hP (kdM_lt t7 (Nat.succ_ne_zero _)) t7 g8 dX11_letter_24 ?_
      refine lv_goto (tgt := 55) hx hb dX11_letter_25 (by decide) ?_
      exact hret (I (R x0 0) ((131 : Int32)).toNatClampNeg) I hf H locs ls _ dX11_letter_55 hP hT hS
  · have hf := ifF hf c1
    refine lv_aload_n hx hb dX11_letter_5 rfl (lv_at hl 0 rfl) ?_
    refine lv_bipush (v := (-2 : Int32)) hx hb dX11_letter_6 (by decide) ?_
    obtain ⟨r9, I9, e9, hf⟩ := bd2_o hf
    refine mm_Vi (rest := []) hx hb hml hown hts hKK hP hS hA (kdM_lt h0 (Nat.succ_ne_zero _)) h0 (show vwCl[11]? = some (yX11_refuses.cls, TX11, 32) from rfl) vkX11_80 (k_X11_refuses l D ce b I L R hT x0 (-2 : Int32) h0 r9 I9 e9) rfl hl.1 rfl (Nat.le_of_ble_eq_true rfl) ⟨rfl, rfl⟩ ⟨Nat.le_of_ble_eq_true rfl, Nat.le_of_ble_eq_true rfl⟩ ⟨Nat.zero_le _, Nat.zero_le _⟩ dX11_letter_8 (fun H locs hP hT hS => ?_)
    exact hret r9 I9 hf H locs ls _ dX11_letter_11 hP hT hS
def rmX11_toldOf : Room := { frames := 0, cells := 0, slots := 0, locals := 0 }
set_option maxHeartbeats 4000000 in
set_option maxRecDepth 100000 in
theorem k_X11_toldOf (l : Launch) (D : va_G) (ce : Nat → ClassId) (b : Nat) (I : mI) (L : mL) (R : mR) (hT : WT kdM R) (x0 : Nat) (x1 : Int32) (h0 : kdM x0 = 17) (o1 : Int32) (hf : f_X11_toldOf x0 x1 I R = some o1) : Met l yX11_toldOf (Cond.code yX11_toldOf cX11_toldOf 2 (some .int) :: GW) rmX11_toldOf (va_Pc [.ref (b + x0), .int x1] (PW D ce b kdM lnM 21 I L R)) (va_Qi (fun r u => r = o1 ∧ u = (I, L, R)) (QW D ce b kdM lnM 21) (box b 21)) 0 0 (box b 21) := by
  refine Met.ofW (cc := cX11_toldOf) (maxL := 2) (ret := (some .int)) (by decide) rfl ?_
  intro p e s m args below meth c s₁ B hml hv
  obtain ⟨rfl, hP, hKK⟩ := hv
  have hx := B.exec
  have hb := B.bytes
  have hr := B.returns
  have hts0 := atoms_spec (ws := Cond.code yX11_toldOf cX11_toldOf 2 (some .int) :: GW) B.pre
  have hts : ∀ w ∈ GW, w.before _ s = true := fun w h => hts0 w (List.mem_cons_of_mem _ h)
  clear hts0
  have hown : s.vm.findClass RX11 = some m.cls := findClass_of_methodNamed B.named
  have hlocks := B.notSynchronized
  have hA : ∀ q, box b 21 q → box b 21 q := fun _ h => h
  have hS : va_S (box b 21) s.heap s.heap [] := va_S.rf
  have hl := lv_entry ([.ref (b + x0), .int x1]) (n := 2) (Nat.le_of_ble_eq_true rfl)
  rw [lg_entry_eq]
  generalize (lg_sl ([.ref (b + x0), .int x1]) ++ List.replicate (2 - (lg_sl ([.ref (b + x0), .int x1])).length) Slot.unset).toArray = ls at hl ⊢
  have hl : lv_has ls 2 [(0, .ref (b + x0)), (1, .int x1)] := hl
  generalize ([.ref (b + x0), .int x1] : List Value).toArray = av at hts ⊢
  show W p l e rmX11_toldOf s m av below meth c s.heap [] 0 0 _ _
  obtain ⟨QQ, hQQ⟩ : ∃ z, z = MQ below (va_Qi (fun r u => r = o1 ∧ u = (I, L, R)) (QW D ce b kdM lnM 21) (box b 21)) av s 0 0 (box b 21) := ⟨_, rfl⟩
  rw [← hQQ]
  have hret : ∀ (r : Int32), some r = some o1 → ∀ (H1 : Heap) (locs1 : List Loc) (ls1 : Array Slot) (pc1 : Nat), decode cX11_toldOf pc1 = .ok (.ireturn, 1) → va_P D vwCl (wd ce b kdM lnM 21 I L R) H1 → WT kdM R → va_S (box b 21) s.heap H1 locs1 → W p l e rmX11_toldOf s m av below meth c H1 locs1 0 0 QQ (F0 m pc1 ls1 [.int r]) := by
    intro r hq H1 locs1 ls1 pc1 hd hP hT hS
    cases hq
    rw [hQQ]
    exact mm_iret hx hb hr hlocks hP hT hS hd
  unfold f_X11_toldOf at hf
  obtain ⟨H, hH⟩ : ∃ z, z = s.heap := ⟨_, rfl⟩
  obtain ⟨locs, hlo⟩ : ∃ z : List Loc, z = [] := ⟨_, rfl⟩
  have hP : va_P D vwCl (wd ce b kdM lnM 21 I L R) H := by rw [hH]; exact hP
  have hS : va_S (box b 21) s.heap H locs := by rw [hH, hlo]; exact hS
  rw [show W p l e rmX11_toldOf s m av below meth c s.heap [] 0 0 QQ = W p l e rmX11_toldOf s m av below meth c H locs 0 0 QQ by rw [hH, hlo]]
  clear hH hlo
  clear hQQ
  show W p l e rmX11_toldOf s m av below meth c H locs 0 0 QQ (F0 m 0 ls [])
  refine lv_iload_n hx hb dX11_toldOf_0 rfl (lv_at hl 1 rfl) ?_
  by_cases c1 : x1 = (3 : Int32)
  · have hf := ifT hf c1
    refine lv_tableIn (off := 31) (tgt := 32) hx hb dX11_toldOf_1 (by rw [c1]; decide) (by rw [c1]; decide) (by rw [c1]; first | done | rfl) (by decide) ?_
    refine lv_aload_n hx hb dX11_toldOf_32 rfl (lv_at hl 0 rfl) ?_
    refine mm_geti hx hb hts hown hKK hP fk11_6 (Or.inl rfl) lkX11_93 (kdM_lt h0 (Nat.succ_ne_zero _)) h0 dX11_toldOf_33 ?_
    exact hret (I x0 6) hf H locs ls _ dX11_toldOf_36 hP hT hS
  · have hf := ifF hf c1
    by_cases c2 : x1 = (4 : Int32)
    · have hf := ifT hf c2
      refine lv_tableIn (off := 36) (tgt := 37) hx hb dX11_toldOf_1 (by rw [c2]; decide) (by rw [c2]; decide) (by rw [c2]; first | done | rfl) (by decide) ?_
      refine lv_aload_n hx hb dX11_toldOf_37 rfl (lv_at hl 0 rfl) ?_
      have t3 : kdM (R x0 0) = 1 := wt hT h0 rfl
      refine mm_getr hx hb hts hown hKK hP fk11_0 (Nat.le_of_ble_eq_true rfl) lkX11_7 (kdM_lt h0 (Nat.succ_ne_zero _)) h0 (nM t3 (Nat.succ_ne_zero _)) dX11_toldOf_38 ?_
      refine lv_iconst (v := (0 : Int32)) hx hb dX11_toldOf_41 (by decide) ?_
      obtain ⟨g4, hf⟩ := grd hf
      refine mm_iald hx hb hKK hP (kdM_lt t3 (Nat.succ_ne_zero _)) t3 g4 dX11_toldOf_42 ?_
      exact hret (I (R x0 0) ((0 : Int32)).toNatClampNeg) hf H locs ls _ dX11_toldOf_43 hP hT hS
    · have hf := ifF hf c2
      by_cases c5 : x1 = (5 : Int32)
      · have hf := ifT hf c5
        refine lv_tableIn (off := 43) (tgt := 44) hx hb dX11_toldOf_1 (by rw [c5]; decide) (by rw [c5]; decide) (by rw [c5]; first | done | rfl) (by decide) ?_
        refine lv_aload_n hx hb dX11_toldOf_44 rfl (lv_at hl 0 rfl) ?_
        have t6 : kdM (R x0 0) = 1 := wt hT h0 rfl
        refine mm_getr hx hb hts hown hKK hP fk11_0 (Nat.le_of_ble_eq_true rfl) lkX11_7 (kdM_lt h0 (Nat.succ_ne_zero _)) h0 (nM t6 (Nat.succ_ne_zero _)) dX11_toldOf_45 ?_
        refine lv_sipush (v := (131 : Int32)) hx hb dX11_toldOf_48 (by decide) ?_
        obtain ⟨g7, hf⟩ := grd hf
        refine mm_iald hx hb hKK hP (kdM_lt t6 (Nat.succ_ne_zero _)) t6 g7 dX11_toldOf_51 ?_
        exact hret (I (R x0 0) ((131 : Int32)).toNatClampNeg) hf H locs ls _ dX11_toldOf_52 hP hT hS
      · have hf := ifF hf c5
        by_cases c8 : x1 = (6 : Int32)
        · have hf := ifT hf c8
          refine lv_tableIn (off := 52) (tgt := 53) hx hb dX11_toldOf_1 (by rw [c8]; decide) (by rw [c8]; decide) (by rw [c8]; first | done | rfl) (by decide) ?_
          refine lv_aload_n hx hb dX11_toldOf_53 rfl (lv_at hl 0 rfl) ?_
          refine mm_geti hx hb hts hown hKK hP fk11_3 (Or.inl rfl) lkX11_72 (kdM_lt h0 (Nat.succ_ne_zero _)) h0 dX11_toldOf_54 ?_
          exact hret (I x0 3) hf H locs ls _ dX11_toldOf_57 hP hT hS
        · have hf := ifF hf c8
          have qc1 := lv_neT c1 (a := 3) rfl
          have qc2 := lv_neT c2 (a := 4) rfl
          have qc5 := lv_neT c5 (a := 5) rfl
          have qc8 := lv_neT c8 (a := 6) rfl
          refine lv_tableOut (tgt := 58) hx hb dX11_toldOf_1 (by omega) (by decide) ?_
          refine lv_aload_n hx hb dX11_toldOf_58 rfl (lv_at hl 0 rfl) ?_
          have t9 : kdM (R x0 4) = 1 := wt hT h0 rfl
          refine mm_getr hx hb hts hown hKK hP fk11_4 (Nat.le_of_ble_eq_true rfl) lkX11_19 (kdM_lt h0 (Nat.succ_ne_zero _)) h0 (nM t9 (Nat.succ_ne_zero _)) dX11_toldOf_59 ?_
          refine lv_iload_n hx hb dX11_toldOf_62 rfl (lv_at hl 1 rfl) ?_
          obtain ⟨g10, hf⟩ := grd hf
          refine mm_iald hx hb hKK hP (kdM_lt t9 (Nat.succ_ne_zero _)) t9 g10 dX11_toldOf_63 ?_
          exact hret (I (R x0 4) x1.toNatClampNeg) hf H locs ls _ dX11_toldOf_64 hP hT hS
def rmX11_told : Room := { frames := 1, cells := 0, slots := 0, locals := 22 }
set_option maxHeartbeats 4000000 in
set_option maxRecDepth 100000 in
theorem k_X11_told (l : Launch) (D : va_G) (ce : Nat → ClassId) (b : Nat) (I : mI) (L : mL) (R : mR) (hT : WT kdM R) (x0 : Nat) (x1 : Int32) (h0 : kdM x0 = 17) (o1 : Int32) (o2 : mI) (hf : f_X11_told x0 x1 I R = some (o1, o2)) : Met l yX11_told (Cond.code yX11_told cX11_told 2 (some .int) :: GW) rmX11_told (va_Pc [.ref (b + x0), .int x1] (PW D ce b kdM lnM 21 I L R)) (va_Qi (fun r u => r = o1 ∧ u = (o2, L, R)) (QW D ce b kdM lnM 21) (box b 21)) 0 0 (box b 21) := by
  refine Met.ofW (cc := cX11_told) (maxL := 2) (ret := (some .int)) (by decide) rfl ?_
  intro p e s m args below meth c s₁ B hml hv
  obtain ⟨rfl, hP, hKK⟩ := hv
  have hx := B.exec
  have hb := B.bytes
  have hr := B.returns
  have hts0 := atoms_spec (ws := Cond.code yX11_told cX11_told 2 (some .int) :: GW) B.pre
  have hts : ∀ w ∈ GW, w.before _ s = true := fun w h => hts0 w (List.mem_cons_of_mem _ h)
  clear hts0
  have hown : s.vm.findClass RX11 = some m.cls := findClass_of_methodNamed B.named
  have hlocks := B.notSynchronized
  have hA : ∀ q, box b 21 q → box b 21 q := fun _ h => h
  have hS : va_S (box b 21) s.heap s.heap [] := va_S.rf
  have hl := lv_entry ([.ref (b + x0), .int x1]) (n := 2) (Nat.le_of_ble_eq_true rfl)
  rw [lg_entry_eq]
  generalize (lg_sl ([.ref (b + x0), .int x1]) ++ List.replicate (2 - (lg_sl ([.ref (b + x0), .int x1])).length) Slot.unset).toArray = ls at hl ⊢
  have hl : lv_has ls 2 [(0, .ref (b + x0)), (1, .int x1)] := hl
  generalize ([.ref (b + x0), .int x1] : List Value).toArray = av at hts ⊢
  show W p l e rmX11_told s m av below meth c s.heap [] 0 0 _ _
  obtain ⟨QQ, hQQ⟩ : ∃ z, z = MQ below (va_Qi (fun r u => r = o1 ∧ u = (o2, L, R)) (QW D ce b kdM lnM 21) (box b 21)) av s 0 0 (box b 21) := ⟨_, rfl⟩
  rw [← hQQ]
  have hret : ∀ (r : Int32) (I1 : mI), some (r, I1) = some (o1, o2) → ∀ (H1 : Heap) (locs1 : List Loc) (ls1 : Array Slot) (pc1 : Nat), decode cX11_told pc1 = .ok (.ireturn, 1) → va_P D vwCl (wd ce b kdM lnM 21 I1 L R) H1 → WT kdM R → va_S (box b 21) s.heap H1 locs1 → W p l e rmX11_told s m av below meth c H1 locs1 0 0 QQ (F0 m pc1 ls1 [.int r]) := by
    intro r I1 hq H1 locs1 ls1 pc1 hd hP hT hS
    cases hq
    rw [hQQ]
    exact mm_iret hx hb hr hlocks hP hT hS hd
  unfold f_X11_told at hf
  obtain ⟨H, hH⟩ : ∃ z, z = s.heap := ⟨_, rfl⟩
  obtain ⟨locs, hlo⟩ : ∃ z : List Loc, z = [] := ⟨_, rfl⟩
  have hP : va_P D vwCl (wd ce b kdM lnM 21 I L R) H := by rw [hH]; exact hP
  have hS : va_S (box b 21) s.heap H locs := by rw [hH, hlo]; exact hS
  rw [show W p l e rmX11_told s m av below meth c s.heap [] 0 0 QQ = W p l e rmX11_told s m av below meth c H locs 0 0 QQ by rw [hH, hlo]]
  clear hH hlo
  clear hQQ
  show W p l e rmX11_told s m av below meth c H locs 0 0 QQ (F0 m 0 ls [])
  refine lv_iload_n hx hb dX11_told_0 rfl (lv_at hl 1 rfl) ?_
  refine lv_iconst (v := (0 : Int32)) hx hb dX11_told_1 (by decide) ?_
  refine lv_bipush (v := (6 : Int32)) hx hb dX11_told_2 (by decide) ?_
  obtain ⟨r1, e1, hf⟩ := bd1_o hf
  refine mm_Si (rest := []) hx hb hml hown hts hKK hP hS hA skX11_96 (k_X11_in l D ce b I L R hT x1 (0 : Int32) (6 : Int32)  r1 e1) rfl hl.1 rfl (Nat.le_of_ble_eq_true rfl) ⟨rfl, rfl⟩ ⟨Nat.le_of_ble_eq_true rfl, Nat.le_of_ble_eq_true rfl⟩ ⟨Nat.zero_le _, Nat.zero_le _⟩ dX11_told_4 (fun H locs hP hT hS => ?_)
  refine lv_if_eq (tgt := 18) hx hb dX11_told_7 (by decide) (fun c2 => ?_) (fun c2 => ?_)
  · have hf := ifT hf c2
    refine lv_aload_n hx hb dX11_told_18 rfl (lv_at hl 0 rfl) ?_
    refine lv_bipush (v := (-2 : Int32)) hx hb dX11_told_19 (by decide) ?_
    obtain ⟨r3, I3, e3, hf⟩ := bd2_o hf
    refine mm_Vi (rest := []) hx hb hml hown hts hKK hP hS hA (kdM_lt h0 (Nat.succ_ne_zero _)) h0 (show vwCl[11]? = some (yX11_refuses.cls, TX11, 32) from rfl) vkX11_80 (k_X11_refuses l D ce b I L R hT x0 (-2 : Int32) h0 r3 I3 e3) rfl hl.1 rfl (Nat.le_of_ble_eq_true rfl) ⟨rfl, rfl⟩ ⟨Nat.le_of_ble_eq_true rfl, Nat.le_of_ble_eq_true rfl⟩ ⟨Nat.zero_le _, Nat.zero_le _⟩ dX11_told_21 (fun H locs hP hT hS => ?_)
    exact hret r3 I3 hf H locs ls _ dX11_told_24 hP hT hS
  · have hf := ifF hf c2
    refine lv_aload_n hx hb dX11_told_10 rfl (lv_at hl 0 rfl) ?_
    refine lv_iload_n hx hb dX11_told_11 rfl (lv_at hl 1 rfl) ?_
    obtain ⟨r4, e4, hf⟩ := bd1_o hf
    refine mm_Vi (rest := []) hx hb hml hown hts hKK hP hS hA (kdM_lt h0 (Nat.succ_ne_zero _)) h0 (show vwCl[11]? = some (yX11_toldOf.cls, TX11, 32) from rfl) vkX11_276 (k_X11_toldOf l D ce b I L R hT x0 x1 h0 r4 e4) rfl hl.1 rfl (Nat.le_of_ble_eq_true rfl) ⟨rfl, rfl⟩ ⟨Nat.le_of_ble_eq_true rfl, Nat.le_of_ble_eq_true rfl⟩ ⟨Nat.zero_le _, Nat.zero_le _⟩ dX11_told_12 (fun H locs hP hT hS => ?_)
    refine lv_goto (tgt := 24) hx hb dX11_told_15 (by decide) ?_
    exact hret r4 I hf H locs ls _ dX11_told_24 hP hT hS
def rmX11_mix : Room := { frames := 0, cells := 0, slots := 0, locals := 0 }
set_option maxHeartbeats 4000000 in
set_option maxRecDepth 100000 in
theorem k_X11_mix (l : Launch) (D : va_G) (ce : Nat → ClassId) (b : Nat) (I : mI) (L : mL) (R : mR) (hT : WT kdM R) (x0 : Nat) (x1 : Int64) (h0 : kdM x0 = 17) (o1 : mL) (hf : f_X11_mix x0 x1 L = some o1) : Met l yX11_mix (Cond.code yX11_mix cX11_mix 3 none :: GW) rmX11_mix (va_Pc [.ref (b + x0), .long x1] (PW D ce b kdM lnM 21 I L R)) (va_Qv (fun u => u = (I, o1, R)) (QW D ce b kdM lnM 21) (box b 21)) 0 0 (box b 21) := by
  refine Met.ofW (cc := cX11_mix) (maxL := 3) (ret := none) (by decide) rfl ?_
  intro p e s m args below meth c s₁ B hml hv
  obtain ⟨rfl, hP, hKK⟩ := hv
  have hx := B.exec
  have hb := B.bytes
  have hr := B.returns
  have hts0 := atoms_spec (ws := Cond.code yX11_mix cX11_mix 3 none :: GW) B.pre
  have hts : ∀ w ∈ GW, w.before _ s = true := fun w h => hts0 w (List.mem_cons_of_mem _ h)
  clear hts0
  have hown : s.vm.findClass RX11 = some m.cls := findClass_of_methodNamed B.named
  have hlocks := B.notSynchronized
  have hA : ∀ q, box b 21 q → box b 21 q := fun _ h => h
  have hS : va_S (box b 21) s.heap s.heap [] := va_S.rf
  have hl := lv_entry ([.ref (b + x0), .long x1]) (n := 3) (Nat.le_of_ble_eq_true rfl)
  rw [lg_entry_eq]
  generalize (lg_sl ([.ref (b + x0), .long x1]) ++ List.replicate (3 - (lg_sl ([.ref (b + x0), .long x1])).length) Slot.unset).toArray = ls at hl ⊢
  have hl : lv_has ls 3 [(0, .ref (b + x0)), (1, .long x1)] := hl
  generalize ([.ref (b + x0), .long x1] : List Value).toArray = av at hts ⊢
  show W p l e rmX11_mix s m av below meth c s.heap [] 0 0 _ _
  obtain ⟨QQ, hQQ⟩ : ∃ z, z = MQ below (va_Qv (fun u => u = (I, o1, R)) (QW D ce b kdM lnM 21) (box b 21)) av s 0 0 (box b 21) := ⟨_, rfl⟩
  rw [← hQQ]
  have hret : ∀ (L1 : mL), some L1 = some o1 → ∀ (H1 : Heap) (locs1 : List Loc) (ls1 : Array Slot) (pc1 : Nat), decode cX11_mix pc1 = .ok (.return_, 1) → va_P D vwCl (wd ce b kdM lnM 21 I L1 R) H1 → WT kdM R → va_S (box b 21) s.heap H1 locs1 → W p l e rmX11_mix s m av below meth c H1 locs1 0 0 QQ (F0 m pc1 ls1 []) := by
    intro L1 hq H1 locs1 ls1 pc1 hd hP hT hS
    cases hq
    rw [hQQ]
    exact mm_vret hx hb hr hlocks hP hT hS hd
  unfold f_X11_mix at hf
  obtain ⟨H, hH⟩ : ∃ z, z = s.heap := ⟨_, rfl⟩
  obtain ⟨locs, hlo⟩ : ∃ z : List Loc, z = [] := ⟨_, rfl⟩
  have hP : va_P D vwCl (wd ce b kdM lnM 21 I L R) H := by rw [hH]; exact hP
  have hS : va_S (box b 21) s.heap H locs := by rw [hH, hlo]; exact hS
  rw [show W p l e rmX11_mix s m av below meth c s.heap [] 0 0 QQ = W p l e rmX11_mix s m av below meth c H locs 0 0 QQ by rw [hH, hlo]]
  clear hH hlo
  clear hQQ
  show W p l e rmX11_mix s m av below meth c H locs 0 0 QQ (F0 m 0 ls [])
  refine lv_aload_n hx hb dX11_mix_0 rfl (lv_at hl 0 rfl) ?_
  refine lv_ldc2 (v := (31 : Int64)) hx hb hown (hts _ cwX11_279) dX11_mix_1 ?_
  refine lv_aload_n hx hb dX11_mix_4 rfl (lv_at hl 0 rfl) ?_
  refine mm_getl hx hb hts hown hKK hP fk11_31 lkX11_281 (kdM_lt h0 (Nat.succ_ne_zero _)) h0 dX11_mix_5 ?_
  refine lv_lmul hx hb dX11_mix_8 ?_
  refine lv_lload_n hx hb dX11_mix_9 rfl (lv_at hl 1 rfl) ?_
  refine lv_ladd hx hb dX11_mix_10 ?_
  refine jnE hf (fun L1 eL1 hf => ?_)
  refine mm_putl hx hb hts hown hKK hP hA hS fk11_31 fw11_31 lkX11_281 (kdM_lt h0 (Nat.succ_ne_zero _)) h0 rfl rfl dX11_mix_11 (fun H locs hP hS => ?_)
  rw [← eL1] at hP
  exact hret L1 hf H locs ls _ dX11_mix_14 hP hT hS
def rmX11_digest : Room := { frames := 7, cells := 0, slots := 0, locals := 170 }
set_option maxHeartbeats 4000000 in
set_option maxRecDepth 100000 in
theorem k_X11_digest (l : Launch) (D : va_G) (ce : Nat → ClassId) (b : Nat) (I : mI) (L : mL) (R : mR) (hT : WT kdM R) (x0 : Nat) (h0 : kdM x0 = 17) (o1 : Int64) (o2 : mI) (o3 : mL) (hf : f_X11_digest x0 I L R = some (o1, o2, o3)) : Met l yX11_digest (Cond.code yX11_digest cX11_digest 3 (some .long) :: GW) rmX11_digest (va_Pc [.ref (b + x0)] (PW D ce b kdM lnM 21 I L R)) (va_Ql (fun r u => r = o1 ∧ u = (o2, o3, R)) (QW D ce b kdM lnM 21) (box b 21)) 0 0 (box b 21) := by
  refine Met.ofW (cc := cX11_digest) (maxL := 3) (ret := (some .long)) (by decide) rfl ?_
  intro p e s m args below meth c s₁ B hml hv
  obtain ⟨rfl, hP, hKK⟩ := hv
  have hx := B.exec
  have hb := B.bytes
  have hr := B.returns
  have hts0 := atoms_spec (ws := Cond.code yX11_digest cX11_digest 3 (some .long) :: GW) B.pre
  have hts : ∀ w ∈ GW, w.before _ s = true := fun w h => hts0 w (List.mem_cons_of_mem _ h)
  clear hts0
  have hown : s.vm.findClass RX11 = some m.cls := findClass_of_methodNamed B.named
  have hlocks := B.notSynchronized
  have hA : ∀ q, box b 21 q → box b 21 q := fun _ h => h
  have hS : va_S (box b 21) s.heap s.heap [] := va_S.rf
  have hl := lv_entry ([.ref (b + x0)]) (n := 3) (Nat.le_of_ble_eq_true rfl)
  rw [lg_entry_eq]
  generalize (lg_sl ([.ref (b + x0)]) ++ List.replicate (3 - (lg_sl ([.ref (b + x0)])).length) Slot.unset).toArray = ls at hl ⊢
  have hl : lv_has ls 3 [(0, .ref (b + x0))] := hl
  generalize ([.ref (b + x0)] : List Value).toArray = av at hts ⊢
  show W p l e rmX11_digest s m av below meth c s.heap [] 0 0 _ _
  obtain ⟨QQ, hQQ⟩ : ∃ z, z = MQ below (va_Ql (fun r u => r = o1 ∧ u = (o2, o3, R)) (QW D ce b kdM lnM 21) (box b 21)) av s 0 0 (box b 21) := ⟨_, rfl⟩
  rw [← hQQ]
  have hret : ∀ (r : Int64) (I1 : mI) (L1 : mL), some (r, I1, L1) = some (o1, o2, o3) → ∀ (H1 : Heap) (locs1 : List Loc) (ls1 : Array Slot) (pc1 : Nat), decode cX11_digest pc1 = .ok (.lreturn, 1) → va_P D vwCl (wd ce b kdM lnM 21 I1 L1 R) H1 → WT kdM R → va_S (box b 21) s.heap H1 locs1 → W p l e rmX11_digest s m av below meth c H1 locs1 0 0 QQ (F0 m pc1 ls1 [.long r]) := by
    intro r I1 L1 hq H1 locs1 ls1 pc1 hd hP hT hS
    cases hq
    rw [hQQ]
    exact mm_lret hx hb hr hlocks hP hT hS hd
  unfold f_X11_digest at hf
  obtain ⟨H, hH⟩ : ∃ z, z = s.heap := ⟨_, rfl⟩
  obtain ⟨locs, hlo⟩ : ∃ z : List Loc, z = [] := ⟨_, rfl⟩
  have hP : va_P D vwCl (wd ce b kdM lnM 21 I L R) H := by rw [hH]; exact hP
  have hS : va_S (box b 21) s.heap H locs := by rw [hH, hlo]; exact hS
  rw [show W p l e rmX11_digest s m av below meth c s.heap [] 0 0 QQ = W p l e rmX11_digest s m av below meth c H locs 0 0 QQ by rw [hH, hlo]]
  clear hH hlo
  clear hQQ
  show W p l e rmX11_digest s m av below meth c H locs 0 0 QQ (F0 m 0 ls [])
  refine lv_aload_n hx hb dX11_digest_0 rfl (lv_at hl 0 rfl) ?_
  refine lv_ldc2 (v := (2609 : Int64)) hx hb hown (hts _ cwX11_285) dX11_digest_1 ?_
  refine jnE hf (fun L1 eL1 hf => ?_)
  refine mm_putl hx hb hts hown hKK hP hA hS fk11_31 fw11_31 lkX11_281 (kdM_lt h0 (Nat.succ_ne_zero _)) h0 rfl rfl dX11_digest_4 (fun H locs hP hS => ?_)
  rw [← eL1] at hP
  refine lv_iconst (v := (0 : Int32)) hx hb dX11_digest_7 (by decide) ?_
  refine lv_istore_n (lv' := [(1, .int (0 : Int32)), (0, .ref (b + x0))]) hx hb dX11_digest_8 rfl hl (Nat.le_of_ble_eq_true rfl) rfl (fun ls hl => ?_)
  have lp9 : ∀ (n : Nat) (x0 : Nat) (x1 : Int32) (I : mI) (L : mL) (R : mR) (a1 : mL) (H : Heap) (locs : List Loc) (ls : Array Slot), va_P D vwCl (wd ce b kdM lnM 21 I L R) H → va_S (box b 21) s.heap H locs → WT kdM R → kdM x0 = 17 → lv_has ls 3 [(0, .ref (b + x0)), (1, .int x1)] → f_X11_digest_L9 n x0 x1 I L R = some a1 → (∀ (H1 : Heap) (locs1 : List Loc) (ls1 : Array Slot), va_P D vwCl (wd ce b kdM lnM 21 I a1 R) H1 → va_S (box b 21) s.heap H1 locs1 → lv_has ls1 3 [(0, .ref (b + x0))] → W p l e rmX11_digest s m av below meth c H1 locs1 0 0 QQ (F0 m 31 ls1 [])) → W p l e rmX11_digest s m av below meth c H locs 0 0 QQ (F0 m 9 ls []) := by
    intro n
    induction n with
    | zero =>
      intro x0 x1 I L R a1 H locs ls hP hS hT h0 hl hf kx
      exact absurd (show (none : Option (mL)) = some _ from hf) (by simp)
    | succ n ih =>
      intro x0 x1 I L R a1 H locs ls hP hS hT h0 hl hf kx
      rw [f_X11_digest_L9] at hf
      refine lv_iload_n hx hb dX11_digest_9 rfl (lv_at hl 1 rfl) ?_
      refine lv_bipush (v := (7 : Int32)) hx hb dX11_digest_10 (by decide) ?_
      refine lv_icmp_ge (tgt := 31) hx hb dX11_digest_12 (by decide) (fun c2 => ?_) (fun c2 => ?_)
      · have hf := ifT hf c2
        cases hf
        exact kx H locs ls hP hS (lv_sub hl [0] rfl)
      · have hf := ifF hf c2
        refine lv_aload_n hx hb dX11_digest_15 rfl (lv_at hl 0 rfl) ?_
        refine lv_aload_n hx hb dX11_digest_16 rfl (lv_at hl 0 rfl) ?_
        refine lv_iload_n hx hb dX11_digest_17 rfl (lv_at hl 1 rfl) ?_
        obtain ⟨r3, e3, hf⟩ := bd1_o hf
        refine mm_Vi (rest := [.ref (b + x0)]) hx hb hml hown hts hKK hP hS hA (kdM_lt h0 (Nat.succ_ne_zero _)) h0 (show vwCl[11]? = some (yX11_toldOf.cls, TX11, 32) from rfl) vkX11_276 (k_X11_toldOf l D ce b I L R hT x0 x1 h0 r3 e3) rfl hl.1 rfl (Nat.le_of_ble_eq_true rfl) ⟨rfl, rfl⟩ ⟨Nat.le_of_ble_eq_true rfl, Nat.le_of_ble_eq_true rfl⟩ ⟨Nat.zero_le _, Nat.zero_le _⟩ dX11_digest_18 (fun H locs hP hT hS => ?_)
        refine lv_i2l (v := (r3).toInt64) hx hb dX11_digest_21 rfl ?_
        obtain ⟨L4, e4, hf⟩ := bd1_o hf
        refine mm_Vv (rest := []) hx hb hml hown hts hKK hP hS hA (kdM_lt h0 (Nat.succ_ne_zero _)) h0 (show vwCl[11]? = some (yX11_mix.cls, TX11, 32) from rfl) vkX11_287 (k_X11_mix l D ce b I L R hT x0 ((r3).toInt64) h0 L4 e4) rfl hl.1 rfl (Nat.le_of_ble_eq_true rfl) ⟨rfl, rfl⟩ ⟨Nat.le_of_ble_eq_true rfl, Nat.le_of_ble_eq_true rfl⟩ ⟨Nat.zero_le _, Nat.zero_le _⟩ dX11_digest_22 (fun H locs hP hT hS => ?_)
        refine lv_iinc (v := (x1 + (1 : Int32))) (lv' := [(1, .int (x1 + (1 : Int32))), (0, .ref (b + x0))]) hx hb dX11_digest_25 hl (k := 1) rfl rfl (Nat.le_of_ble_eq_true rfl) rfl (fun ls hl => ?_)
        refine lv_goto (tgt := 9) hx hb dX11_digest_28 (by decide) ?_
        exact ih x0 (x1 + (1 : Int32)) I L4 R a1 H locs ls hP hS hT h0 (lv_sub hl [1, 0] rfl) hf kx
  obtain ⟨L_5, e_5, hf⟩ := bd1_o hf
  refine lp9 FU x0 (0 : Int32) I L1 R L_5 H locs ls hP hS hT h0 (lv_sub hl [1, 0] rfl) e_5 (fun H locs ls hP hS hl => ?_)
  refine lv_iconst (v := (0 : Int32)) hx hb dX11_digest_31 (by decide) ?_
  refine lv_istore_n (lv' := [(1, .int (0 : Int32)), (0, .ref (b + x0))]) hx hb dX11_digest_32 rfl hl (Nat.le_of_ble_eq_true rfl) rfl (fun ls hl => ?_)
  have lp33 : ∀ (n : Nat) (x0 : Nat) (x1 : Int32) (I : mI) (L : mL) (R : mR) (a1 : mI) (a2 : mL) (H : Heap) (locs : List Loc) (ls : Array Slot), va_P D vwCl (wd ce b kdM lnM 21 I L R) H → va_S (box b 21) s.heap H locs → WT kdM R → kdM x0 = 17 → lv_has ls 3 [(0, .ref (b + x0)), (1, .int x1)] → f_X11_digest_L33 n x0 x1 I L R = some (a1, a2) → (∀ (H1 : Heap) (locs1 : List Loc) (ls1 : Array Slot), va_P D vwCl (wd ce b kdM lnM 21 a1 a2 R) H1 → va_S (box b 21) s.heap H1 locs1 → lv_has ls1 3 [(0, .ref (b + x0))] → W p l e rmX11_digest s m av below meth c H1 locs1 0 0 QQ (F0 m 93 ls1 [])) → W p l e rmX11_digest s m av below meth c H locs 0 0 QQ (F0 m 33 ls []) := by
    intro n
    induction n with
    | zero =>
      intro x0 x1 I L R a1 a2 H locs ls hP hS hT h0 hl hf kx
      exact absurd (show (none : Option (mI × mL)) = some _ from hf) (by simp)
    | succ n ih =>
      intro x0 x1 I L R a1 a2 H locs ls hP hS hT h0 hl hf kx
      rw [f_X11_digest_L33] at hf
      refine lv_iload_n hx hb dX11_digest_33 rfl (lv_at hl 1 rfl) ?_
      refine lv_aload_n hx hb dX11_digest_34 rfl (lv_at hl 0 rfl) ?_
      have t6 : kdM (R x0 0) = 1 := wt hT h0 rfl
      refine mm_getr hx hb hts hown hKK hP fk11_0 (Nat.le_of_ble_eq_true rfl) lkX11_7 (kdM_lt h0 (Nat.succ_ne_zero _)) h0 (nM t6 (Nat.succ_ne_zero _)) dX11_digest_35 ?_
      refine lv_iconst (v := (0 : Int32)) hx hb dX11_digest_38 (by decide) ?_
      obtain ⟨g7, hf⟩ := grd hf
      refine mm_iald hx hb hKK hP (kdM_lt t6 (Nat.succ_ne_zero _)) t6 g7 dX11_digest_39 ?_
      refine lv_icmp_ge (tgt := 93) hx hb dX11_digest_40 (by decide) (fun c8 => ?_) (fun c8 => ?_)
      · have hf := ifT hf c8
        cases hf
        exact kx H locs ls hP hS (lv_sub hl [0] rfl)
      · have hf := ifF hf c8
        refine lv_iconst (v := (0 : Int32)) hx hb dX11_digest_43 (by decide) ?_
        refine lv_istore_n (lv' := [(2, .int (0 : Int32)), (0, .ref (b + x0)), (1, .int x1)]) hx hb dX11_digest_44 rfl hl (Nat.le_of_ble_eq_true rfl) rfl (fun ls hl => ?_)
        have lp45 : ∀ (n : Nat) (x0 : Nat) (x1 : Int32) (x2 : Int32) (I : mI) (L : mL) (R : mR) (a1 : mL) (H : Heap) (locs : List Loc) (ls : Array Slot), va_P D vwCl (wd ce b kdM lnM 21 I L R) H → va_S (box b 21) s.heap H locs → WT kdM R → kdM x0 = 17 → lv_has ls 3 [(0, .ref (b + x0)), (1, .int x1), (2, .int x2)] → f_X11_digest_L45 n x0 x1 x2 I L R = some a1 → (∀ (H1 : Heap) (locs1 : List Loc) (ls1 : Array Slot), va_P D vwCl (wd ce b kdM lnM 21 I a1 R) H1 → va_S (box b 21) s.heap H1 locs1 → lv_has ls1 3 [(0, .ref (b + x0)), (1, .int x1)] → W p l e rmX11_digest s m av below meth c H1 locs1 0 0 QQ (F0 m 68 ls1 [])) → W p l e rmX11_digest s m av below meth c H locs 0 0 QQ (F0 m 45 ls []) := by
          intro n
          induction n with
          | zero =>
            intro x0 x1 x2 I L R a1 H locs ls hP hS hT h0 hl hf kx
            exact absurd (show (none : Option (mL)) = some _ from hf) (by simp)
          | succ n ih =>
            intro x0 x1 x2 I L R a1 H locs ls hP hS hT h0 hl hf kx
            rw [f_X11_digest_L45] at hf
            refine lv_iload_n hx hb dX11_digest_45 rfl (lv_at hl 2 rfl) ?_
            refine lv_bipush (v := (6 : Int32)) hx hb dX11_digest_46 (by decide) ?_
            refine lv_icmp_ge (tgt := 68) hx hb dX11_digest_48 (by decide) (fun c9 => ?_) (fun c9 => ?_)
            · have hf := ifT hf c9
              cases hf
              exact kx H locs ls hP hS (lv_sub hl [0, 1] rfl)
            · have hf := ifF hf c9
              refine lv_aload_n hx hb dX11_digest_51 rfl (lv_at hl 0 rfl) ?_
              refine lv_aload_n hx hb dX11_digest_52 rfl (lv_at hl 0 rfl) ?_
              refine lv_iload_n hx hb dX11_digest_53 rfl (lv_at hl 1 rfl) ?_
              refine lv_iload_n hx hb dX11_digest_54 rfl (lv_at hl 2 rfl) ?_
              obtain ⟨r10, e10, hf⟩ := bd1_o hf
              refine mm_Vi (rest := [.ref (b + x0)]) hx hb hml hown hts hKK hP hS hA (kdM_lt h0 (Nat.succ_ne_zero _)) h0 (show vwCl[11]? = some (yX11_ruleTold.cls, TX11, 32) from rfl) vkX11_168 (k_X11_ruleTold l D ce b I L R hT x0 x1 x2 h0 r10 e10) rfl hl.1 rfl (Nat.le_of_ble_eq_true rfl) ⟨rfl, rfl⟩ ⟨Nat.le_of_ble_eq_true rfl, Nat.le_of_ble_eq_true rfl⟩ ⟨Nat.zero_le _, Nat.zero_le _⟩ dX11_digest_55 (fun H locs hP hT hS => ?_)
              refine lv_i2l (v := (r10).toInt64) hx hb dX11_digest_58 rfl ?_
              obtain ⟨L11, e11, hf⟩ := bd1_o hf
              refine mm_Vv (rest := []) hx hb hml hown hts hKK hP hS hA (kdM_lt h0 (Nat.succ_ne_zero _)) h0 (show vwCl[11]? = some (yX11_mix.cls, TX11, 32) from rfl) vkX11_287 (k_X11_mix l D ce b I L R hT x0 ((r10).toInt64) h0 L11 e11) rfl hl.1 rfl (Nat.le_of_ble_eq_true rfl) ⟨rfl, rfl⟩ ⟨Nat.le_of_ble_eq_true rfl, Nat.le_of_ble_eq_true rfl⟩ ⟨Nat.zero_le _, Nat.zero_le _⟩ dX11_digest_59 (fun H locs hP hT hS => ?_)
              refine lv_iinc (v := (x2 + (1 : Int32))) (lv' := [(2, .int (x2 + (1 : Int32))), (0, .ref (b + x0)), (1, .int x1)]) hx hb dX11_digest_62 hl (k := 2) rfl rfl (Nat.le_of_ble_eq_true rfl) rfl (fun ls hl => ?_)
              refine lv_goto (tgt := 45) hx hb dX11_digest_65 (by decide) ?_
              exact ih x0 x1 (x2 + (1 : Int32)) I L11 R a1 H locs ls hP hS hT h0 (lv_sub hl [1, 2, 0] rfl) hf kx
        obtain ⟨L_12, e_12, hf⟩ := bd1_o hf
        refine lp45 FU x0 x1 (0 : Int32) I L R L_12 H locs ls hP hS hT h0 (lv_sub hl [1, 2, 0] rfl) e_12 (fun H locs ls hP hS hl => ?_)
        refine lv_aload_n hx hb dX11_digest_68 rfl (lv_at hl 0 rfl) ?_
        refine lv_ldcw (v := (1111111 : Int32)) hx hb hown (hts _ cwX11_291) dX11_digest_69 ?_
        refine lv_iconst (v := (3 : Int32)) hx hb dX11_digest_72 (by decide) ?_
        obtain ⟨r13, I13, e13, hf⟩ := bd2_o hf
        refine mm_Vi (rest := []) hx hb hml hown hts hKK hP hS hA (kdM_lt h0 (Nat.succ_ne_zero _)) h0 (show vwCl[11]? = some (yX11_laysFigures.cls, TX11, 32) from rfl) vkX11_194 (k_X11_laysFigures l D ce b I L_12 R hT x0 (1111111 : Int32) (3 : Int32) h0 r13 I13 e13) rfl hl.1 rfl (Nat.le_of_ble_eq_true rfl) ⟨rfl, rfl⟩ ⟨Nat.le_of_ble_eq_true rfl, Nat.le_of_ble_eq_true rfl⟩ ⟨Nat.zero_le _, Nat.zero_le _⟩ dX11_digest_73 (fun H locs hP hT hS => ?_)
        refine lv_istore_n (lv' := [(2, .int r13), (0, .ref (b + x0)), (1, .int x1)]) hx hb dX11_digest_76 rfl hl (Nat.le_of_ble_eq_true rfl) rfl (fun ls hl => ?_)
        refine lv_aload_n hx hb dX11_digest_77 rfl (lv_at hl 1 rfl) ?_
        refine lv_aload_n hx hb dX11_digest_78 rfl (lv_at hl 1 rfl) ?_
        refine lv_iload_n hx hb dX11_digest_79 rfl (lv_at hl 2 rfl) ?_
        obtain ⟨r14, L14, e14, hf⟩ := bd2_o hf
        refine mm_Vi (rest := [.ref (b + x0)]) hx hb hml hown hts hKK hP hS hA (kdM_lt h0 (Nat.succ_ne_zero _)) h0 (show vwCl[11]? = some (yX11_comparesRule.cls, TX11, 32) from rfl) vkX11_191 (k_X11_comparesRule l D ce b I13 L_12 R hT x0 x1 h0 r14 L14 e14) rfl hl.1 rfl (Nat.le_of_ble_eq_true rfl) ⟨rfl, rfl⟩ ⟨Nat.le_of_ble_eq_true rfl, Nat.le_of_ble_eq_true rfl⟩ ⟨Nat.zero_le _, Nat.zero_le _⟩ dX11_digest_80 (fun H locs hP hT hS => ?_)
        refine lv_i2l (v := (r14).toInt64) hx hb dX11_digest_83 rfl ?_
        obtain ⟨L15, e15, hf⟩ := bd1_o hf
        refine mm_Vv (rest := []) hx hb hml hown hts hKK hP hS hA (kdM_lt h0 (Nat.succ_ne_zero _)) h0 (show vwCl[11]? = some (yX11_mix.cls, TX11, 32) from rfl) vkX11_287 (k_X11_mix l D ce b I13 L14 R hT x0 ((r14).toInt64) h0 L15 e15) rfl hl.1 rfl (Nat.le_of_ble_eq_true rfl) ⟨rfl, rfl⟩ ⟨Nat.le_of_ble_eq_true rfl, Nat.le_of_ble_eq_true rfl⟩ ⟨Nat.zero_le _, Nat.zero_le _⟩ dX11_digest_84 (fun H locs hP hT hS => ?_)
        refine lv_iinc (v := (x1 + (1 : Int32))) (lv' := [(1, .int (x1 + (1 : Int32))), (2, .int r13), (0, .ref (b + x0))]) hx hb dX11_digest_87 hl (k := 2) rfl rfl (Nat.le_of_ble_eq_true rfl) rfl (fun ls hl => ?_)
        refine lv_goto (tgt := 33) hx hb dX11_digest_90 (by decide) ?_
        exact ih x0 (x1 + (1 : Int32)) I13 L15 R a1 a2 H locs ls hP hS hT h0 (lv_sub hl [2, 0] rfl) hf kx
  obtain ⟨I_16, L_16, e_16, hf⟩ := bd2_o hf
  refine lp33 FU x0 (0 : Int32) I L_5 R I_16 L_16 H locs ls hP hS hT h0 (lv_sub hl [1, 0] rfl) e_16 (fun H locs ls hP hS hl => ?_)
  refine lv_iconst (v := (0 : Int32)) hx hb dX11_digest_93 (by decide) ?_
  refine lv_istore_n (lv' := [(1, .int (0 : Int32)), (0, .ref (b + x0))]) hx hb dX11_digest_94 rfl hl (Nat.le_of_ble_eq_true rfl) rfl (fun ls hl => ?_)
  have lp95 : ∀ (n : Nat) (x0 : Nat) (x1 : Int32) (I : mI) (L : mL) (R : mR) (a1 : mL) (H : Heap) (locs : List Loc) (ls : Array Slot), va_P D vwCl (wd ce b kdM lnM 21 I L R) H → va_S (box b 21) s.heap H locs → WT kdM R → kdM x0 = 17 → lv_has ls 3 [(0, .ref (b + x0)), (1, .int x1)] → f_X11_digest_L95 n x0 x1 I L R = some a1 → (∀ (H1 : Heap) (locs1 : List Loc) (ls1 : Array Slot), va_P D vwCl (wd ce b kdM lnM 21 I a1 R) H1 → va_S (box b 21) s.heap H1 locs1 → lv_has ls1 3 [(0, .ref (b + x0))] → W p l e rmX11_digest s m av below meth c H1 locs1 0 0 QQ (F0 m 128 ls1 [])) → W p l e rmX11_digest s m av below meth c H locs 0 0 QQ (F0 m 95 ls []) := by
    intro n
    induction n with
    | zero =>
      intro x0 x1 I L R a1 H locs ls hP hS hT h0 hl hf kx
      exact absurd (show (none : Option (mL)) = some _ from hf) (by simp)
    | succ n ih =>
      intro x0 x1 I L R a1 H locs ls hP hS hT h0 hl hf kx
      rw [f_X11_digest_L95] at hf
      refine lv_iload_n hx hb dX11_digest_95 rfl (lv_at hl 1 rfl) ?_
      refine lv_aload_n hx hb dX11_digest_96 rfl (lv_at hl 0 rfl) ?_
      have t17 : kdM (R x0 0) = 1 := wt hT h0 rfl
      refine mm_getr hx hb hts hown hKK hP fk11_0 (Nat.le_of_ble_eq_true rfl) lkX11_7 (kdM_lt h0 (Nat.succ_ne_zero _)) h0 (nM t17 (Nat.succ_ne_zero _)) dX11_digest_97 ?_
      refine lv_sipush (v := (131 : Int32)) hx hb dX11_digest_100 (by decide) ?_
      obtain ⟨g18, hf⟩ := grd hf
      refine mm_iald hx hb hKK hP (kdM_lt t17 (Nat.succ_ne_zero _)) t17 g18 dX11_digest_103 ?_
      refine lv_icmp_ge (tgt := 128) hx hb dX11_digest_104 (by decide) (fun c19 => ?_) (fun c19 => ?_)
      · have hf := ifT hf c19
        cases hf
        exact kx H locs ls hP hS (lv_sub hl [0] rfl)
      · have hf := ifF hf c19
        refine lv_aload_n hx hb dX11_digest_107 rfl (lv_at hl 0 rfl) ?_
        refine lv_aload_n hx hb dX11_digest_108 rfl (lv_at hl 0 rfl) ?_
        refine mm_getr hx hb hts hown hKK hP fk11_0 (Nat.le_of_ble_eq_true rfl) lkX11_7 (kdM_lt h0 (Nat.succ_ne_zero _)) h0 (nM t17 (Nat.succ_ne_zero _)) dX11_digest_109 ?_
        refine lv_sipush (v := (132 : Int32)) hx hb dX11_digest_112 (by decide) ?_
        refine lv_iload_n hx hb dX11_digest_115 rfl (lv_at hl 1 rfl) ?_
        refine lv_iadd hx hb dX11_digest_116 ?_
        obtain ⟨g20, hf⟩ := grd hf
        refine mm_iald hx hb hKK hP (kdM_lt t17 (Nat.succ_ne_zero _)) t17 g20 dX11_digest_117 ?_
        refine lv_i2l (v := ((I (R x0 0) (((132 : Int32) + x1)).toNatClampNeg)).toInt64) hx hb dX11_digest_118 rfl ?_
        obtain ⟨L21, e21, hf⟩ := bd1_o hf
        refine mm_Vv (rest := []) hx hb hml hown hts hKK hP hS hA (kdM_lt h0 (Nat.succ_ne_zero _)) h0 (show vwCl[11]? = some (yX11_mix.cls, TX11, 32) from rfl) vkX11_287 (k_X11_mix l D ce b I L R hT x0 (((I (R x0 0) (((132 : Int32) + x1)).toNatClampNeg)).toInt64) h0 L21 e21) rfl hl.1 rfl (Nat.le_of_ble_eq_true rfl) ⟨rfl, rfl⟩ ⟨Nat.le_of_ble_eq_true rfl, Nat.le_of_ble_eq_true rfl⟩ ⟨Nat.zero_le _, Nat.zero_le _⟩ dX11_digest_119 (fun H locs hP hT hS => ?_)
        refine lv_iinc (v := (x1 + (1 : Int32))) (lv' := [(1, .int (x1 + (1 : Int32))), (0, .ref (b + x0))]) hx hb dX11_digest_122 hl (k := 1) rfl rfl (Nat.le_of_ble_eq_true rfl) rfl (fun ls hl => ?_)
        refine lv_goto (tgt := 95) hx hb dX11_digest_125 (by decide) ?_
        exact ih x0 (x1 + (1 : Int32)) I L21 R a1 H locs ls hP hS hT h0 (lv_sub hl [1, 0] rfl) hf kx
  obtain ⟨L_22, e_22, hf⟩ := bd1_o hf
  refine lp95 FU x0 (0 : Int32) I_16 L_16 R L_22 H locs ls hP hS hT h0 (lv_sub hl [1, 0] rfl) e_22 (fun H locs ls hP hS hl => ?_)
  refine lv_aload_n hx hb dX11_digest_128 rfl (lv_at hl 0 rfl) ?_
  refine lv_aload_n hx hb dX11_digest_129 rfl (lv_at hl 0 rfl) ?_
  obtain ⟨r23, I23, L23, e23, hf⟩ := bd3_o hf
  refine mm_Vi (rest := [.ref (b + x0)]) hx hb hml hown hts hKK hP hS hA (kdM_lt h0 (Nat.succ_ne_zero _)) h0 (show vwCl[11]? = some (yX11_fall.cls, TX11, 32) from rfl) vkX11_292 (k_X11_fall l D ce b I_16 L_22 R hT x0 h0 r23 I23 L23 e23) rfl hl.1 rfl (Nat.le_of_ble_eq_true rfl) ⟨rfl, rfl⟩ ⟨Nat.le_of_ble_eq_true rfl, Nat.le_of_ble_eq_true rfl⟩ ⟨Nat.zero_le _, Nat.zero_le _⟩ dX11_digest_130 (fun H locs hP hT hS => ?_)
  refine lv_i2l (v := (r23).toInt64) hx hb dX11_digest_133 rfl ?_
  obtain ⟨L24, e24, hf⟩ := bd1_o hf
  refine mm_Vv (rest := []) hx hb hml hown hts hKK hP hS hA (kdM_lt h0 (Nat.succ_ne_zero _)) h0 (show vwCl[11]? = some (yX11_mix.cls, TX11, 32) from rfl) vkX11_287 (k_X11_mix l D ce b I23 L23 R hT x0 ((r23).toInt64) h0 L24 e24) rfl hl.1 rfl (Nat.le_of_ble_eq_true rfl) ⟨rfl, rfl⟩ ⟨Nat.le_of_ble_eq_true rfl, Nat.le_of_ble_eq_true rfl⟩ ⟨Nat.zero_le _, Nat.zero_le _⟩ dX11_digest_134 (fun H locs hP hT hS => ?_)
  refine lv_aload_n hx hb dX11_digest_137 rfl (lv_at hl 0 rfl) ?_
  obtain ⟨I25, e25, hf⟩ := bd1_o hf
  refine mm_Vv (rest := []) hx hb hml hown hts hKK hP hS hA (kdM_lt h0 (Nat.succ_ne_zero _)) h0 (show vwCl[11]? = some (yX11_laysCalls.cls, TX11, 32) from rfl) vkX11_228 (k_X11_laysCalls l D ce b I23 L24 R hT x0 h0 I25 e25) rfl hl.1 rfl (Nat.le_of_ble_eq_true rfl) ⟨rfl, rfl⟩ ⟨Nat.le_of_ble_eq_true rfl, Nat.le_of_ble_eq_true rfl⟩ ⟨Nat.zero_le _, Nat.zero_le _⟩ dX11_digest_138 (fun H locs hP hT hS => ?_)
  refine lv_iconst (v := (0 : Int32)) hx hb dX11_digest_141 (by decide) ?_
  refine lv_istore_n (lv' := [(1, .int (0 : Int32)), (0, .ref (b + x0))]) hx hb dX11_digest_142 rfl hl (Nat.le_of_ble_eq_true rfl) rfl (fun ls hl => ?_)
  have lp143 : ∀ (n : Nat) (x0 : Nat) (x1 : Int32) (I : mI) (L : mL) (R : mR) (a1 : mI) (a2 : mL) (H : Heap) (locs : List Loc) (ls : Array Slot), va_P D vwCl (wd ce b kdM lnM 21 I L R) H → va_S (box b 21) s.heap H locs → WT kdM R → kdM x0 = 17 → lv_has ls 3 [(0, .ref (b + x0)), (1, .int x1)] → f_X11_digest_L143 n x0 x1 I L R = some (a1, a2) → (∀ (H1 : Heap) (locs1 : List Loc) (ls1 : Array Slot), va_P D vwCl (wd ce b kdM lnM 21 a1 a2 R) H1 → va_S (box b 21) s.heap H1 locs1 → lv_has ls1 3 [(0, .ref (b + x0))] → W p l e rmX11_digest s m av below meth c H1 locs1 0 0 QQ (F0 m 164 ls1 [])) → W p l e rmX11_digest s m av below meth c H locs 0 0 QQ (F0 m 143 ls []) := by
    intro n
    induction n with
    | zero =>
      intro x0 x1 I L R a1 a2 H locs ls hP hS hT h0 hl hf kx
      exact absurd (show (none : Option (mI × mL)) = some _ from hf) (by simp)
    | succ n ih =>
      intro x0 x1 I L R a1 a2 H locs ls hP hS hT h0 hl hf kx
      rw [f_X11_digest_L143] at hf
      refine lv_iload_n hx hb dX11_digest_143 rfl (lv_at hl 1 rfl) ?_
      refine lv_iconst (v := (3 : Int32)) hx hb dX11_digest_144 (by decide) ?_
      refine lv_icmp_ge (tgt := 164) hx hb dX11_digest_145 (by decide) (fun c26 => ?_) (fun c26 => ?_)
      · have hf := ifT hf c26
        cases hf
        exact kx H locs ls hP hS (lv_sub hl [0] rfl)
      · have hf := ifF hf c26
        refine lv_aload_n hx hb dX11_digest_148 rfl (lv_at hl 0 rfl) ?_
        refine lv_aload_n hx hb dX11_digest_149 rfl (lv_at hl 0 rfl) ?_
        refine lv_iload_n hx hb dX11_digest_150 rfl (lv_at hl 1 rfl) ?_
        obtain ⟨r27, I27, L27, e27, hf⟩ := bd3_o hf
        refine mm_Vi (rest := [.ref (b + x0)]) hx hb hml hown hts hKK hP hS hA (kdM_lt h0 (Nat.succ_ne_zero _)) h0 (show vwCl[11]? = some (yX11_callsTold.cls, TX11, 32) from rfl) vkX11_231 (k_X11_callsTold l D ce b I L R hT x0 x1 h0 r27 I27 L27 e27) rfl hl.1 rfl (Nat.le_of_ble_eq_true rfl) ⟨rfl, rfl⟩ ⟨Nat.le_of_ble_eq_true rfl, Nat.le_of_ble_eq_true rfl⟩ ⟨Nat.zero_le _, Nat.zero_le _⟩ dX11_digest_151 (fun H locs hP hT hS => ?_)
        refine lv_i2l (v := (r27).toInt64) hx hb dX11_digest_154 rfl ?_
        obtain ⟨L28, e28, hf⟩ := bd1_o hf
        refine mm_Vv (rest := []) hx hb hml hown hts hKK hP hS hA (kdM_lt h0 (Nat.succ_ne_zero _)) h0 (show vwCl[11]? = some (yX11_mix.cls, TX11, 32) from rfl) vkX11_287 (k_X11_mix l D ce b I27 L27 R hT x0 ((r27).toInt64) h0 L28 e28) rfl hl.1 rfl (Nat.le_of_ble_eq_true rfl) ⟨rfl, rfl⟩ ⟨Nat.le_of_ble_eq_true rfl, Nat.le_of_ble_eq_true rfl⟩ ⟨Nat.zero_le _, Nat.zero_le _⟩ dX11_digest_155 (fun H locs hP hT hS => ?_)
        refine lv_iinc (v := (x1 + (1 : Int32))) (lv' := [(1, .int (x1 + (1 : Int32))), (0, .ref (b + x0))]) hx hb dX11_digest_158 hl (k := 1) rfl rfl (Nat.le_of_ble_eq_true rfl) rfl (fun ls hl => ?_)
        refine lv_goto (tgt := 143) hx hb dX11_digest_161 (by decide) ?_
        exact ih x0 (x1 + (1 : Int32)) I27 L28 R a1 a2 H locs ls hP hS hT h0 (lv_sub hl [1, 0] rfl) hf kx
  obtain ⟨I_29, L_29, e_29, hf⟩ := bd2_o hf
  refine lp143 FU x0 (0 : Int32) I25 L24 R I_29 L_29 H locs ls hP hS hT h0 (lv_sub hl [1, 0] rfl) e_29 (fun H locs ls hP hS hl => ?_)
  refine lv_iconst (v := (0 : Int32)) hx hb dX11_digest_164 (by decide) ?_
  refine lv_istore_n (lv' := [(1, .int (0 : Int32)), (0, .ref (b + x0))]) hx hb dX11_digest_165 rfl hl (Nat.le_of_ble_eq_true rfl) rfl (fun ls hl => ?_)
  have lp166 : ∀ (n : Nat) (x0 : Nat) (x1 : Int32) (I : mI) (L : mL) (R : mR) (a1 : mL) (H : Heap) (locs : List Loc) (ls : Array Slot), va_P D vwCl (wd ce b kdM lnM 21 I L R) H → va_S (box b 21) s.heap H locs → WT kdM R → kdM x0 = 17 → lv_has ls 3 [(0, .ref (b + x0)), (1, .int x1)] → f_X11_digest_L166 n x0 x1 I L R = some a1 → (∀ (H1 : Heap) (locs1 : List Loc) (ls1 : Array Slot), va_P D vwCl (wd ce b kdM lnM 21 I a1 R) H1 → va_S (box b 21) s.heap H1 locs1 → lv_has ls1 3 [(0, .ref (b + x0))] → W p l e rmX11_digest s m av below meth c H1 locs1 0 0 QQ (F0 m 204 ls1 [])) → W p l e rmX11_digest s m av below meth c H locs 0 0 QQ (F0 m 166 ls []) := by
    intro n
    induction n with
    | zero =>
      intro x0 x1 I L R a1 H locs ls hP hS hT h0 hl hf kx
      exact absurd (show (none : Option (mL)) = some _ from hf) (by simp)
    | succ n ih =>
      intro x0 x1 I L R a1 H locs ls hP hS hT h0 hl hf kx
      rw [f_X11_digest_L166] at hf
      refine lv_iload_n hx hb dX11_digest_166 rfl (lv_at hl 1 rfl) ?_
      refine lv_aload_n hx hb dX11_digest_167 rfl (lv_at hl 0 rfl) ?_
      refine mm_geti hx hb hts hown hKK hP fk11_18 (Or.inl rfl) lkX11_213 (kdM_lt h0 (Nat.succ_ne_zero _)) h0 dX11_digest_168 ?_
      refine lv_icmp_ge (tgt := 204) hx hb dX11_digest_171 (by decide) (fun c30 => ?_) (fun c30 => ?_)
      · have hf := ifT hf c30
        cases hf
        exact kx H locs ls hP hS (lv_sub hl [0] rfl)
      · have hf := ifF hf c30
        refine lv_iconst (v := (0 : Int32)) hx hb dX11_digest_174 (by decide) ?_
        refine lv_istore_n (lv' := [(2, .int (0 : Int32)), (0, .ref (b + x0)), (1, .int x1)]) hx hb dX11_digest_175 rfl hl (Nat.le_of_ble_eq_true rfl) rfl (fun ls hl => ?_)
        have lp176 : ∀ (n : Nat) (x0 : Nat) (x1 : Int32) (x2 : Int32) (I : mI) (L : mL) (R : mR) (a1 : mL) (H : Heap) (locs : List Loc) (ls : Array Slot), va_P D vwCl (wd ce b kdM lnM 21 I L R) H → va_S (box b 21) s.heap H locs → WT kdM R → kdM x0 = 17 → lv_has ls 3 [(0, .ref (b + x0)), (1, .int x1), (2, .int x2)] → f_X11_digest_L176 n x0 x1 x2 I L R = some a1 → (∀ (H1 : Heap) (locs1 : List Loc) (ls1 : Array Slot), va_P D vwCl (wd ce b kdM lnM 21 I a1 R) H1 → va_S (box b 21) s.heap H1 locs1 → lv_has ls1 3 [(0, .ref (b + x0)), (1, .int x1)] → W p l e rmX11_digest s m av below meth c H1 locs1 0 0 QQ (F0 m 198 ls1 [])) → W p l e rmX11_digest s m av below meth c H locs 0 0 QQ (F0 m 176 ls []) := by
          intro n
          induction n with
          | zero =>
            intro x0 x1 x2 I L R a1 H locs ls hP hS hT h0 hl hf kx
            exact absurd (show (none : Option (mL)) = some _ from hf) (by simp)
          | succ n ih =>
            intro x0 x1 x2 I L R a1 H locs ls hP hS hT h0 hl hf kx
            rw [f_X11_digest_L176] at hf
            refine lv_iload_n hx hb dX11_digest_176 rfl (lv_at hl 2 rfl) ?_
            refine lv_iconst (v := (4 : Int32)) hx hb dX11_digest_177 (by decide) ?_
            refine lv_icmp_ge (tgt := 198) hx hb dX11_digest_178 (by decide) (fun c31 => ?_) (fun c31 => ?_)
            · have hf := ifT hf c31
              cases hf
              exact kx H locs ls hP hS (lv_sub hl [0, 1] rfl)
            · have hf := ifF hf c31
              refine lv_aload_n hx hb dX11_digest_181 rfl (lv_at hl 0 rfl) ?_
              refine lv_aload_n hx hb dX11_digest_182 rfl (lv_at hl 0 rfl) ?_
              refine lv_iload_n hx hb dX11_digest_183 rfl (lv_at hl 1 rfl) ?_
              refine lv_iload_n hx hb dX11_digest_184 rfl (lv_at hl 2 rfl) ?_
              obtain ⟨r32, e32, hf⟩ := bd1_o hf
              refine mm_Vi (rest := [.ref (b + x0)]) hx hb hml hown hts hKK hP hS hA (kdM_lt h0 (Nat.succ_ne_zero _)) h0 (show vwCl[11]? = some (yX11_callTold.cls, TX11, 32) from rfl) vkX11_234 (k_X11_callTold l D ce b I L R hT x0 x1 x2 h0 r32 e32) rfl hl.1 rfl (Nat.le_of_ble_eq_true rfl) ⟨rfl, rfl⟩ ⟨Nat.le_of_ble_eq_true rfl, Nat.le_of_ble_eq_true rfl⟩ ⟨Nat.zero_le _, Nat.zero_le _⟩ dX11_digest_185 (fun H locs hP hT hS => ?_)
              refine lv_i2l (v := (r32).toInt64) hx hb dX11_digest_188 rfl ?_
              obtain ⟨L33, e33, hf⟩ := bd1_o hf
              refine mm_Vv (rest := []) hx hb hml hown hts hKK hP hS hA (kdM_lt h0 (Nat.succ_ne_zero _)) h0 (show vwCl[11]? = some (yX11_mix.cls, TX11, 32) from rfl) vkX11_287 (k_X11_mix l D ce b I L R hT x0 ((r32).toInt64) h0 L33 e33) rfl hl.1 rfl (Nat.le_of_ble_eq_true rfl) ⟨rfl, rfl⟩ ⟨Nat.le_of_ble_eq_true rfl, Nat.le_of_ble_eq_true rfl⟩ ⟨Nat.zero_le _, Nat.zero_le _⟩ dX11_digest_189 (fun H locs hP hT hS => ?_)
              refine lv_iinc (v := (x2 + (1 : Int32))) (lv' := [(2, .int (x2 + (1 : Int32))), (0, .ref (b + x0)), (1, .int x1)]) hx hb dX11_digest_192 hl (k := 2) rfl rfl (Nat.le_of_ble_eq_true rfl) rfl (fun ls hl => ?_)
              refine lv_goto (tgt := 176) hx hb dX11_digest_195 (by decide) ?_
              exact ih x0 x1 (x2 + (1 : Int32)) I L33 R a1 H locs ls hP hS hT h0 (lv_sub hl [1, 2, 0] rfl) hf kx
        obtain ⟨L_34, e_34, hf⟩ := bd1_o hf
        refine lp176 FU x0 x1 (0 : Int32) I L R L_34 H locs ls hP hS hT h0 (lv_sub hl [1, 2, 0] rfl) e_34 (fun H locs ls hP hS hl => ?_)
        refine lv_iinc (v := (x1 + (1 : Int32))) (lv' := [(1, .int (x1 + (1 : Int32))), (0, .ref (b + x0))]) hx hb dX11_digest_198 hl (k := 1) rfl rfl (Nat.le_of_ble_eq_true rfl) rfl (fun ls hl => ?_)
        refine lv_goto (tgt := 166) hx hb dX11_digest_201 (by decide) ?_
        exact ih x0 (x1 + (1 : Int32)) I L_34 R a1 H locs ls hP hS hT h0 (lv_sub hl [1, 0] rfl) hf kx
  obtain ⟨L_35, e_35, hf⟩ := bd1_o hf
  refine lp166 FU x0 (0 : Int32) I_29 L_29 R L_35 H locs ls hP hS hT h0 (lv_sub hl [1, 0] rfl) e_35 (fun H locs ls hP hS hl => ?_)
  refine lv_aload_n hx hb dX11_digest_204 rfl (lv_at hl 0 rfl) ?_
  refine lv_aload_n hx hb dX11_digest_205 rfl (lv_at hl 0 rfl) ?_
  obtain ⟨r36, I36, e36, hf⟩ := bd2_o hf
  refine mm_Vi (rest := [.ref (b + x0)]) hx hb hml hown hts hKK hP hS hA (kdM_lt h0 (Nat.succ_ne_zero _)) h0 (show vwCl[11]? = some (yX11_settled.cls, TX11, 32) from rfl) vkX11_270 (k_X11_settled l D ce b I_29 L_35 R hT x0 h0 r36 I36 e36) rfl hl.1 rfl (Nat.le_of_ble_eq_true rfl) ⟨rfl, rfl⟩ ⟨Nat.le_of_ble_eq_true rfl, Nat.le_of_ble_eq_true rfl⟩ ⟨Nat.zero_le _, Nat.zero_le _⟩ dX11_digest_206 (fun H locs hP hT hS => ?_)
  refine lv_i2l (v := (r36).toInt64) hx hb dX11_digest_209 rfl ?_
  obtain ⟨L37, e37, hf⟩ := bd1_o hf
  refine mm_Vv (rest := []) hx hb hml hown hts hKK hP hS hA (kdM_lt h0 (Nat.succ_ne_zero _)) h0 (show vwCl[11]? = some (yX11_mix.cls, TX11, 32) from rfl) vkX11_287 (k_X11_mix l D ce b I36 L_35 R hT x0 ((r36).toInt64) h0 L37 e37) rfl hl.1 rfl (Nat.le_of_ble_eq_true rfl) ⟨rfl, rfl⟩ ⟨Nat.le_of_ble_eq_true rfl, Nat.le_of_ble_eq_true rfl⟩ ⟨Nat.zero_le _, Nat.zero_le _⟩ dX11_digest_210 (fun H locs hP hT hS => ?_)
  refine lv_aload_n hx hb dX11_digest_213 rfl (lv_at hl 0 rfl) ?_
  refine lv_aload_n hx hb dX11_digest_214 rfl (lv_at hl 0 rfl) ?_
  refine lv_iconst (v := (0 : Int32)) hx hb dX11_digest_215 (by decide) ?_
  obtain ⟨r38, I38, e38, hf⟩ := bd2_o hf
  refine mm_Vi (rest := [.ref (b + x0)]) hx hb hml hown hts hKK hP hS hA (kdM_lt h0 (Nat.succ_ne_zero _)) h0 (show vwCl[11]? = some (yX11_nextOf.cls, TX11, 32) from rfl) vkX11_273 (k_X11_nextOf l D ce b I36 L37 R hT x0 (0 : Int32) h0 r38 I38 e38) rfl hl.1 rfl (Nat.le_of_ble_eq_true rfl) ⟨rfl, rfl⟩ ⟨Nat.le_of_ble_eq_true rfl, Nat.le_of_ble_eq_true rfl⟩ ⟨Nat.zero_le _, Nat.zero_le _⟩ dX11_digest_216 (fun H locs hP hT hS => ?_)
  refine lv_i2l (v := (r38).toInt64) hx hb dX11_digest_219 rfl ?_
  obtain ⟨L39, e39, hf⟩ := bd1_o hf
  refine mm_Vv (rest := []) hx hb hml hown hts hKK hP hS hA (kdM_lt h0 (Nat.succ_ne_zero _)) h0 (show vwCl[11]? = some (yX11_mix.cls, TX11, 32) from rfl) vkX11_287 (k_X11_mix l D ce b I38 L37 R hT x0 ((r38).toInt64) h0 L39 e39) rfl hl.1 rfl (Nat.le_of_ble_eq_true rfl) ⟨rfl, rfl⟩ ⟨Nat.le_of_ble_eq_true rfl, Nat.le_of_ble_eq_true rfl⟩ ⟨Nat.zero_le _, Nat.zero_le _⟩ dX11_digest_220 (fun H locs hP hT hS => ?_)
  refine lv_aload_n hx hb dX11_digest_223 rfl (lv_at hl 0 rfl) ?_
  refine lv_aload_n hx hb dX11_digest_224 rfl (lv_at hl 0 rfl) ?_
  refine lv_iconst (v := (1 : Int32)) hx hb dX11_digest_225 (by decide) ?_
  obtain ⟨r40, I40, e40, hf⟩ := bd2_o hf
  refine mm_Vi (rest := [.ref (b + x0)]) hx hb hml hown hts hKK hP hS hA (kdM_lt h0 (Nat.succ_ne_zero _)) h0 (show vwCl[11]? = some (yX11_nextOf.cls, TX11, 32) from rfl) vkX11_273 (k_X11_nextOf l D ce b I38 L39 R hT x0 (1 : Int32) h0 r40 I40 e40) rfl hl.1 rfl (Nat.le_of_ble_eq_true rfl) ⟨rfl, rfl⟩ ⟨Nat.le_of_ble_eq_true rfl, Nat.le_of_ble_eq_true rfl⟩ ⟨Nat.zero_le _, Nat.zero_le _⟩ dX11_digest_226 (fun H locs hP hT hS => ?_)
  refine lv_i2l (v := (r40).toInt64) hx hb dX11_digest_229 rfl ?_
  obtain ⟨L41, e41, hf⟩ := bd1_o hf
  refine mm_Vv (rest := []) hx hb hml hown hts hKK hP hS hA (kdM_lt h0 (Nat.succ_ne_zero _)) h0 (show vwCl[11]? = some (yX11_mix.cls, TX11, 32) from rfl) vkX11_287 (k_X11_mix l D ce b I40 L39 R hT x0 ((r40).toInt64) h0 L41 e41) rfl hl.1 rfl (Nat.le_of_ble_eq_true rfl) ⟨rfl, rfl⟩ ⟨Nat.le_of_ble_eq_true rfl, Nat.le_of_ble_eq_true rfl⟩ ⟨Nat.zero_le _, Nat.zero_le _⟩ dX11_digest_230 (fun H locs hP hT hS => ?_)
  refine lv_aload_n hx hb dX11_digest_233 rfl (lv_at hl 0 rfl) ?_
  refine mm_getl hx hb hts hown hKK hP fk11_31 lkX11_281 (kdM_lt h0 (Nat.succ_ne_zero _)) h0 dX11_digest_234 ?_
  exact hret (L41 x0 31) I40 L41 hf H locs ls _ dX11_digest_237 hP hT hS
def rmX8_startAs : Room := { frames := 2, cells := 0, slots := 0, locals := 43 }
set_option maxHeartbeats 4000000 in
set_option maxRecDepth 100000 in
theorem k_X8_startAs (l : Launch) (D : va_G) (ce : Nat → ClassId) (b : Nat) (I : mI) (L : mL) (R : mR) (hT : WT kdC R) (x0 : Nat) (x1 : Int32) (h0 : kdC x0 = 14) (o1 : mI) (hf : f_X8_startAs x0 x1 I R = some o1) : Met l yX8_startAs (Cond.code yX8_startAs cX8_startAs 2 none :: GW) rmX8_startAs (va_Pc [.ref (b + x0), .int x1] (PW D ce b kdC lnC 272 I L R)) (va_Qv (fun u => u = (o1, L, R)) (QW D ce b kdC lnC 272) (box b 272)) 0 0 (box b 272) := by
  refine Met.ofW (cc := cX8_startAs) (maxL := 2) (ret := none) (by decide) rfl ?_
  intro p e s m args below meth c s₁ B hml hv
  obtain ⟨rfl, hP, hKK⟩ := hv
  have hx := B.exec
  have hb := B.bytes
  have hr := B.returns
  have hts0 := atoms_spec (ws := Cond.code yX8_startAs cX8_startAs 2 none :: GW) B.pre
  have hts : ∀ w ∈ GW, w.before _ s = true := fun w h => hts0 w (List.mem_cons_of_mem _ h)
  clear hts0
  have hown : s.vm.findClass RX8 = some m.cls := findClass_of_methodNamed B.named
  have hlocks := B.notSynchronized
  have hA : ∀ q, box b 272 q → box b 272 q := fun _ h => h
  have hS : va_S (box b 272) s.heap s.heap [] := va_S.rf
  have hl := lv_entry ([.ref (b + x0), .int x1]) (n := 2) (Nat.le_of_ble_eq_true rfl)
  rw [lg_entry_eq]
  generalize (lg_sl ([.ref (b + x0), .int x1]) ++ List.replicate (2 - (lg_sl ([.ref (b + x0), .int x1])).length) Slot.unset).toArray = ls at hl ⊢
  have hl : lv_has ls 2 [(0, .ref (b + x0)), (1, .int x1)] := hl
  generalize ([.ref (b + x0), .int x1] : List Value).toArray = av at hts ⊢
  show W p l e rmX8_startAs s m av below meth c s.heap [] 0 0 _ _
  obtain ⟨QQ, hQQ⟩ : ∃ z, z = MQ below (va_Qv (fun u => u = (o1, L, R)) (QW D ce b kdC lnC 272) (box b 272)) av s 0 0 (box b 272) := ⟨_, rfl⟩
  rw [← hQQ]
  have hret : ∀ (I1 : mI), some I1 = some o1 → ∀ (H1 : Heap) (locs1 : List Loc) (ls1 : Array Slot) (pc1 : Nat), decode cX8_startAs pc1 = .ok (.return_, 1) → va_P D vwCl (wd ce b kdC lnC 272 I1 L R) H1 → WT kdC R → va_S (box b 272) s.heap H1 locs1 → W p l e rmX8_startAs s m av below meth c H1 locs1 0 0 QQ (F0 m pc1 ls1 []) := by
    intro I1 hq H1 locs1 ls1 pc1 hd hP hT hS
    cases hq
    rw [hQQ]
    exact mm_vret hx hb hr hlocks hP hT hS hd
  unfold f_X8_startAs at hf
  obtain ⟨H, hH⟩ : ∃ z, z = s.heap := ⟨_, rfl⟩
  obtain ⟨locs, hlo⟩ : ∃ z : List Loc, z = [] := ⟨_, rfl⟩
  have hP : va_P D vwCl (wd ce b kdC lnC 272 I L R) H := by rw [hH]; exact hP
  have hS : va_S (box b 272) s.heap H locs := by rw [hH, hlo]; exact hS
  rw [show W p l e rmX8_startAs s m av below meth c s.heap [] 0 0 QQ = W p l e rmX8_startAs s m av below meth c H locs 0 0 QQ by rw [hH, hlo]]
  clear hH hlo
  clear hQQ
  show W p l e rmX8_startAs s m av below meth c H locs 0 0 QQ (F0 m 0 ls [])
  refine lv_aload_n hx hb dX8_startAs_0 rfl (lv_at hl 0 rfl) ?_
  refine lv_iconst (v := (0 : Int32)) hx hb dX8_startAs_1 (by decide) ?_
  refine jnE hf (fun I1 eI1 hf => ?_)
  refine mm_puti hx hb hts hown hKK hP hA hS fk8_2 (Or.inl rfl) fw8_2 lkX8_22 (kdC_lt h0 (Nat.succ_ne_zero _)) h0 rfl rfl dX8_startAs_2 (fun H locs hP hS => ?_)
  rw [← eI1] at hP
  refine lv_aload_n hx hb dX8_startAs_5 rfl (lv_at hl 0 rfl) ?_
  refine lv_iload_n hx hb dX8_startAs_6 rfl (lv_at hl 1 rfl) ?_
  obtain ⟨I2, e2, hf⟩ := bd1_o hf
  refine mm_Vv (rest := []) hx hb hml hown hts hKK hP hS hA (kdC_lt h0 (Nat.succ_ne_zero _)) h0 (show vwCl[8]? = some (yX8_addLetter.cls, TX8, 3) from rfl) vkX8_26 (k_X8_addLetter l D ce b I1 L R hT x0 x1 h0 I2 e2) rfl hl.1 rfl (Nat.le_of_ble_eq_true rfl) ⟨rfl, rfl⟩ ⟨Nat.le_of_ble_eq_true rfl, Nat.le_of_ble_eq_true rfl⟩ ⟨Nat.zero_le _, Nat.zero_le _⟩ dX8_startAs_7 (fun H locs hP hT hS => ?_)
  refine lv_aload_n hx hb dX8_startAs_10 rfl (lv_at hl 0 rfl) ?_
  obtain ⟨I3, e3, hf⟩ := bd1_o hf
  refine mm_Vv (rest := []) hx hb hml hown hts hKK hP hS hA (kdC_lt h0 (Nat.succ_ne_zero _)) h0 (show vwCl[8]? = some (yX8_findEnds.cls, TX8, 3) from rfl) vkX8_30 (k_X8_findEnds l D ce b I2 L R hT x0 h0 I3 e3) rfl hl.1 rfl (Nat.le_of_ble_eq_true rfl) ⟨rfl, rfl⟩ ⟨Nat.le_of_ble_eq_true rfl, Nat.le_of_ble_eq_true rfl⟩ ⟨Nat.zero_le _, Nat.zero_le _⟩ dX8_startAs_11 (fun H locs hP hT hS => ?_)
  exact hret I3 hf H locs ls _ dX8_startAs_14 hP hT hS
