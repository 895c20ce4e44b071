def rmX0_comesTo : Room := { frames := 1, cells := 0, slots := 0, locals := 21 }
set_option maxHeartbeats 4000000 in
set_option maxRecDepth 100000 in
theorem k_X0_comesTo (l : Launch) (D : va_G) (ce : Nat → ClassId) (b : Nat) (I : mI) (L : mL) (R : mR) (hT : WT kdC R) (x0 : Nat) (x1 : Nat) (x2 : Int32) (x3 : Nat) (h0 : kdC x0 = 6) (h1 : kdC x1 = 14) (h3 : kdC x3 = 14) (o1 : Int32) (hf : f_X0_comesTo x0 x1 x2 x3 I R = some o1) : Met l yX0_comesTo (Cond.code yX0_comesTo cX0_comesTo 10 (some .boolean) :: GW) rmX0_comesTo (va_Pc [.ref (b + x0), .ref (b + x1), .int x2, .ref (b + x3)] (PW D ce b kdC lnC 272 I L R)) (va_Qi (fun r u => r = o1 ∧ u = (I, L, R)) (QW D ce b kdC lnC 272) (box b 272)) 0 0 (box b 272) := by
  refine Met.ofW (cc := cX0_comesTo) (maxL := 10) (ret := (some .boolean)) (by decide) rfl ?_
  intro p e s m args below meth c s₁ B hml hv
  obtain ⟨rfl, hP, hKK⟩ := hv
  have hx := B.exec
  have hb := B.bytes
  have hr := B.returns
  have hts0 := atoms_spec (ws := Cond.code yX0_comesTo cX0_comesTo 10 (some .boolean) :: GW) B.pre
  have hts : ∀ w ∈ GW, w.before _ s = true := fun w h => hts0 w (List.mem_cons_of_mem _ h)
  clear hts0
  have hown : s.vm.findClass RX0 = some m.cls := findClass_of_methodNamed B.named
  have hlocks := B.notSynchronized
  have hA : ∀ q, box b 272 q → box b 272 q := fun _ h => h
  have hS : va_S (box b 272) s.heap s.heap [] := va_S.rf
  have hl := lv_entry ([.ref (b + x0), .ref (b + x1), .int x2, .ref (b + x3)]) (n := 10) (Nat.le_of_ble_eq_true rfl)
  rw [lg_entry_eq]
  generalize (lg_sl ([.ref (b + x0), .ref (b + x1), .int x2, .ref (b + x3)]) ++ List.replicate (10 - (lg_sl ([.ref (b + x0), .ref (b + x1), .int x2, .ref (b + x3)])).length) Slot.unset).toArray = ls at hl ⊢
  have hl : lv_has ls 10 [(0, .ref (b + x0)), (1, .ref (b + x1)), (2, .int x2), (3, .ref (b + x3))] := hl
  generalize ([.ref (b + x0), .ref (b + x1), .int x2, .ref (b + x3)] : List Value).toArray = av at hts ⊢
  show W p l e rmX0_comesTo s m av below meth c s.heap [] 0 0 _ _
  obtain ⟨QQ, hQQ⟩ : ∃ z, z = MQ below (va_Qi (fun r u => r = o1 ∧ u = (I, L, R)) (QW D ce b kdC lnC 272) (box b 272)) av s 0 0 (box b 272) := ⟨_, rfl⟩
  rw [← hQQ]
  have hret : ∀ (r : Int32), some r = some o1 → ∀ (H1 : Heap) (locs1 : List Loc) (ls1 : Array Slot) (pc1 : Nat), decode cX0_comesTo pc1 = .ok (.ireturn, 1) → zb r = true → va_P D vwCl (wd ce b kdC lnC 272 I L R) H1 → WT kdC R → va_S (box b 272) s.heap H1 locs1 → W p l e rmX0_comesTo s m av below meth c H1 locs1 0 0 QQ (F0 m pc1 ls1 [.int r]) := by
    intro r hq H1 locs1 ls1 pc1 hd hz hP hT hS
    cases hq
    rw [hQQ]
    exact mm_zret hx hb hr hlocks hz hP hT hS hd
  unfold f_X0_comesTo at hf
  obtain ⟨H, hH⟩ : ∃ z, z = s.heap := ⟨_, rfl⟩
  obtain ⟨locs, hlo⟩ : ∃ z : List Loc, z = [] := ⟨_, rfl⟩
  have hP : va_P D vwCl (wd ce b kdC lnC 272 I L R) H := by rw [hH]; exact hP
  have hS : va_S (box b 272) s.heap H locs := by rw [hH, hlo]; exact hS
  rw [show W p l e rmX0_comesTo s m av below meth c s.heap [] 0 0 QQ = W p l e rmX0_comesTo s m av below meth c H locs 0 0 QQ by rw [hH, hlo]]
  clear hH hlo
  clear hQQ
  show W p l e rmX0_comesTo s m av below meth c H locs 0 0 QQ (F0 m 0 ls [])
  refine lv_aload_n hx hb dX0_comesTo_0 rfl (lv_at hl 1 rfl) ?_
  have t1 : kdC (R x1 0) = 1 := wt hT h1 rfl
  refine mm_getr hx hb hts hown hKK hP fk8_0 (Nat.le_of_ble_eq_true rfl) lkX0_80 (kdC_lt h1 (Nat.succ_ne_zero _)) h1 (nC t1 (Nat.succ_ne_zero _)) dX0_comesTo_1 ?_
  refine lv_iload_n hx hb dX0_comesTo_4 rfl (lv_at hl 2 rfl) ?_
  obtain ⟨g2, hf⟩ := grd hf
  refine mm_iald hx hb hKK hP (kdC_lt t1 (Nat.succ_ne_zero _)) t1 g2 dX0_comesTo_5 ?_
  refine lv_aload_n hx hb dX0_comesTo_6 rfl (lv_at hl 3 rfl) ?_
  have t3 : kdC (R x3 0) = 1 := wt hT h3 rfl
  refine mm_getr hx hb hts hown hKK hP fk8_0 (Nat.le_of_ble_eq_true rfl) lkX0_80 (kdC_lt h3 (Nat.succ_ne_zero _)) h3 (nC t3 (Nat.succ_ne_zero _)) dX0_comesTo_7 ?_
  refine lv_iconst (v := (0 : Int32)) hx hb dX0_comesTo_10 (by decide) ?_
  obtain ⟨g4, hf⟩ := grd hf
  refine mm_iald hx hb hKK hP (kdC_lt t3 (Nat.succ_ne_zero _)) t3 g4 dX0_comesTo_11 ?_
  refine lv_icmp_eq (tgt := 17) hx hb dX0_comesTo_12 (by decide) (fun c5 => ?_) (fun c5 => ?_)
  · have hf := ifT hf c5
    refine lv_aload_n hx hb dX0_comesTo_17 rfl (lv_at hl 1 rfl) ?_
    have t6 : kdC (R x1 1) = 1 := wt hT h1 rfl
    refine mm_getr hx hb hts hown hKK hP fk8_1 (Nat.le_of_ble_eq_true rfl) lkX0_94 (kdC_lt h1 (Nat.succ_ne_zero _)) h1 (nC t6 (Nat.succ_ne_zero _)) dX0_comesTo_18 ?_
    refine lv_iload_n hx hb dX0_comesTo_21 rfl (lv_at hl 2 rfl) ?_
    obtain ⟨g7, hf⟩ := grd hf
    refine mm_iald hx hb hKK hP (kdC_lt t6 (Nat.succ_ne_zero _)) t6 g7 dX0_comesTo_22 ?_
    refine lv_istore (lv' := [(4, .int (I (R x1 1) x2.toNatClampNeg)), (0, .ref (b + x0)), (1, .ref (b + x1)), (2, .int x2), (3, .ref (b + x3))]) hx hb dX0_comesTo_23 hl (Nat.le_of_ble_eq_true rfl) rfl (fun ls hl => ?_)
    refine lv_iload_n hx hb dX0_comesTo_25 rfl (lv_at hl 3 rfl) ?_
    refine lv_iconst (v := (1 : Int32)) hx hb dX0_comesTo_26 (by decide) ?_
    refine lv_iadd hx hb dX0_comesTo_27 ?_
    refine lv_istore (lv' := [(5, .int (x2 + (1 : Int32))), (4, .int (I (R x1 1) x2.toNatClampNeg)), (0, .ref (b + x0)), (1, .ref (b + x1)), (2, .int x2), (3, .ref (b + x3))]) hx hb dX0_comesTo_28 hl (Nat.le_of_ble_eq_true rfl) rfl (fun ls hl => ?_)
    refine lv_iconst (v := (1 : Int32)) hx hb dX0_comesTo_30 (by decide) ?_
    refine lv_istore (lv' := [(6, .int (1 : Int32)), (5, .int (x2 + (1 : Int32))), (4, .int (I (R x1 1) x2.toNatClampNeg)), (0, .ref (b + x0)), (1, .ref (b + x1)), (2, .int x2), (3, .ref (b + x3))]) hx hb dX0_comesTo_31 hl (Nat.le_of_ble_eq_true rfl) rfl (fun ls hl => ?_)
    refine lv_iconst (v := (0 : Int32)) hx hb dX0_comesTo_33 (by decide) ?_
    refine lv_istore (lv' := [(7, .int (0 : Int32)), (6, .int (1 : Int32)), (5, .int (x2 + (1 : Int32))), (4, .int (I (R x1 1) x2.toNatClampNeg)), (0, .ref (b + x0)), (1, .ref (b + x1)), (2, .int x2), (3, .ref (b + x3))]) hx hb dX0_comesTo_34 hl (Nat.le_of_ble_eq_true rfl) rfl (fun ls hl => ?_)
    have lp36 : ∀ (n : Nat) (x0 : Nat) (x1 : Nat) (x3 : Nat) (x4 : Int32) (x5 : Int32) (x6 : Int32) (x7 : Int32) (I : mI) (L : mL) (R : mR) (q : (Int32) ⊕ (Unit)) (H : Heap) (locs : List Loc) (ls : Array Slot), va_P D vwCl (wd ce b kdC lnC 272 I L R) H → va_S (box b 272) s.heap H locs → WT kdC R → kdC x0 = 6 → kdC x1 = 14 → kdC x3 = 14 → lv_has ls 10 [(0, .ref (b + x0)), (1, .ref (b + x1)), (3, .ref (b + x3)), (4, .int x4), (5, .int x5), (6, .int x6), (7, .int x7)] → f_X0_comesTo_L36 n x0 x1 x3 x4 x5 x6 x7 I R = some q → (∀ (_ : Unit), some (Sum.inr ()) = some q → ∀ (H1 : Heap) (locs1 : List Loc) (ls1 : Array Slot), va_P D vwCl (wd ce b kdC lnC 272 I L R) H1 → va_S (box b 272) s.heap H1 locs1 → lv_has ls1 10 [] → W p l e rmX0_comesTo s m av below meth c H1 locs1 0 0 QQ (F0 m 147 ls1 [])) → (∀ (r : Int32), some (Sum.inl r) = some q → ∀ (H1 : Heap) (locs1 : List Loc) (ls1 : Array Slot) (pc1 : Nat), decode cX0_comesTo pc1 = .ok (.ireturn, 1) → zb r = true → va_P D vwCl (wd ce b kdC lnC 272 I L R) H1 → WT kdC R → va_S (box b 272) s.heap H1 locs1 → W p l e rmX0_comesTo s m av below meth c H1 locs1 0 0 QQ (F0 m pc1 ls1 [.int r])) → W p l e rmX0_comesTo s m av below meth c H locs 0 0 QQ (F0 m 36 ls []) := by
      intro n
      induction n with
      | zero =>
        intro x0 x1 x3 x4 x5 x6 x7 I L R q H locs ls hP hS hT h0 h1 h3 hl hf kx kr
        exact absurd (show (none : Option ((Int32) ⊕ (Unit))) = some _ from hf) (by simp)
      | succ n ih =>
        intro x0 x1 x3 x4 x5 x6 x7 I L R q H locs ls hP hS hT h0 h1 h3 hl hf kx kr
        rw [f_X0_comesTo_L36] at hf
        refine lv_iload hx hb dX0_comesTo_36 (lv_at hl 6 rfl) ?_
        refine lv_bipush (v := (12 : Int32)) hx hb dX0_comesTo_38 (by decide) ?_
        refine lv_icmp_ge (tgt := 147) hx hb dX0_comesTo_40 (by decide) (fun c8 => ?_) (fun c8 => ?_)
        · have hf := ifT hf c8
          exact kx () hf H locs ls hP hS (lv_sub hl [] rfl)
        · have hf := ifF hf c8
          refine lv_iload hx hb dX0_comesTo_43 (lv_at hl 4 rfl) ?_
          refine lv_iload hx hb dX0_comesTo_45 (lv_at hl 3 rfl) ?_
          refine lv_icmp_ge (tgt := 147) hx hb dX0_comesTo_47 (by decide) (fun c9 => ?_) (fun c9 => ?_)
          · have hf := ifT hf c9
            exact kx () hf H locs ls hP hS (lv_sub hl [] rfl)
          · have hf := ifF hf c9
            refine lv_iload hx hb dX0_comesTo_50 (lv_at hl 5 rfl) ?_
            refine lv_aload_n hx hb dX0_comesTo_52 rfl (lv_at hl 2 rfl) ?_
            refine mm_geti hx hb hts hown hKK hP fk8_2 (Or.inl rfl) lkX0_83 (kdC_lt h3 (Nat.succ_ne_zero _)) h3 dX0_comesTo_53 ?_
            refine lv_icmp_ge (tgt := 147) hx hb dX0_comesTo_56 (by decide) (fun c10 => ?_) (fun c10 => ?_)
            · have hf := ifT hf c10
              exact kx () hf H locs ls hP hS (lv_sub hl [] rfl)
            · have hf := ifF hf c10
              refine lv_aload_n hx hb dX0_comesTo_59 rfl (lv_at hl 1 rfl) ?_
              have t11 : kdC (R x1 0) = 1 := wt hT h1 rfl
              refine mm_getr hx hb hts hown hKK hP fk8_0 (Nat.le_of_ble_eq_true rfl) lkX0_80 (kdC_lt h1 (Nat.succ_ne_zero _)) h1 (nC t11 (Nat.succ_ne_zero _)) dX0_comesTo_60 ?_
              refine lv_iload hx hb dX0_comesTo_63 (lv_at hl 4 rfl) ?_
              obtain ⟨g12, hf⟩ := grd hf
              refine mm_iald hx hb hKK hP (kdC_lt t11 (Nat.succ_ne_zero _)) t11 g12 dX0_comesTo_65 ?_
              refine lv_istore (lv' := [(8, .int (I (R x1 0) x5.toNatClampNeg)), (0, .ref (b + x0)), (1, .ref (b + x1)), (3, .ref (b + x3)), (4, .int x4), (5, .int x5), (6, .int x6), (7, .int x7)]) hx hb dX0_comesTo_66 hl (Nat.le_of_ble_eq_true rfl) rfl (fun ls hl => ?_)
              refine lv_aload_n hx hb dX0_comesTo_68 rfl (lv_at hl 3 rfl) ?_
              have t13 : kdC (R x3 0) = 1 := wt hT h3 rfl
              refine mm_getr hx hb hts hown hKK hP fk8_0 (Nat.le_of_ble_eq_true rfl) lkX0_80 (kdC_lt h3 (Nat.succ_ne_zero _)) h3 (nC t13 (Nat.succ_ne_zero _)) dX0_comesTo_69 ?_
              refine lv_iload hx hb dX0_comesTo_72 (lv_at hl 6 rfl) ?_
              obtain ⟨g14, hf⟩ := grd hf
              refine mm_iald hx hb hKK hP (kdC_lt t13 (Nat.succ_ne_zero _)) t13 g14 dX0_comesTo_74 ?_
              refine lv_istore (lv' := [(9, .int (I (R x3 0) x6.toNatClampNeg)), (8, .int (I (R x1 0) x5.toNatClampNeg)), (0, .ref (b + x0)), (1, .ref (b + x1)), (3, .ref (b + x3)), (4, .int x4), (5, .int x5), (6, .int x6), (7, .int x7)]) hx hb dX0_comesTo_75 hl (Nat.le_of_ble_eq_true rfl) rfl (fun ls hl => ?_)
              refine lv_iload hx hb dX0_comesTo_77 (lv_at hl 0 rfl) ?_
              obtain ⟨r15, e15, hf⟩ := bd1_o hf
              refine mm_Ni (rest := []) hx hb hml hown hts hKK hP hS hA nkX0_97 (k_X10_isUnknown l D ce b I L R hT (I (R x3 0) x6.toNatClampNeg)  r15 e15) rfl hl.1 rfl (Nat.le_of_ble_eq_true rfl) ⟨rfl, rfl⟩ ⟨Nat.le_of_ble_eq_true rfl, Nat.le_of_ble_eq_true rfl⟩ ⟨Nat.zero_le _, Nat.zero_le _⟩ dX0_comesTo_79 (fun H locs hP hT hS => ?_)
              refine jnE hf (fun j141_16 ej_16 hf => ?_)
              have hJ141_16 : ∀ (v5_16 : Int32) (v6_16 : Int32) (H : Heap) (locs : List Loc) (ls : Array Slot), va_P D vwCl (wd ce b kdC lnC 272 I L R) H → va_S (box b 272) s.heap H locs → lv_has ls 10 [(0, .ref (b + x0)), (1, .ref (b + x1)), (3, .ref (b + x3)), (4, .int x4), (5, .int v5_16), (6, .int v6_16), (7, .int x7)] → j141_16 v5_16 v6_16 = some q → W p l e rmX0_comesTo s m av below meth c H locs 0 0 QQ (F0 m 141 ls []) := by
                intro v5_16 v6_16 H locs ls hP hS  hl hf
                rw [ej_16] at hf
                try dsimp only at hf
                refine lv_iinc (v := (x7 + (1 : Int32))) (lv' := [(7, .int (x7 + (1 : Int32))), (0, .ref (b + x0)), (1, .ref (b + x1)), (3, .ref (b + x3)), (4, .int x4), (5, .int v5_16), (6, .int v6_16)]) hx hb dX0_comesTo_141 hl (k := 6) rfl rfl (Nat.le_of_ble_eq_true rfl) rfl (fun ls hl => ?_)
                refine lv_goto (tgt := 36) hx hb dX0_comesTo_144 (by decide) ?_
                exact ih x0 x1 x3 x4 v5_16 v6_16 (x7 + (1 : Int32)) I L R q H locs ls hP hS hT h0 h1 h3 (lv_sub hl [1, 2, 3, 4, 5, 6, 0] rfl) hf kx kr
              clear ej_16
              refine jnE hf (fun j102_17 ej_17 hf => ?_)
              have hJ102_17 : ∀ (H : Heap) (locs : List Loc) (ls : Array Slot), va_P D vwCl (wd ce b kdC lnC 272 I L R) H → va_S (box b 272) s.heap H locs → lv_has ls 10 [(0, .ref (b + x0)), (1, .ref (b + x1)), (3, .ref (b + x3)), (4, .int x4), (5, .int x5), (6, .int x6), (7, .int x7)] → j102_17  = some q → W p l e rmX0_comesTo s m av below meth c H locs 0 0 QQ (F0 m 102 ls []) := by
                intro  H locs ls hP hS  hl hf
                rw [ej_17] at hf
                try dsimp only at hf
                refine lv_aload_n hx hb dX0_comesTo_102 rfl (lv_at hl 1 rfl) ?_
                have t18 : kdC (R x1 1) = 1 := wt hT h1 rfl
                refine mm_getr hx hb hts hown hKK hP fk8_1 (Nat.le_of_ble_eq_true rfl) lkX0_94 (kdC_lt h1 (Nat.succ_ne_zero _)) h1 (nC t18 (Nat.succ_ne_zero _)) dX0_comesTo_103 ?_
                refine lv_iload hx hb dX0_comesTo_106 (lv_at hl 4 rfl) ?_
                obtain ⟨g19, hf⟩ := grd hf
                refine mm_iald hx hb hKK hP (kdC_lt t18 (Nat.succ_ne_zero _)) t18 g19 dX0_comesTo_108 ?_
                refine lv_istore (lv' := [(5, .int (I (R x1 1) x5.toNatClampNeg)), (0, .ref (b + x0)), (1, .ref (b + x1)), (3, .ref (b + x3)), (4, .int x4), (6, .int x6), (7, .int x7)]) hx hb dX0_comesTo_109 hl (Nat.le_of_ble_eq_true rfl) rfl (fun ls hl => ?_)
                refine lv_aload_n hx hb dX0_comesTo_111 rfl (lv_at hl 3 rfl) ?_
                have t20 : kdC (R x3 1) = 1 := wt hT h3 rfl
                refine mm_getr hx hb hts hown hKK hP fk8_1 (Nat.le_of_ble_eq_true rfl) lkX0_94 (kdC_lt h3 (Nat.succ_ne_zero _)) h3 (nC t20 (Nat.succ_ne_zero _)) dX0_comesTo_112 ?_
                refine lv_iload hx hb dX0_comesTo_115 (lv_at hl 5 rfl) ?_
                obtain ⟨g21, hf⟩ := grd hf
                refine mm_iald hx hb hKK hP (kdC_lt t20 (Nat.succ_ne_zero _)) t20 g21 dX0_comesTo_117 ?_
                refine lv_istore (lv' := [(6, .int (I (R x3 1) x6.toNatClampNeg)), (5, .int (I (R x1 1) x5.toNatClampNeg)), (0, .ref (b + x0)), (1, .ref (b + x1)), (3, .ref (b + x3)), (4, .int x4), (7, .int x7)]) hx hb dX0_comesTo_118 hl (Nat.le_of_ble_eq_true rfl) rfl (fun ls hl => ?_)
                refine lv_goto (tgt := 141) hx hb dX0_comesTo_120 (by decide) ?_
                exact hJ141_16 (I (R x1 1) x5.toNatClampNeg) (I (R x3 1) x6.toNatClampNeg) H locs ls hP hS  (lv_sub hl [2, 3, 4, 5, 1, 0, 6] rfl) hf
              clear ej_17
              refine lv_if_ne (tgt := 102) hx hb dX0_comesTo_82 (by decide) (fun c22 => ?_) (fun c22 => ?_)
              · have hf := ifF hf c22
                exact hJ102_17  H locs ls hP hS  (lv_sub hl [2, 3, 4, 5, 6, 7, 8] rfl) hf
              · have hf := ifT hf c22
                refine lv_iload hx hb dX0_comesTo_85 (lv_at hl 1 rfl) ?_
                obtain ⟨r23, e23, hf⟩ := bd1_o hf
                refine mm_Ni (rest := []) hx hb hml hown hts hKK hP hS hA nkX0_97 (k_X10_isUnknown l D ce b I L R hT (I (R x1 0) x5.toNatClampNeg)  r23 e23) rfl hl.1 rfl (Nat.le_of_ble_eq_true rfl) ⟨rfl, rfl⟩ ⟨Nat.le_of_ble_eq_true rfl, Nat.le_of_ble_eq_true rfl⟩ ⟨Nat.zero_le _, Nat.zero_le _⟩ dX0_comesTo_87 (fun H locs hP hT hS => ?_)
                refine lv_if_ne (tgt := 102) hx hb dX0_comesTo_90 (by decide) (fun c24 => ?_) (fun c24 => ?_)
                · have hf := ifF hf c24
                  exact hJ102_17  H locs ls hP hS  (lv_sub hl [2, 3, 4, 5, 6, 7, 8] rfl) hf
                · have hf := ifT hf c24
                  refine lv_aload_n hx hb dX0_comesTo_93 rfl (lv_at hl 2 rfl) ?_
                  refine lv_iload hx hb dX0_comesTo_94 (lv_at hl 1 rfl) ?_
                  obtain ⟨r25, e25, hf⟩ := bd1_o hf
                  refine mm_Vi (rest := []) hx hb hml hown hts hKK hP hS hA (kdC_lt h0 (Nat.succ_ne_zero _)) h0 (show vwCl[0]? = some (yX0_isHead.cls, TX0, 11) from rfl) vkX0_86 (k_X0_isHead l D ce b I L R hT x0 (I (R x1 0) x5.toNatClampNeg) h0 r25 e25) rfl hl.1 rfl (Nat.le_of_ble_eq_true rfl) ⟨rfl, rfl⟩ ⟨Nat.le_of_ble_eq_true rfl, Nat.le_of_ble_eq_true rfl⟩ ⟨Nat.zero_le _, Nat.zero_le _⟩ dX0_comesTo_96 (fun H locs hP hT hS => ?_)
                  refine lv_if_eq (tgt := 123) hx hb dX0_comesTo_99 (by decide) (fun c26 => ?_) (fun c26 => ?_)
                  · have hf := ifT hf c26
                    refine lv_iload hx hb dX0_comesTo_123 (lv_at hl 1 rfl) ?_
                    refine lv_iload hx hb dX0_comesTo_125 (lv_at hl 0 rfl) ?_
                    refine lv_icmp_ne (tgt := 139) hx hb dX0_comesTo_127 (by decide) (fun c27 => ?_) (fun c27 => ?_)
                    · have hf := ifF hf c27
                      refine lv_iconst (v := (0 : Int32)) hx hb dX0_comesTo_139 (by decide) ?_
                      exact kr (0 : Int32) hf H locs ls _ dX0_comesTo_140 rfl hP hT hS
                    · have hf := ifT hf c27
                      refine lv_iinc (v := (x5 + (1 : Int32))) (lv' := [(5, .int (x5 + (1 : Int32))), (9, .int (I (R x3 0) x6.toNatClampNeg)), (8, .int (I (R x1 0) x5.toNatClampNeg)), (0, .ref (b + x0)), (1, .ref (b + x1)), (3, .ref (b + x3)), (4, .int x4), (6, .int x6), (7, .int x7)]) hx hb dX0_comesTo_130 hl (k := 6) rfl rfl (Nat.le_of_ble_eq_true rfl) rfl (fun ls hl => ?_)
                      refine lv_iinc (v := (x6 + (1 : Int32))) (lv' := [(6, .int (x6 + (1 : Int32))), (5, .int (x5 + (1 : Int32))), (9, .int (I (R x3 0) x6.toNatClampNeg)), (8, .int (I (R x1 0) x5.toNatClampNeg)), (0, .ref (b + x0)), (1, .ref (b + x1)), (3, .ref (b + x3)), (4, .int x4), (7, .int x7)]) hx hb dX0_comesTo_133 hl (k := 7) rfl rfl (Nat.le_of_ble_eq_true rfl) rfl (fun ls hl => ?_)
                      refine lv_goto (tgt := 141) hx hb dX0_comesTo_136 (by decide) ?_
                      exact hJ141_16 (x5 + (1 : Int32)) (x6 + (1 : Int32)) H locs ls hP hS  (lv_sub hl [4, 5, 6, 7, 1, 0, 8] rfl) hf
                  · have hf := ifF hf c26
                    exact hJ102_17  H locs ls hP hS  (lv_sub hl [2, 3, 4, 5, 6, 7, 8] rfl) hf
    obtain ⟨q_28, e_28, hf⟩ := bdS_o hf
    refine lp36 FU x0 x1 x3 (I (R x1 1) x2.toNatClampNeg) (x2 + (1 : Int32)) (1 : Int32) (0 : Int32) I L R q_28 H locs ls hP hS hT h0 h1 h3 (lv_sub hl [4, 5, 7, 3, 2, 1, 0] rfl) e_28 (fun _ hq H locs ls hP hS hl => ?_) (fun r_28 hq H locs ls pc1 hd hz hP hT hS => ?_)
    · have hf := elR0 hf (Option.some.inj hq).symm
      refine lv_iconst (v := (1 : Int32)) hx hb dX0_comesTo_147 (by decide) ?_
      exact hret (1 : Int32) hf H locs ls _ dX0_comesTo_148 rfl hP hT hS
    · have hf := elL1 hf (Option.some.inj hq).symm
      exact hret r_28 hf H locs ls pc1 hd hz hP hT hS
  · have hf := ifF hf c5
    refine lv_iconst (v := (0 : Int32)) hx hb dX0_comesTo_15 (by decide) ?_
    exact hret (0 : Int32) hf H locs ls _ dX0_comesTo_16 rfl hP hT hS
def rmX0_followersOf : Room := { frames := 2, cells := 0, slots := 0, locals := 50 }
set_option maxHeartbeats 4000000 in
set_option maxRecDepth 100000 in
theorem k_X0_followersOf (l : Launch) (D : va_G) (ce : Nat → ClassId) (b : Nat) (I : mI) (L : mL) (R : mR) (hT : WT kdC R) (x0 : Nat) (x1 : Nat) (x2 : Int32) (h0 : kdC x0 = 6) (h1 : kdC x1 = 13) (o1 : Int64) (hf : f_X0_followersOf x0 x1 x2 I L R = some o1) : Met l yX0_followersOf (Cond.code yX0_followersOf cX0_followersOf 7 (some .long) :: GW) rmX0_followersOf (va_Pc [.ref (b + x0), .ref (b + x1), .int x2] (PW D ce b kdC lnC 272 I L R)) (va_Ql (fun r u => r = o1 ∧ u = (I, L, R)) (QW D ce b kdC lnC 272) (box b 272)) 0 0 (box b 272) := by
  refine Met.ofW (cc := cX0_followersOf) (maxL := 7) (ret := (some .long)) (by decide) rfl ?_
  intro p e s m args below meth c s₁ B hml hv
  obtain ⟨rfl, hP, hKK⟩ := hv
  have hx := B.exec
  have hb := B.bytes
  have hr := B.returns
  have hts0 := atoms_spec (ws := Cond.code yX0_followersOf cX0_followersOf 7 (some .long) :: GW) B.pre
  have hts : ∀ w ∈ GW, w.before _ s = true := fun w h => hts0 w (List.mem_cons_of_mem _ h)
  clear hts0
  have hown : s.vm.findClass RX0 = some m.cls := findClass_of_methodNamed B.named
  have hlocks := B.notSynchronized
  have hA : ∀ q, box b 272 q → box b 272 q := fun _ h => h
  have hS : va_S (box b 272) s.heap s.heap [] := va_S.rf
  have hl := lv_entry ([.ref (b + x0), .ref (b + x1), .int x2]) (n := 7) (Nat.le_of_ble_eq_true rfl)
  rw [lg_entry_eq]
  generalize (lg_sl ([.ref (b + x0), .ref (b + x1), .int x2]) ++ List.replicate (7 - (lg_sl ([.ref (b + x0), .ref (b + x1), .int x2])).length) Slot.unset).toArray = ls at hl ⊢
  have hl : lv_has ls 7 [(0, .ref (b + x0)), (1, .ref (b + x1)), (2, .int x2)] := hl
  generalize ([.ref (b + x0), .ref (b + x1), .int x2] : List Value).toArray = av at hts ⊢
  show W p l e rmX0_followersOf s m av below meth c s.heap [] 0 0 _ _
  obtain ⟨QQ, hQQ⟩ : ∃ z, z = MQ below (va_Ql (fun r u => r = o1 ∧ u = (I, L, R)) (QW D ce b kdC lnC 272) (box b 272)) av s 0 0 (box b 272) := ⟨_, rfl⟩
  rw [← hQQ]
  have hret : ∀ (r : Int64), some r = some o1 → ∀ (H1 : Heap) (locs1 : List Loc) (ls1 : Array Slot) (pc1 : Nat), decode cX0_followersOf pc1 = .ok (.lreturn, 1) → va_P D vwCl (wd ce b kdC lnC 272 I L R) H1 → WT kdC R → va_S (box b 272) s.heap H1 locs1 → W p l e rmX0_followersOf s m av below meth c H1 locs1 0 0 QQ (F0 m pc1 ls1 [.long r]) := by
    intro r hq H1 locs1 ls1 pc1 hd hP hT hS
    cases hq
    rw [hQQ]
    exact mm_lret hx hb hr hlocks hP hT hS hd
  unfold f_X0_followersOf at hf
  obtain ⟨H, hH⟩ : ∃ z, z = s.heap := ⟨_, rfl⟩
  obtain ⟨locs, hlo⟩ : ∃ z : List Loc, z = [] := ⟨_, rfl⟩
  have hP : va_P D vwCl (wd ce b kdC lnC 272 I L R) H := by rw [hH]; exact hP
  have hS : va_S (box b 272) s.heap H locs := by rw [hH, hlo]; exact hS
  rw [show W p l e rmX0_followersOf s m av below meth c s.heap [] 0 0 QQ = W p l e rmX0_followersOf s m av below meth c H locs 0 0 QQ by rw [hH, hlo]]
  clear hH hlo
  clear hQQ
  show W p l e rmX0_followersOf s m av below meth c H locs 0 0 QQ (F0 m 0 ls [])
  refine lv_aload_n hx hb dX0_followersOf_0 rfl (lv_at hl 1 rfl) ?_
  have t1 : kdC (R x1 0) = 4 := wt hT h1 rfl
  refine mm_getr hx hb hts hown hKK hP fk7_0 (Nat.le_of_ble_eq_true rfl) lkX0_38 (kdC_lt h1 (Nat.succ_ne_zero _)) h1 (nC t1 (Nat.succ_ne_zero _)) dX0_followersOf_1 ?_
  refine lv_aload_n hx hb dX0_followersOf_4 rfl (lv_at hl 0 rfl) ?_
  have t2 : kdC (R x0 0) = 1 := wt hT h0 rfl
  refine mm_getr hx hb hts hown hKK hP fk0_0 (Nat.le_of_ble_eq_true rfl) lkX0_9 (kdC_lt h0 (Nat.succ_ne_zero _)) h0 (nC t2 (Nat.succ_ne_zero _)) dX0_followersOf_5 ?_
  refine lv_iload_n hx hb dX0_followersOf_8 rfl (lv_at hl 2 rfl) ?_
  obtain ⟨g3, hf⟩ := grd hf
  refine mm_iald hx hb hKK hP (kdC_lt t2 (Nat.succ_ne_zero _)) t2 g3 dX0_followersOf_9 ?_
  obtain ⟨g4, hf⟩ := grd hf
  have t5 : kdC (R (R x1 0) ((I (R x0 0) x2.toNatClampNeg)).toNatClampNeg) = 9 := wt hT t1 rfl
  refine mm_aald4 hx hb hKK hP (kdC_lt t1 (Nat.succ_ne_zero _)) t1 g4 (nC t5 (Nat.succ_ne_zero _)) dX0_followersOf_10 ?_
  have t6 : kdC (R (R (R x1 0) ((I (R x0 0) x2.toNatClampNeg)).toNatClampNeg) 1) = 14 := wt hT t5 rfl
  refine mm_getr hx hb hts hown hKK hP fk3_1 (Nat.le_of_ble_eq_true rfl) lkX0_44 (kdC_lt t5 (Nat.succ_ne_zero _)) t5 (nC t6 (Nat.succ_ne_zero _)) dX0_followersOf_11 ?_
  refine lv_astore_n (lv' := [(3, .ref (b + (R (R (R x1 0) ((I (R x0 0) x2.toNatClampNeg)).toNatClampNeg) 1))), (0, .ref (b + x0)), (1, .ref (b + x1)), (2, .int x2)]) hx hb dX0_followersOf_14 rfl hl (Nat.le_of_ble_eq_true rfl) rfl (fun ls hl => ?_)
  refine lv_lconst (v := (0 : Int64)) hx hb dX0_followersOf_15 (by decide) ?_
  refine lv_lstore (lv' := [(4, .long (0 : Int64)), (3, .ref (b + (R (R (R x1 0) ((I (R x0 0) x2.toNatClampNeg)).toNatClampNeg) 1))), (0, .ref (b + x0)), (1, .ref (b + x1)), (2, .int x2)]) hx hb dX0_followersOf_16 hl (Nat.le_of_ble_eq_true rfl) rfl (fun ls hl => ?_)
  refine lv_iconst (v := (0 : Int32)) hx hb dX0_followersOf_18 (by decide) ?_
  refine lv_istore (lv' := [(6, .int (0 : Int32)), (4, .long (0 : Int64)), (3, .ref (b + (R (R (R x1 0) ((I (R x0 0) x2.toNatClampNeg)).toNatClampNeg) 1))), (0, .ref (b + x0)), (1, .ref (b + x1)), (2, .int x2)]) hx hb dX0_followersOf_19 hl (Nat.le_of_ble_eq_true rfl) rfl (fun ls hl => ?_)
  have lp21 : ∀ (n : Nat) (x0 : Nat) (x1 : Nat) (x2 : Int32) (x3 : Nat) (x4 : Int64) (x6 : Int32) (I : mI) (L : mL) (R : mR) (a1 : Int64) (H : Heap) (locs : List Loc) (ls : Array Slot), va_P D vwCl (wd ce b kdC lnC 272 I L R) H → va_S (box b 272) s.heap H locs → WT kdC R → kdC x0 = 6 → kdC x1 = 13 → kdC x3 = 14 → lv_has ls 7 [(0, .ref (b + x0)), (1, .ref (b + x1)), (2, .int x2), (3, .ref (b + x3)), (4, .long x4), (6, .int x6)] → f_X0_followersOf_L21 n x0 x1 x2 x3 x4 x6 I L R = some a1 → (∀ (H1 : Heap) (locs1 : List Loc) (ls1 : Array Slot), va_P D vwCl (wd ce b kdC lnC 272 I L R) H1 → va_S (box b 272) s.heap H1 locs1 → lv_has ls1 7 [(4, .long a1)] → W p l e rmX0_followersOf s m av below meth c H1 locs1 0 0 QQ (F0 m 72 ls1 [])) → W p l e rmX0_followersOf s m av below meth c H locs 0 0 QQ (F0 m 21 ls []) := by
    intro n
    induction n with
    | zero =>
      intro x0 x1 x2 x3 x4 x6 I L R a1 H locs ls hP hS hT h0 h1 h3 hl hf kx
      exact absurd (show (none : Option (Int64)) = some _ from hf) (by simp)
    | succ n ih =>
      intro x0 x1 x2 x3 x4 x6 I L R a1 H locs ls hP hS hT h0 h1 h3 hl hf kx
      rw [f_X0_followersOf_L21] at hf
      refine lv_iload hx hb dX0_followersOf_21 (lv_at hl 5 rfl) ?_
      refine lv_aload_n hx hb dX0_followersOf_23 rfl (lv_at hl 1 rfl) ?_
      refine mm_geti hx hb hts hown hKK hP fk7_2 (Or.inl rfl) lkX0_76 (kdC_lt h1 (Nat.succ_ne_zero _)) h1 dX0_followersOf_24 ?_
      refine lv_icmp_ge (tgt := 72) hx hb dX0_followersOf_27 (by decide) (fun c7 => ?_) (fun c7 => ?_)
      · have hf := ifT hf c7
        cases hf
        exact kx H locs ls hP hS (lv_sub hl [4] rfl)
      · have hf := ifF hf c7
        refine lv_aload_n hx hb dX0_followersOf_30 rfl (lv_at hl 0 rfl) ?_
        refine lv_aload_n hx hb dX0_followersOf_31 rfl (lv_at hl 3 rfl) ?_
        refine lv_aload_n hx hb dX0_followersOf_32 rfl (lv_at hl 0 rfl) ?_
        have t8 : kdC (R x0 1) = 1 := wt hT h0 rfl
        refine mm_getr hx hb hts hown hKK hP fk0_1 (Nat.le_of_ble_eq_true rfl) lkX0_15 (kdC_lt h0 (Nat.succ_ne_zero _)) h0 (nC t8 (Nat.succ_ne_zero _)) dX0_followersOf_33 ?_
        refine lv_iload_n hx hb dX0_followersOf_36 rfl (lv_at hl 2 rfl) ?_
        obtain ⟨g9, hf⟩ := grd hf
        refine mm_iald hx hb hKK hP (kdC_lt t8 (Nat.succ_ne_zero _)) t8 g9 dX0_followersOf_37 ?_
        refine lv_aload_n hx hb dX0_followersOf_38 rfl (lv_at hl 1 rfl) ?_
        have t10 : kdC (R x1 0) = 4 := wt hT h1 rfl
        refine mm_getr hx hb hts hown hKK hP fk7_0 (Nat.le_of_ble_eq_true rfl) lkX0_38 (kdC_lt h1 (Nat.succ_ne_zero _)) h1 (nC t10 (Nat.succ_ne_zero _)) dX0_followersOf_39 ?_
        refine lv_iload hx hb dX0_followersOf_42 (lv_at hl 5 rfl) ?_
        obtain ⟨g11, hf⟩ := grd hf
        have t12 : kdC (R (R x1 0) x6.toNatClampNeg) = 9 := wt hT t10 rfl
        refine mm_aald4 hx hb hKK hP (kdC_lt t10 (Nat.succ_ne_zero _)) t10 g11 (nC t12 (Nat.succ_ne_zero _)) dX0_followersOf_44 ?_
        have t13 : kdC (R (R (R x1 0) x6.toNatClampNeg) 0) = 14 := wt hT t12 rfl
        refine mm_getr hx hb hts hown hKK hP fk3_0 (Nat.le_of_ble_eq_true rfl) lkX0_77 (kdC_lt t12 (Nat.succ_ne_zero _)) t12 (nC t13 (Nat.succ_ne_zero _)) dX0_followersOf_45 ?_
        obtain ⟨r14, e14, hf⟩ := bd1_o hf
        refine mm_Vi (rest := []) hx hb hml hown hts hKK hP hS hA (kdC_lt h0 (Nat.succ_ne_zero _)) h0 (show vwCl[0]? = some (yX0_comesTo.cls, TX0, 11) from rfl) vkX0_90 (k_X0_comesTo l D ce b I L R hT x0 x3 (I (R x0 1) x2.toNatClampNeg) (R (R (R x1 0) x6.toNatClampNeg) 0) h0 h3 t13 r14 e14) rfl hl.1 rfl (Nat.le_of_ble_eq_true rfl) ⟨rfl, rfl⟩ ⟨Nat.le_of_ble_eq_true rfl, Nat.le_of_ble_eq_true rfl⟩ ⟨Nat.zero_le _, Nat.zero_le _⟩ dX0_followersOf_48 (fun H locs hP hT hS => ?_)
        refine jnE hf (fun j66_15 ej_15 hf => ?_)
        have hJ66_15 : ∀ (v4_15 : Int64) (H : Heap) (locs : List Loc) (ls : Array Slot), va_P D vwCl (wd ce b kdC lnC 272 I L R) H → va_S (box b 272) s.heap H locs → lv_has ls 7 [(0, .ref (b + x0)), (1, .ref (b + x1)), (2, .int x2), (3, .ref (b + x3)), (4, .long v4_15), (6, .int x6)] → j66_15 v4_15 = some a1 → W p l e rmX0_followersOf s m av below meth c H locs 0 0 QQ (F0 m 66 ls []) := by
          intro v4_15 H locs ls hP hS  hl hf
          rw [ej_15] at hf
          try dsimp only at hf
          refine lv_iinc (v := (x6 + (1 : Int32))) (lv' := [(6, .int (x6 + (1 : Int32))), (0, .ref (b + x0)), (1, .ref (b + x1)), (2, .int x2), (3, .ref (b + x3)), (4, .long v4_15)]) hx hb dX0_followersOf_66 hl (k := 5) rfl rfl (Nat.le_of_ble_eq_true rfl) rfl (fun ls hl => ?_)
          refine lv_goto (tgt := 21) hx hb dX0_followersOf_69 (by decide) ?_
          exact ih x0 x1 x2 x3 v4_15 (x6 + (1 : Int32)) I L R a1 H locs ls hP hS hT h0 h1 h3 (lv_sub hl [1, 2, 3, 4, 5, 0] rfl) hf kx
        clear ej_15
        refine lv_if_eq (tgt := 66) hx hb dX0_followersOf_51 (by decide) (fun c16 => ?_) (fun c16 => ?_)
        · have hf := ifT hf c16
          exact hJ66_15 x4 H locs ls hP hS  (lv_sub hl [0, 1, 2, 3, 4, 5] rfl) hf
        · have hf := ifF hf c16
          refine lv_lload hx hb dX0_followersOf_54 (lv_at hl 4 rfl) ?_
          refine lv_aload_n hx hb dX0_followersOf_56 rfl (lv_at hl 0 rfl) ?_
          have t17 : kdC (R x0 5) = 2 := wt hT h0 rfl
          refine mm_getr hx hb hts hown hKK hP fk0_5 (Nat.le_of_ble_eq_true rfl) lkX0_28 (kdC_lt h0 (Nat.succ_ne_zero _)) h0 (nC t17 (Nat.succ_ne_zero _)) dX0_followersOf_57 ?_
          refine lv_iload hx hb dX0_followersOf_60 (lv_at hl 5 rfl) ?_
          obtain ⟨g18, hf⟩ := grd hf
          refine mm_lald hx hb hKK hP (kdC_lt t17 (Nat.succ_ne_zero _)) t17 g18 dX0_followersOf_62 ?_
          refine lv_lor hx hb dX0_followersOf_63 ?_
          refine lv_lstore (lv' := [(4, .long (x4 ||| (L (R x0 5) x6.toNatClampNeg))), (0, .ref (b + x0)), (1, .ref (b + x1)), (2, .int x2), (3, .ref (b + x3)), (6, .int x6)]) hx hb dX0_followersOf_64 hl (Nat.le_of_ble_eq_true rfl) rfl (fun ls hl => ?_)
          exact hJ66_15 (x4 ||| (L (R x0 5) x6.toNatClampNeg)) H locs ls hP hS  (lv_sub hl [1, 2, 3, 4, 0, 5] rfl) hf
  obtain ⟨y4_19, e_19, hf⟩ := bd1_o hf
  refine lp21 FU x0 x1 x2 (R (R (R x1 0) ((I (R x0 0) x2.toNatClampNeg)).toNatClampNeg) 1) (0 : Int64) (0 : Int32) I L R y4_19 H locs ls hP hS hT h0 h1 t6 (lv_sub hl [3, 4, 5, 2, 1, 0] rfl) e_19 (fun H locs ls hP hS hl => ?_)
  refine lv_lload hx hb dX0_followersOf_72 (lv_at hl 0 rfl) ?_
  exact hret y4_19 hf H locs ls _ dX0_followersOf_74 hP hT hS
def rmX10_hasBit : Room := { frames := 0, cells := 0, slots := 0, locals := 0 }
set_option maxHeartbeats 4000000 in
set_option maxRecDepth 100000 in
theorem k_X10_hasBit (l : Launch) (D : va_G) (ce : Nat → ClassId) (b : Nat) (I : mI) (L : mL) (R : mR) (hT : WT kdC R) (x0 : Int64) (x2 : Int32)  (o1 : Int32) (hf : f_X10_hasBit x0 x2  = some o1) : Met l yX10_hasBit (Cond.code yX10_hasBit cX10_hasBit 3 (some .boolean) :: GW) rmX10_hasBit (va_Pc [.long x0, .int x2] (PW D ce b kdC lnC 272 I L R)) (va_Qi (fun r u => r = o1 ∧ u = (I, L, R)) (QW D ce b kdC lnC 272) (box b 272)) 0 0 (box b 272) := by
  refine Met.ofW (cc := cX10_hasBit) (maxL := 3) (ret := (some .boolean)) (by decide) rfl ?_
  intro p e s m args below meth c s₁ B hml hv
  obtain ⟨rfl, hP, hKK⟩ := hv
  have hx := B.exec
  have hb := B.bytes
  have hr := B.returns
  have hts0 := atoms_spec (ws := Cond.code yX10_hasBit cX10_hasBit 3 (some .boolean) :: GW) B.pre
  have hts : ∀ w ∈ GW, w.before _ s = true := fun w h => hts0 w (List.mem_cons_of_mem _ h)
  clear hts0
  have hown : s.vm.findClass RX10 = some m.cls := findClass_of_methodNamed B.named
  have hlocks := B.notSynchronized
  have hA : ∀ q, box b 272 q → box b 272 q := fun _ h => h
  have hS : va_S (box b 272) s.heap s.heap [] := va_S.rf
  have hl := lv_entry ([.long x0, .int x2]) (n := 3) (Nat.le_of_ble_eq_true rfl)
  rw [lg_entry_eq]
  generalize (lg_sl ([.long x0, .int x2]) ++ List.replicate (3 - (lg_sl ([.long x0, .int x2])).length) Slot.unset).toArray = ls at hl ⊢
  have hl : lv_has ls 3 [(0, .long x0), (2, .int x2)] := hl
  generalize ([.long x0, .int x2] : List Value).toArray = av at hts ⊢
  show W p l e rmX10_hasBit s m av below meth c s.heap [] 0 0 _ _
  obtain ⟨QQ, hQQ⟩ : ∃ z, z = MQ below (va_Qi (fun r u => r = o1 ∧ u = (I, L, R)) (QW D ce b kdC lnC 272) (box b 272)) av s 0 0 (box b 272) := ⟨_, rfl⟩
  rw [← hQQ]
  have hret : ∀ (r : Int32), some r = some o1 → ∀ (H1 : Heap) (locs1 : List Loc) (ls1 : Array Slot) (pc1 : Nat), decode cX10_hasBit pc1 = .ok (.ireturn, 1) → zb r = true → va_P D vwCl (wd ce b kdC lnC 272 I L R) H1 → WT kdC R → va_S (box b 272) s.heap H1 locs1 → W p l e rmX10_hasBit s m av below meth c H1 locs1 0 0 QQ (F0 m pc1 ls1 [.int r]) := by
    intro r hq H1 locs1 ls1 pc1 hd hz hP hT hS
    cases hq
    rw [hQQ]
    exact mm_zret hx hb hr hlocks hz hP hT hS hd
  unfold f_X10_hasBit at hf
  obtain ⟨H, hH⟩ : ∃ z, z = s.heap := ⟨_, rfl⟩
  obtain ⟨locs, hlo⟩ : ∃ z : List Loc, z = [] := ⟨_, rfl⟩
  have hP : va_P D vwCl (wd ce b kdC lnC 272 I L R) H := by rw [hH]; exact hP
  have hS : va_S (box b 272) s.heap H locs := by rw [hH, hlo]; exact hS
  rw [show W p l e rmX10_hasBit s m av below meth c s.heap [] 0 0 QQ = W p l e rmX10_hasBit s m av below meth c H locs 0 0 QQ by rw [hH, hlo]]
  clear hH hlo
  clear hQQ
  show W p l e rmX10_hasBit s m av below meth c H locs 0 0 QQ (F0 m 0 ls [])
  refine lv_lload_n hx hb dX10_hasBit_0 rfl (lv_at hl 0 rfl) ?_
  refine lv_iload_n hx hb dX10_hasBit_1 rfl (lv_at hl 1 rfl) ?_
  refine lv_lushr (v := ((x0).toUInt64 >>> ((x2).toInt64.toUInt64 &&& Int64.toUInt64 63)).toInt64) hx hb dX10_hasBit_2 rfl ?_
  refine lv_lconst (v := (1 : Int64)) hx hb dX10_hasBit_3 (by decide) ?_
  refine lv_land hx hb dX10_hasBit_4 ?_
  refine lv_lconst (v := (0 : Int64)) hx hb dX10_hasBit_5 (by decide) ?_
  refine W.lcmp hx hb dX10_hasBit_6 ?_
  refine lv_if_eq (tgt := 14) hx hb dX10_hasBit_7 (by decide) (fun c1 => ?_) (fun c1 => ?_)
  · have hf := ifT hf c1
    refine lv_iconst (v := (0 : Int32)) hx hb dX10_hasBit_14 (by decide) ?_
    exact hret (0 : Int32) hf H locs ls _ dX10_hasBit_15 rfl hP hT hS
  · have hf := ifF hf c1
    refine lv_iconst (v := (1 : Int32)) hx hb dX10_hasBit_10 (by decide) ?_
    refine lv_goto (tgt := 15) hx hb dX10_hasBit_11 (by decide) ?_
    exact hret (1 : Int32) hf H locs ls _ dX10_hasBit_15 rfl hP hT hS
def rmX0_reachOn : Room := { frames := 1, cells := 0, slots := 0, locals := 22 }
set_option maxHeartbeats 4000000 in
set_option maxRecDepth 100000 in
theorem k_X0_reachOn (l : Launch) (D : va_G) (ce : Nat → ClassId) (b : Nat) (I : mI) (L : mL) (R : mR) (hT : WT kdC R) (x0 : Nat) (h0 : kdC x0 = 6) (o1 : mL) (hf : f_X0_reachOn x0 I L R = some o1) : Met l yX0_reachOn (Cond.code yX0_reachOn cX0_reachOn 3 none :: GW) rmX0_reachOn (va_Pc [.ref (b + x0)] (PW D ce b kdC lnC 272 I L R)) (va_Qv (fun u => u = (I, o1, R)) (QW D ce b kdC lnC 272) (box b 272)) 0 0 (box b 272) := by
  refine Met.ofW (cc := cX0_reachOn) (maxL := 3) (ret := none) (by decide) rfl ?_
  intro p e s m args below meth c s₁ B hml hv
  obtain ⟨rfl, hP, hKK⟩ := hv
  have hx := B.exec
  have hb := B.bytes
  have hr := B.returns
  have hts0 := atoms_spec (ws := Cond.code yX0_reachOn cX0_reachOn 3 none :: GW) B.pre
  have hts : ∀ w ∈ GW, w.before _ s = true := fun w h => hts0 w (List.mem_cons_of_mem _ h)
  clear hts0
  have hown : s.vm.findClass RX0 = some m.cls := findClass_of_methodNamed B.named
  have hlocks := B.notSynchronized
  have hA : ∀ q, box b 272 q → box b 272 q := fun _ h => h
  have hS : va_S (box b 272) s.heap s.heap [] := va_S.rf
  have hl := lv_entry ([.ref (b + x0)]) (n := 3) (Nat.le_of_ble_eq_true rfl)
  rw [lg_entry_eq]
  generalize (lg_sl ([.ref (b + x0)]) ++ List.replicate (3 - (lg_sl ([.ref (b + x0)])).length) Slot.unset).toArray = ls at hl ⊢
  have hl : lv_has ls 3 [(0, .ref (b + x0))] := hl
  generalize ([.ref (b + x0)] : List Value).toArray = av at hts ⊢
  show W p l e rmX0_reachOn s m av below meth c s.heap [] 0 0 _ _
  obtain ⟨QQ, hQQ⟩ : ∃ z, z = MQ below (va_Qv (fun u => u = (I, o1, R)) (QW D ce b kdC lnC 272) (box b 272)) av s 0 0 (box b 272) := ⟨_, rfl⟩
  rw [← hQQ]
  have hret : ∀ (L1 : mL), some L1 = some o1 → ∀ (H1 : Heap) (locs1 : List Loc) (ls1 : Array Slot) (pc1 : Nat), decode cX0_reachOn pc1 = .ok (.return_, 1) → va_P D vwCl (wd ce b kdC lnC 272 I L1 R) H1 → WT kdC R → va_S (box b 272) s.heap H1 locs1 → W p l e rmX0_reachOn s m av below meth c H1 locs1 0 0 QQ (F0 m pc1 ls1 []) := by
    intro L1 hq H1 locs1 ls1 pc1 hd hP hT hS
    cases hq
    rw [hQQ]
    exact mm_vret hx hb hr hlocks hP hT hS hd
  unfold f_X0_reachOn at hf
  obtain ⟨H, hH⟩ : ∃ z, z = s.heap := ⟨_, rfl⟩
  obtain ⟨locs, hlo⟩ : ∃ z : List Loc, z = [] := ⟨_, rfl⟩
  have hP : va_P D vwCl (wd ce b kdC lnC 272 I L R) H := by rw [hH]; exact hP
  have hS : va_S (box b 272) s.heap H locs := by rw [hH, hlo]; exact hS
  rw [show W p l e rmX0_reachOn s m av below meth c s.heap [] 0 0 QQ = W p l e rmX0_reachOn s m av below meth c H locs 0 0 QQ by rw [hH, hlo]]
  clear hH hlo
  clear hQQ
  show W p l e rmX0_reachOn s m av below meth c H locs 0 0 QQ (F0 m 0 ls [])
  refine lv_iconst (v := (0 : Int32)) hx hb dX0_reachOn_0 (by decide) ?_
  refine lv_istore_n (lv' := [(1, .int (0 : Int32)), (0, .ref (b + x0))]) hx hb dX0_reachOn_1 rfl hl (Nat.le_of_ble_eq_true rfl) rfl (fun ls hl => ?_)
  have lp2 : ∀ (n : Nat) (x0 : Nat) (x1 : Int32) (I : mI) (L : mL) (R : mR) (a1 : mL) (H : Heap) (locs : List Loc) (ls : Array Slot), va_P D vwCl (wd ce b kdC lnC 272 I L R) H → va_S (box b 272) s.heap H locs → WT kdC R → kdC x0 = 6 → lv_has ls 3 [(0, .ref (b + x0)), (1, .int x1)] → f_X0_reachOn_L2 n x0 x1 I L R = some a1 → (∀ (H1 : Heap) (locs1 : List Loc) (ls1 : Array Slot), va_P D vwCl (wd ce b kdC lnC 272 I a1 R) H1 → va_S (box b 272) s.heap H1 locs1 → lv_has ls1 3 [] → W p l e rmX0_reachOn s m av below meth c H1 locs1 0 0 QQ (F0 m 60 ls1 [])) → W p l e rmX0_reachOn s m av below meth c H locs 0 0 QQ (F0 m 2 ls []) := by
    intro n
    induction n with
    | zero =>
      intro x0 x1 I L R a1 H locs ls hP hS hT h0 hl hf kx
      exact absurd (show (none : Option (mL)) = some _ from hf) (by simp)
    | succ n ih =>
      intro x0 x1 I L R a1 H locs ls hP hS hT h0 hl hf kx
      rw [f_X0_reachOn_L2] at hf
      refine lv_iload_n hx hb dX0_reachOn_2 rfl (lv_at hl 1 rfl) ?_
      refine lv_aload_n hx hb dX0_reachOn_3 rfl (lv_at hl 0 rfl) ?_
      refine mm_geti hx hb hts hown hKK hP fk0_8 (Or.inl rfl) lkX0_34 (kdC_lt h0 (Nat.succ_ne_zero _)) h0 dX0_reachOn_4 ?_
      refine lv_icmp_ge (tgt := 60) hx hb dX0_reachOn_7 (by decide) (fun c1 => ?_) (fun c1 => ?_)
      · have hf := ifT hf c1
        cases hf
        exact kx H locs ls hP hS (lv_sub hl [] rfl)
      · have hf := ifF hf c1
        refine lv_iconst (v := (0 : Int32)) hx hb dX0_reachOn_10 (by decide) ?_
        refine lv_istore_n (lv' := [(2, .int (0 : Int32)), (0, .ref (b + x0)), (1, .int x1)]) hx hb dX0_reachOn_11 rfl hl (Nat.le_of_ble_eq_true rfl) rfl (fun ls hl => ?_)
        have lp12 : ∀ (n : Nat) (x0 : Nat) (x1 : Int32) (x2 : Int32) (I : mI) (L : mL) (R : mR) (a1 : mL) (H : Heap) (locs : List Loc) (ls : Array Slot), va_P D vwCl (wd ce b kdC lnC 272 I L R) H → va_S (box b 272) s.heap H locs → WT kdC R → kdC x0 = 6 → lv_has ls 3 [(0, .ref (b + x0)), (1, .int x1), (2, .int x2)] → f_X0_reachOn_L12 n x0 x1 x2 I L R = some a1 → (∀ (H1 : Heap) (locs1 : List Loc) (ls1 : Array Slot), va_P D vwCl (wd ce b kdC lnC 272 I a1 R) H1 → va_S (box b 272) s.heap H1 locs1 → lv_has ls1 3 [(0, .ref (b + x0)), (1, .int x1)] → W p l e rmX0_reachOn s m av below meth c H1 locs1 0 0 QQ (F0 m 54 ls1 [])) → W p l e rmX0_reachOn s m av below meth c H locs 0 0 QQ (F0 m 12 ls []) := by
          intro n
          induction n with
          | zero =>
            intro x0 x1 x2 I L R a1 H locs ls hP hS hT h0 hl hf kx
            exact absurd (show (none : Option (mL)) = some _ from hf) (by simp)
          | succ n ih =>
            intro x0 x1 x2 I L R a1 H locs ls hP hS hT h0 hl hf kx
            rw [f_X0_reachOn_L12] at hf
            refine lv_iload_n hx hb dX0_reachOn_12 rfl (lv_at hl 2 rfl) ?_
            refine lv_aload_n hx hb dX0_reachOn_13 rfl (lv_at hl 0 rfl) ?_
            refine mm_geti hx hb hts hown hKK hP fk0_8 (Or.inl rfl) lkX0_34 (kdC_lt h0 (Nat.succ_ne_zero _)) h0 dX0_reachOn_14 ?_
            refine lv_icmp_ge (tgt := 54) hx hb dX0_reachOn_17 (by decide) (fun c2 => ?_) (fun c2 => ?_)
            · have hf := ifT hf c2
              cases hf
              exact kx H locs ls hP hS (lv_sub hl [0, 1] rfl)
            · have hf := ifF hf c2
              refine lv_aload_n hx hb dX0_reachOn_20 rfl (lv_at hl 0 rfl) ?_
              have t3 : kdC (R x0 4) = 2 := wt hT h0 rfl
              refine mm_getr hx hb hts hown hKK hP fk0_4 (Nat.le_of_ble_eq_true rfl) lkX0_25 (kdC_lt h0 (Nat.succ_ne_zero _)) h0 (nC t3 (Nat.succ_ne_zero _)) dX0_reachOn_21 ?_
              refine lv_iload_n hx hb dX0_reachOn_24 rfl (lv_at hl 2 rfl) ?_
              obtain ⟨g4, hf⟩ := grd hf
              refine mm_lald hx hb hKK hP (kdC_lt t3 (Nat.succ_ne_zero _)) t3 g4 dX0_reachOn_25 ?_
              refine lv_iload_n hx hb dX0_reachOn_26 rfl (lv_at hl 1 rfl) ?_
              obtain ⟨r5, e5, hf⟩ := bd1_o hf
              refine mm_Ni (rest := []) hx hb hml hown hts hKK hP hS hA nkX0_100 (k_X10_hasBit l D ce b I L R hT (L (R x0 4) x2.toNatClampNeg) x1  r5 e5) rfl hl.1 rfl (Nat.le_of_ble_eq_true rfl) ⟨rfl, rfl⟩ ⟨Nat.le_of_ble_eq_true rfl, Nat.le_of_ble_eq_true rfl⟩ ⟨Nat.zero_le _, Nat.zero_le _⟩ dX0_reachOn_27 (fun H locs hP hT hS => ?_)
              refine jnE hf (fun j48_6 ej_6 hf => ?_)
              have hJ48_6 : ∀ (L_6 : mL) (H : Heap) (locs : List Loc) (ls : Array Slot), va_P D vwCl (wd ce b kdC lnC 272 I L_6 R) H → va_S (box b 272) s.heap H locs → lv_has ls 3 [(0, .ref (b + x0)), (1, .int x1), (2, .int x2)] → j48_6 L_6 = some a1 → W p l e rmX0_reachOn s m av below meth c H locs 0 0 QQ (F0 m 48 ls []) := by
                intro L_6 H locs ls hP hS  hl hf
                rw [ej_6] at hf
                try dsimp only at hf
                refine lv_iinc (v := (x2 + (1 : Int32))) (lv' := [(2, .int (x2 + (1 : Int32))), (0, .ref (b + x0)), (1, .int x1)]) hx hb dX0_reachOn_48 hl (k := 2) rfl rfl (Nat.le_of_ble_eq_true rfl) rfl (fun ls hl => ?_)
                refine lv_goto (tgt := 12) hx hb dX0_reachOn_51 (by decide) ?_
                exact ih x0 x1 (x2 + (1 : Int32)) I L_6 R a1 H locs ls hP hS hT h0 (lv_sub hl [1, 2, 0] rfl) hf kx
              clear ej_6
              refine lv_if_eq (tgt := 48) hx hb dX0_reachOn_30 (by decide) (fun c7 => ?_) (fun c7 => ?_)
              · have hf := ifT hf c7
                exact hJ48_6 L H locs ls hP hS  (lv_sub hl [0, 1, 2] rfl) hf
              · have hf := ifF hf c7
                refine lv_aload_n hx hb dX0_reachOn_33 rfl (lv_at hl 0 rfl) ?_
                refine mm_getr hx hb hts hown hKK hP fk0_4 (Nat.le_of_ble_eq_true rfl) lkX0_25 (kdC_lt h0 (Nat.succ_ne_zero _)) h0 (nC t3 (Nat.succ_ne_zero _)) dX0_reachOn_34 ?_
                refine lv_iload_n hx hb dX0_reachOn_37 rfl (lv_at hl 2 rfl) ?_
                refine lv_dup2_11 hx hb dX0_reachOn_38 rfl rfl ?_
                refine mm_lald hx hb hKK hP (kdC_lt t3 (Nat.succ_ne_zero _)) t3 g4 dX0_reachOn_39 ?_
                refine lv_aload_n hx hb dX0_reachOn_40 rfl (lv_at hl 0 rfl) ?_
                refine mm_getr hx hb hts hown hKK hP fk0_4 (Nat.le_of_ble_eq_true rfl) lkX0_25 (kdC_lt h0 (Nat.succ_ne_zero _)) h0 (nC t3 (Nat.succ_ne_zero _)) dX0_reachOn_41 ?_
                refine lv_iload_n hx hb dX0_reachOn_44 rfl (lv_at hl 1 rfl) ?_
                obtain ⟨g8, hf⟩ := grd hf
                refine mm_lald hx hb hKK hP (kdC_lt t3 (Nat.succ_ne_zero _)) t3 g8 dX0_reachOn_45 ?_
                refine lv_lor hx hb dX0_reachOn_46 ?_
                refine jnE hf (fun L9 eL9 hf => ?_)
                refine mm_last hx hb hKK hP hA hS (kdC_lt t3 (Nat.succ_ne_zero _)) t3 g4 dX0_reachOn_47 (fun H locs hP hS => ?_)
                rw [← eL9] at hP
                exact hJ48_6 L9 H locs ls hP hS  (lv_sub hl [0, 1, 2] rfl) hf
        obtain ⟨L_10, e_10, hf⟩ := bd1_o hf
        refine lp12 FU x0 x1 (0 : Int32) I L R L_10 H locs ls hP hS hT h0 (lv_sub hl [1, 2, 0] rfl) e_10 (fun H locs ls hP hS hl => ?_)
        refine lv_iinc (v := (x1 + (1 : Int32))) (lv' := [(1, .int (x1 + (1 : Int32))), (0, .ref (b + x0))]) hx hb dX0_reachOn_54 hl (k := 1) rfl rfl (Nat.le_of_ble_eq_true rfl) rfl (fun ls hl => ?_)
        refine lv_goto (tgt := 2) hx hb dX0_reachOn_57 (by decide) ?_
        exact ih x0 (x1 + (1 : Int32)) I L_10 R a1 H locs ls hP hS hT h0 (lv_sub hl [1, 0] rfl) hf kx
  obtain ⟨L_11, e_11, hf⟩ := bd1_o hf
  refine lp2 FU x0 (0 : Int32) I L R L_11 H locs ls hP hS hT h0 (lv_sub hl [1, 0] rfl) e_11 (fun H locs ls hP hS hl => ?_)
  exact hret L_11 hf H locs ls _ dX0_reachOn_60 hP hT hS
def rmX0_nameRing : Room := { frames := 1, cells := 0, slots := 0, locals := 22 }
set_option maxHeartbeats 4000000 in
set_option maxRecDepth 100000 in
theorem k_X0_nameRing (l : Launch) (D : va_G) (ce : Nat → ClassId) (b : Nat) (I : mI) (L : mL) (R : mR) (hT : WT kdC R) (x0 : Nat) (x1 : Int32) (h0 : kdC x0 = 6) (o1 : mI) (hf : f_X0_nameRing x0 x1 I L R = some o1) : Met l yX0_nameRing (Cond.code yX0_nameRing cX0_nameRing 3 none :: GW) rmX0_nameRing (va_Pc [.ref (b + x0), .int x1] (PW D ce b kdC lnC 272 I L R)) (va_Qv (fun u => u = (o1, L, R)) (QW D ce b kdC lnC 272) (box b 272)) 0 0 (box b 272) := by
  refine Met.ofW (cc := cX0_nameRing) (maxL := 3) (ret := none) (by decide) rfl ?_
  intro p e s m args below meth c s₁ B hml hv
  obtain ⟨rfl, hP, hKK⟩ := hv
  have hx := B.exec
  have hb := B.bytes
  have hr := B.returns
  have hts0 := atoms_spec (ws := Cond.code yX0_nameRing cX0_nameRing 3 none :: GW) B.pre
  have hts : ∀ w ∈ GW, w.before _ s = true := fun w h => hts0 w (List.mem_cons_of_mem _ h)
  clear hts0
  have hown : s.vm.findClass RX0 = some m.cls := findClass_of_methodNamed B.named
  have hlocks := B.notSynchronized
  have hA : ∀ q, box b 272 q → box b 272 q := fun _ h => h
  have hS : va_S (box b 272) s.heap s.heap [] := va_S.rf
  have hl := lv_entry ([.ref (b + x0), .int x1]) (n := 3) (Nat.le_of_ble_eq_true rfl)
  rw [lg_entry_eq]
  generalize (lg_sl ([.ref (b + x0), .int x1]) ++ List.replicate (3 - (lg_sl ([.ref (b + x0), .int x1])).length) Slot.unset).toArray = ls at hl ⊢
  have hl : lv_has ls 3 [(0, .ref (b + x0)), (1, .int x1)] := hl
  generalize ([.ref (b + x0), .int x1] : List Value).toArray = av at hts ⊢
  show W p l e rmX0_nameRing s m av below meth c s.heap [] 0 0 _ _
  obtain ⟨QQ, hQQ⟩ : ∃ z, z = MQ below (va_Qv (fun u => u = (o1, L, R)) (QW D ce b kdC lnC 272) (box b 272)) av s 0 0 (box b 272) := ⟨_, rfl⟩
  rw [← hQQ]
  have hret : ∀ (I1 : mI), some I1 = some o1 → ∀ (H1 : Heap) (locs1 : List Loc) (ls1 : Array Slot) (pc1 : Nat), decode cX0_nameRing pc1 = .ok (.return_, 1) → va_P D vwCl (wd ce b kdC lnC 272 I1 L R) H1 → WT kdC R → va_S (box b 272) s.heap H1 locs1 → W p l e rmX0_nameRing s m av below meth c H1 locs1 0 0 QQ (F0 m pc1 ls1 []) := by
    intro I1 hq H1 locs1 ls1 pc1 hd hP hT hS
    cases hq
    rw [hQQ]
    exact mm_vret hx hb hr hlocks hP hT hS hd
  unfold f_X0_nameRing at hf
  obtain ⟨H, hH⟩ : ∃ z, z = s.heap := ⟨_, rfl⟩
  obtain ⟨locs, hlo⟩ : ∃ z : List Loc, z = [] := ⟨_, rfl⟩
  have hP : va_P D vwCl (wd ce b kdC lnC 272 I L R) H := by rw [hH]; exact hP
  have hS : va_S (box b 272) s.heap H locs := by rw [hH, hlo]; exact hS
  rw [show W p l e rmX0_nameRing s m av below meth c s.heap [] 0 0 QQ = W p l e rmX0_nameRing s m av below meth c H locs 0 0 QQ by rw [hH, hlo]]
  clear hH hlo
  clear hQQ
  show W p l e rmX0_nameRing s m av below meth c H locs 0 0 QQ (F0 m 0 ls [])
  refine lv_iload_n hx hb dX0_nameRing_0 rfl (lv_at hl 1 rfl) ?_
  refine lv_istore_n (lv' := [(2, .int x1), (0, .ref (b + x0)), (1, .int x1)]) hx hb dX0_nameRing_1 rfl hl (Nat.le_of_ble_eq_true rfl) rfl (fun ls hl => ?_)
  have lp2 : ∀ (n : Nat) (x0 : Nat) (x1 : Int32) (x2 : Int32) (I : mI) (L : mL) (R : mR) (a1 : mI) (H : Heap) (locs : List Loc) (ls : Array Slot), va_P D vwCl (wd ce b kdC lnC 272 I L R) H → va_S (box b 272) s.heap H locs → WT kdC R → kdC x0 = 6 → lv_has ls 3 [(0, .ref (b + x0)), (1, .int x1), (2, .int x2)] → f_X0_nameRing_L2 n x0 x1 x2 I L R = some a1 → (∀ (H1 : Heap) (locs1 : List Loc) (ls1 : Array Slot), va_P D vwCl (wd ce b kdC lnC 272 a1 L R) H1 → va_S (box b 272) s.heap H1 locs1 → lv_has ls1 3 [(0, .ref (b + x0))] → W p l e rmX0_nameRing s m av below meth c H1 locs1 0 0 QQ (F0 m 52 ls1 [])) → W p l e rmX0_nameRing s m av below meth c H locs 0 0 QQ (F0 m 2 ls []) := by
    intro n
    induction n with
    | zero =>
      intro x0 x1 x2 I L R a1 H locs ls hP hS hT h0 hl hf kx
      exact absurd (show (none : Option (mI)) = some _ from hf) (by simp)
    | succ n ih =>
      intro x0 x1 x2 I L R a1 H locs ls hP hS hT h0 hl hf kx
      rw [f_X0_nameRing_L2] at hf
      refine lv_iload_n hx hb dX0_nameRing_2 rfl (lv_at hl 2 rfl) ?_
      refine lv_aload_n hx hb dX0_nameRing_3 rfl (lv_at hl 0 rfl) ?_
      refine mm_geti hx hb hts hown hKK hP fk0_8 (Or.inl rfl) lkX0_34 (kdC_lt h0 (Nat.succ_ne_zero _)) h0 dX0_nameRing_4 ?_
      refine lv_icmp_ge (tgt := 52) hx hb dX0_nameRing_7 (by decide) (fun c1 => ?_) (fun c1 => ?_)
      · have hf := ifT hf c1
        cases hf
        exact kx H locs ls hP hS (lv_sub hl [0] rfl)
      · have hf := ifF hf c1
        refine lv_aload_n hx hb dX0_nameRing_10 rfl (lv_at hl 0 rfl) ?_
        have t2 : kdC (R x0 4) = 2 := wt hT h0 rfl
        refine mm_getr hx hb hts hown hKK hP fk0_4 (Nat.le_of_ble_eq_true rfl) lkX0_25 (kdC_lt h0 (Nat.succ_ne_zero _)) h0 (nC t2 (Nat.succ_ne_zero _)) dX0_nameRing_11 ?_
        refine lv_iload_n hx hb dX0_nameRing_14 rfl (lv_at hl 1 rfl) ?_
        obtain ⟨g3, hf⟩ := grd hf
        refine mm_lald hx hb hKK hP (kdC_lt t2 (Nat.succ_ne_zero _)) t2 g3 dX0_nameRing_15 ?_
        refine lv_iload_n hx hb dX0_nameRing_16 rfl (lv_at hl 2 rfl) ?_
        obtain ⟨r4, e4, hf⟩ := bd1_o hf
        refine mm_Ni (rest := []) hx hb hml hown hts hKK hP hS hA nkX0_100 (k_X10_hasBit l D ce b I L R hT (L (R x0 4) x1.toNatClampNeg) x2  r4 e4) rfl hl.1 rfl (Nat.le_of_ble_eq_true rfl) ⟨rfl, rfl⟩ ⟨Nat.le_of_ble_eq_true rfl, Nat.le_of_ble_eq_true rfl⟩ ⟨Nat.zero_le _, Nat.zero_le _⟩ dX0_nameRing_17 (fun H locs hP hT hS => ?_)
        refine jnE hf (fun j46_5 ej_5 hf => ?_)
        have hJ46_5 : ∀ (I_5 : mI) (H : Heap) (locs : List Loc) (ls : Array Slot), va_P D vwCl (wd ce b kdC lnC 272 I_5 L R) H → va_S (box b 272) s.heap H locs → lv_has ls 3 [(0, .ref (b + x0)), (1, .int x1), (2, .int x2)] → j46_5 I_5 = some a1 → W p l e rmX0_nameRing s m av below meth c H locs 0 0 QQ (F0 m 46 ls []) := by
          intro I_5 H locs ls hP hS  hl hf
          rw [ej_5] at hf
          try dsimp only at hf
          refine lv_iinc (v := (x2 + (1 : Int32))) (lv' := [(2, .int (x2 + (1 : Int32))), (0, .ref (b + x0)), (1, .int x1)]) hx hb dX0_nameRing_46 hl (k := 2) rfl rfl (Nat.le_of_ble_eq_true rfl) rfl (fun ls hl => ?_)
          refine lv_goto (tgt := 2) hx hb dX0_nameRing_49 (by decide) ?_
          exact ih x0 x1 (x2 + (1 : Int32)) I_5 L R a1 H locs ls hP hS hT h0 (lv_sub hl [1, 2, 0] rfl) hf kx
        clear ej_5
        refine lv_if_eq (tgt := 46) hx hb dX0_nameRing_20 (by decide) (fun c6 => ?_) (fun c6 => ?_)
        · have hf := ifT hf c6
          exact hJ46_5 I H locs ls hP hS  (lv_sub hl [0, 1, 2] rfl) hf
        · have hf := ifF hf c6
          refine lv_aload_n hx hb dX0_nameRing_23 rfl (lv_at hl 0 rfl) ?_
          refine mm_getr hx hb hts hown hKK hP fk0_4 (Nat.le_of_ble_eq_true rfl) lkX0_25 (kdC_lt h0 (Nat.succ_ne_zero _)) h0 (nC t2 (Nat.succ_ne_zero _)) dX0_nameRing_24 ?_
          refine lv_iload_n hx hb dX0_nameRing_27 rfl (lv_at hl 2 rfl) ?_
          obtain ⟨g7, hf⟩ := grd hf
          refine mm_lald hx hb hKK hP (kdC_lt t2 (Nat.succ_ne_zero _)) t2 g7 dX0_nameRing_28 ?_
          refine lv_iload_n hx hb dX0_nameRing_29 rfl (lv_at hl 1 rfl) ?_
          obtain ⟨r8, e8, hf⟩ := bd1_o hf
          refine mm_Ni (rest := []) hx hb hml hown hts hKK hP hS hA nkX0_100 (k_X10_hasBit l D ce b I L R hT (L (R x0 4) x2.toNatClampNeg) x1  r8 e8) rfl hl.1 rfl (Nat.le_of_ble_eq_true rfl) ⟨rfl, rfl⟩ ⟨Nat.le_of_ble_eq_true rfl, Nat.le_of_ble_eq_true rfl⟩ ⟨Nat.zero_le _, Nat.zero_le _⟩ dX0_nameRing_30 (fun H locs hP hT hS => ?_)
          refine lv_if_eq (tgt := 46) hx hb dX0_nameRing_33 (by decide) (fun c9 => ?_) (fun c9 => ?_)
          · have hf := ifT hf c9
            exact hJ46_5 I H locs ls hP hS  (lv_sub hl [0, 1, 2] rfl) hf
          · have hf := ifF hf c9
            refine lv_aload_n hx hb dX0_nameRing_36 rfl (lv_at hl 0 rfl) ?_
            have t10 : kdC (R x0 2) = 1 := wt hT h0 rfl
            refine mm_getr hx hb hts hown hKK hP fk0_2 (Nat.le_of_ble_eq_true rfl) lkX0_18 (kdC_lt h0 (Nat.succ_ne_zero _)) h0 (nC t10 (Nat.succ_ne_zero _)) dX0_nameRing_37 ?_
            refine lv_iload_n hx hb dX0_nameRing_40 rfl (lv_at hl 2 rfl) ?_
            refine lv_aload_n hx hb dX0_nameRing_41 rfl (lv_at hl 0 rfl) ?_
            refine mm_geti hx hb hts hown hKK hP fk0_9 (Or.inl rfl) lkX0_104 (kdC_lt h0 (Nat.succ_ne_zero _)) h0 dX0_nameRing_42 ?_
            obtain ⟨g11, hf⟩ := grd hf
            refine jnE hf (fun I12 eI12 hf => ?_)
            refine mm_iast hx hb hKK hP hA hS (kdC_lt t10 (Nat.succ_ne_zero _)) t10 g11 dX0_nameRing_45 (fun H locs hP hS => ?_)
            rw [← eI12] at hP
            exact hJ46_5 I12 H locs ls hP hS  (lv_sub hl [0, 1, 2] rfl) hf
  obtain ⟨I_13, e_13, hf⟩ := bd1_o hf
  refine lp2 FU x0 x1 x1 I L R I_13 H locs ls hP hS hT h0 (lv_sub hl [1, 2, 0] rfl) e_13 (fun H locs ls hP hS hl => ?_)
  refine lv_aload_n hx hb dX0_nameRing_52 rfl (lv_at hl 0 rfl) ?_
  refine lv_dup hx hb dX0_nameRing_53 rfl ?_
  refine mm_geti hx hb hts hown hKK hP fk0_9 (Or.inl rfl) lkX0_104 (kdC_lt h0 (Nat.succ_ne_zero _)) h0 dX0_nameRing_54 ?_
  refine lv_iconst (v := (1 : Int32)) hx hb dX0_nameRing_57 (by decide) ?_
  refine lv_iadd hx hb dX0_nameRing_58 ?_
  refine jnE hf (fun I14 eI14 hf => ?_)
  refine mm_puti hx hb hts hown hKK hP hA hS fk0_9 (Or.inl rfl) fw0_9 lkX0_104 (kdC_lt h0 (Nat.succ_ne_zero _)) h0 rfl rfl dX0_nameRing_59 (fun H locs hP hS => ?_)
  rw [← eI14] at hP
  exact hret I14 hf H locs ls _ dX0_nameRing_62 hP hT hS
def rmX0_findRings : Room := { frames := 2, cells := 0, slots := 0, locals := 44 }
set_option maxHeartbeats 4000000 in
set_option maxRecDepth 100000 in
theorem k_X0_findRings (l : Launch) (D : va_G) (ce : Nat → ClassId) (b : Nat) (I : mI) (L : mL) (R : mR) (hT : WT kdC R) (x0 : Nat) (h0 : kdC x0 = 6) (o1 : mI) (hf : f_X0_findRings x0 I L R = some o1) : Met l yX0_findRings (Cond.code yX0_findRings cX0_findRings 2 none :: GW) rmX0_findRings (va_Pc [.ref (b + x0)] (PW D ce b kdC lnC 272 I L R)) (va_Qv (fun u => u = (o1, L, R)) (QW D ce b kdC lnC 272) (box b 272)) 0 0 (box b 272) := by
  refine Met.ofW (cc := cX0_findRings) (maxL := 2) (ret := none) (by decide) rfl ?_
  intro p e s m args below meth c s₁ B hml hv
  obtain ⟨rfl, hP, hKK⟩ := hv
  have hx := B.exec
  have hb := B.bytes
  have hr := B.returns
  have hts0 := atoms_spec (ws := Cond.code yX0_findRings cX0_findRings 2 none :: GW) B.pre
  have hts : ∀ w ∈ GW, w.before _ s = true := fun w h => hts0 w (List.mem_cons_of_mem _ h)
  clear hts0
  have hown : s.vm.findClass RX0 = some m.cls := findClass_of_methodNamed B.named
  have hlocks := B.notSynchronized
  have hA : ∀ q, box b 272 q → box b 272 q := fun _ h => h
  have hS : va_S (box b 272) s.heap s.heap [] := va_S.rf
  have hl := lv_entry ([.ref (b + x0)]) (n := 2) (Nat.le_of_ble_eq_true rfl)
  rw [lg_entry_eq]
  generalize (lg_sl ([.ref (b + x0)]) ++ List.replicate (2 - (lg_sl ([.ref (b + x0)])).length) Slot.unset).toArray = ls at hl ⊢
  have hl : lv_has ls 2 [(0, .ref (b + x0))] := hl
  generalize ([.ref (b + x0)] : List Value).toArray = av at hts ⊢
  show W p l e rmX0_findRings s m av below meth c s.heap [] 0 0 _ _
  obtain ⟨QQ, hQQ⟩ : ∃ z, z = MQ below (va_Qv (fun u => u = (o1, L, R)) (QW D ce b kdC lnC 272) (box b 272)) av s 0 0 (box b 272) := ⟨_, rfl⟩
  rw [← hQQ]
  have hret : ∀ (I1 : mI), some I1 = some o1 → ∀ (H1 : Heap) (locs1 : List Loc) (ls1 : Array Slot) (pc1 : Nat), decode cX0_findRings pc1 = .ok (.return_, 1) → va_P D vwCl (wd ce b kdC lnC 272 I1 L R) H1 → WT kdC R → va_S (box b 272) s.heap H1 locs1 → W p l e rmX0_findRings s m av below meth c H1 locs1 0 0 QQ (F0 m pc1 ls1 []) := by
    intro I1 hq H1 locs1 ls1 pc1 hd hP hT hS
    cases hq
    rw [hQQ]
    exact mm_vret hx hb hr hlocks hP hT hS hd
  unfold f_X0_findRings at hf
  obtain ⟨H, hH⟩ : ∃ z, z = s.heap := ⟨_, rfl⟩
  obtain ⟨locs, hlo⟩ : ∃ z : List Loc, z = [] := ⟨_, rfl⟩
  have hP : va_P D vwCl (wd ce b kdC lnC 272 I L R) H := by rw [hH]; exact hP
  have hS : va_S (box b 272) s.heap H locs := by rw [hH, hlo]; exact hS
  rw [show W p l e rmX0_findRings s m av below meth c s.heap [] 0 0 QQ = W p l e rmX0_findRings s m av below meth c H locs 0 0 QQ by rw [hH, hlo]]
  clear hH hlo
  clear hQQ
  show W p l e rmX0_findRings s m av below meth c H locs 0 0 QQ (F0 m 0 ls [])
  refine lv_aload_n hx hb dX0_findRings_0 rfl (lv_at hl 0 rfl) ?_
  refine lv_iconst (v := (0 : Int32)) hx hb dX0_findRings_1 (by decide) ?_
  refine jnE hf (fun I1 eI1 hf => ?_)
  refine mm_puti hx hb hts hown hKK hP hA hS fk0_9 (Or.inl rfl) fw0_9 lkX0_104 (kdC_lt h0 (Nat.succ_ne_zero _)) h0 rfl rfl dX0_findRings_2 (fun H locs hP hS => ?_)
  rw [← eI1] at hP
  refine lv_iconst (v := (0 : Int32)) hx hb dX0_findRings_5 (by decide) ?_
  refine lv_istore_n (lv' := [(1, .int (0 : Int32)), (0, .ref (b + x0))]) hx hb dX0_findRings_6 rfl hl (Nat.le_of_ble_eq_true rfl) rfl (fun ls hl => ?_)
  have lp7 : ∀ (n : Nat) (x0 : Nat) (x1 : Int32) (I : mI) (L : mL) (R : mR) (a1 : mI) (H : Heap) (locs : List Loc) (ls : Array Slot), va_P D vwCl (wd ce b kdC lnC 272 I L R) H → va_S (box b 272) s.heap H locs → WT kdC R → kdC x0 = 6 → lv_has ls 2 [(0, .ref (b + x0)), (1, .int x1)] → f_X0_findRings_L7 n x0 x1 I L R = some a1 → (∀ (H1 : Heap) (locs1 : List Loc) (ls1 : Array Slot), va_P D vwCl (wd ce b kdC lnC 272 a1 L R) H1 → va_S (box b 272) s.heap H1 locs1 → lv_has ls1 2 [(0, .ref (b + x0))] → W p l e rmX0_findRings s m av below meth c H1 locs1 0 0 QQ (F0 m 28 ls1 [])) → W p l e rmX0_findRings s m av below meth c H locs 0 0 QQ (F0 m 7 ls []) := by
    intro n
    induction n with
    | zero =>
      intro x0 x1 I L R a1 H locs ls hP hS hT h0 hl hf kx
      exact absurd (show (none : Option (mI)) = some _ from hf) (by simp)
    | succ n ih =>
      intro x0 x1 I L R a1 H locs ls hP hS hT h0 hl hf kx
      rw [f_X0_findRings_L7] at hf
      refine lv_iload_n hx hb dX0_findRings_7 rfl (lv_at hl 1 rfl) ?_
      refine lv_aload_n hx hb dX0_findRings_8 rfl (lv_at hl 0 rfl) ?_
      refine mm_geti hx hb hts hown hKK hP fk0_8 (Or.inl rfl) lkX0_34 (kdC_lt h0 (Nat.succ_ne_zero _)) h0 dX0_findRings_9 ?_
      refine lv_icmp_ge (tgt := 28) hx hb dX0_findRings_12 (by decide) (fun c2 => ?_) (fun c2 => ?_)
      · have hf := ifT hf c2
        cases hf
        exact kx H locs ls hP hS (lv_sub hl [0] rfl)
      · have hf := ifF hf c2
        refine lv_aload_n hx hb dX0_findRings_15 rfl (lv_at hl 0 rfl) ?_
        have t3 : kdC (R x0 2) = 1 := wt hT h0 rfl
        refine mm_getr hx hb hts hown hKK hP fk0_2 (Nat.le_of_ble_eq_true rfl) lkX0_18 (kdC_lt h0 (Nat.succ_ne_zero _)) h0 (nC t3 (Nat.succ_ne_zero _)) dX0_findRings_16 ?_
        refine lv_iload_n hx hb dX0_findRings_19 rfl (lv_at hl 1 rfl) ?_
        refine lv_iconst (v := (-1 : Int32)) hx hb dX0_findRings_20 (by decide) ?_
        obtain ⟨g4, hf⟩ := grd hf
        refine jnE hf (fun I5 eI5 hf => ?_)
        refine mm_iast hx hb hKK hP hA hS (kdC_lt t3 (Nat.succ_ne_zero _)) t3 g4 dX0_findRings_21 (fun H locs hP hS => ?_)
        rw [← eI5] at hP
        refine lv_iinc (v := (x1 + (1 : Int32))) (lv' := [(1, .int (x1 + (1 : Int32))), (0, .ref (b + x0))]) hx hb dX0_findRings_22 hl (k := 1) rfl rfl (Nat.le_of_ble_eq_true rfl) rfl (fun ls hl => ?_)
        refine lv_goto (tgt := 7) hx hb dX0_findRings_25 (by decide) ?_
        exact ih x0 (x1 + (1 : Int32)) I5 L R a1 H locs ls hP hS hT h0 (lv_sub hl [1, 0] rfl) hf kx
  obtain ⟨I_6, e_6, hf⟩ := bd1_o hf
  refine lp7 FU x0 (0 : Int32) I1 L R I_6 H locs ls hP hS hT h0 (lv_sub hl [1, 0] rfl) e_6 (fun H locs ls hP hS hl => ?_)
  refine lv_iconst (v := (0 : Int32)) hx hb dX0_findRings_28 (by decide) ?_
  refine lv_istore_n (lv' := [(1, .int (0 : Int32)), (0, .ref (b + x0))]) hx hb dX0_findRings_29 rfl hl (Nat.le_of_ble_eq_true rfl) rfl (fun ls hl => ?_)
  have lp30 : ∀ (n : Nat) (x0 : Nat) (x1 : Int32) (I : mI) (L : mL) (R : mR) (a1 : mI) (H : Heap) (locs : List Loc) (ls : Array Slot), va_P D vwCl (wd ce b kdC lnC 272 I L R) H → va_S (box b 272) s.heap H locs → WT kdC R → kdC x0 = 6 → lv_has ls 2 [(0, .ref (b + x0)), (1, .int x1)] → f_X0_findRings_L30 n x0 x1 I L R = some a1 → (∀ (H1 : Heap) (locs1 : List Loc) (ls1 : Array Slot), va_P D vwCl (wd ce b kdC lnC 272 a1 L R) H1 → va_S (box b 272) s.heap H1 locs1 → lv_has ls1 2 [] → W p l e rmX0_findRings s m av below meth c H1 locs1 0 0 QQ (F0 m 72 ls1 [])) → W p l e rmX0_findRings s m av below meth c H locs 0 0 QQ (F0 m 30 ls []) := by
    intro n
    induction n with
    | zero =>
      intro x0 x1 I L R a1 H locs ls hP hS hT h0 hl hf kx
      exact absurd (show (none : Option (mI)) = some _ from hf) (by simp)
    | succ n ih =>
      intro x0 x1 I L R a1 H locs ls hP hS hT h0 hl hf kx
      rw [f_X0_findRings_L30] at hf
      refine lv_iload_n hx hb dX0_findRings_30 rfl (lv_at hl 1 rfl) ?_
      refine lv_aload_n hx hb dX0_findRings_31 rfl (lv_at hl 0 rfl) ?_
      refine mm_geti hx hb hts hown hKK hP fk0_8 (Or.inl rfl) lkX0_34 (kdC_lt h0 (Nat.succ_ne_zero _)) h0 dX0_findRings_32 ?_
      refine lv_icmp_ge (tgt := 72) hx hb dX0_findRings_35 (by decide) (fun c7 => ?_) (fun c7 => ?_)
      · have hf := ifT hf c7
        cases hf
        exact kx H locs ls hP hS (lv_sub hl [] rfl)
      · have hf := ifF hf c7
        refine lv_aload_n hx hb dX0_findRings_38 rfl (lv_at hl 0 rfl) ?_
        have t8 : kdC (R x0 2) = 1 := wt hT h0 rfl
        refine mm_getr hx hb hts hown hKK hP fk0_2 (Nat.le_of_ble_eq_true rfl) lkX0_18 (kdC_lt h0 (Nat.succ_ne_zero _)) h0 (nC t8 (Nat.succ_ne_zero _)) dX0_findRings_39 ?_
        refine lv_iload_n hx hb dX0_findRings_42 rfl (lv_at hl 1 rfl) ?_
        obtain ⟨g9, hf⟩ := grd hf
        refine mm_iald hx hb hKK hP (kdC_lt t8 (Nat.succ_ne_zero _)) t8 g9 dX0_findRings_43 ?_
        refine lv_iconst (v := (-1 : Int32)) hx hb dX0_findRings_44 (by decide) ?_
        refine jnE hf (fun j66_10 ej_10 hf => ?_)
        have hJ66_10 : ∀ (I_10 : mI) (H : Heap) (locs : List Loc) (ls : Array Slot), va_P D vwCl (wd ce b kdC lnC 272 I_10 L R) H → va_S (box b 272) s.heap H locs → lv_has ls 2 [(0, .ref (b + x0)), (1, .int x1)] → j66_10 I_10 = some a1 → W p l e rmX0_findRings s m av below meth c H locs 0 0 QQ (F0 m 66 ls []) := by
          intro I_10 H locs ls hP hS  hl hf
          rw [ej_10] at hf
          try dsimp only at hf
          refine lv_iinc (v := (x1 + (1 : Int32))) (lv' := [(1, .int (x1 + (1 : Int32))), (0, .ref (b + x0))]) hx hb dX0_findRings_66 hl (k := 1) rfl rfl (Nat.le_of_ble_eq_true rfl) rfl (fun ls hl => ?_)
          refine lv_goto (tgt := 30) hx hb dX0_findRings_69 (by decide) ?_
          exact ih x0 (x1 + (1 : Int32)) I_10 L R a1 H locs ls hP hS hT h0 (lv_sub hl [1, 0] rfl) hf kx
        clear ej_10
        refine lv_icmp_ne (tgt := 66) hx hb dX0_findRings_45 (by decide) (fun c11 => ?_) (fun c11 => ?_)
        · have hf := ifF hf c11
          exact hJ66_10 I H locs ls hP hS  (lv_sub hl [0, 1] rfl) hf
        · have hf := ifT hf c11
          refine lv_aload_n hx hb dX0_findRings_48 rfl (lv_at hl 0 rfl) ?_
          have t12 : kdC (R x0 4) = 2 := wt hT h0 rfl
          refine mm_getr hx hb hts hown hKK hP fk0_4 (Nat.le_of_ble_eq_true rfl) lkX0_25 (kdC_lt h0 (Nat.succ_ne_zero _)) h0 (nC t12 (Nat.succ_ne_zero _)) dX0_findRings_49 ?_
          refine lv_iload_n hx hb dX0_findRings_52 rfl (lv_at hl 1 rfl) ?_
          obtain ⟨g13, hf⟩ := grd hf
          refine mm_lald hx hb hKK hP (kdC_lt t12 (Nat.succ_ne_zero _)) t12 g13 dX0_findRings_53 ?_
          refine lv_iload_n hx hb dX0_findRings_54 rfl (lv_at hl 1 rfl) ?_
          obtain ⟨r14, e14, hf⟩ := bd1_o hf
          refine mm_Ni (rest := []) hx hb hml hown hts hKK hP hS hA nkX0_100 (k_X10_hasBit l D ce b I L R hT (L (R x0 4) x1.toNatClampNeg) x1  r14 e14) rfl hl.1 rfl (Nat.le_of_ble_eq_true rfl) ⟨rfl, rfl⟩ ⟨Nat.le_of_ble_eq_true rfl, Nat.le_of_ble_eq_true rfl⟩ ⟨Nat.zero_le _, Nat.zero_le _⟩ dX0_findRings_55 (fun H locs hP hT hS => ?_)
          refine lv_if_eq (tgt := 66) hx hb dX0_findRings_58 (by decide) (fun c15 => ?_) (fun c15 => ?_)
          · have hf := ifT hf c15
            exact hJ66_10 I H locs ls hP hS  (lv_sub hl [0, 1] rfl) hf
          · have hf := ifF hf c15
            refine lv_aload_n hx hb dX0_findRings_61 rfl (lv_at hl 0 rfl) ?_
            refine lv_iload_n hx hb dX0_findRings_62 rfl (lv_at hl 1 rfl) ?_
            obtain ⟨I16, e16, hf⟩ := bd1_o hf
            refine mm_Vv (rest := []) hx hb hml hown hts hKK hP hS hA (kdC_lt h0 (Nat.succ_ne_zero _)) h0 (show vwCl[0]? = some (yX0_nameRing.cls, TX0, 11) from rfl) vkX0_107 (k_X0_nameRing l D ce b I L R hT x0 x1 h0 I16 e16) rfl hl.1 rfl (Nat.le_of_ble_eq_true rfl) ⟨rfl, rfl⟩ ⟨Nat.le_of_ble_eq_true rfl, Nat.le_of_ble_eq_true rfl⟩ ⟨Nat.zero_le _, Nat.zero_le _⟩ dX0_findRings_63 (fun H locs hP hT hS => ?_)
            exact hJ66_10 I16 H locs ls hP hS  (lv_sub hl [0, 1] rfl) hf
  obtain ⟨I_17, e_17, hf⟩ := bd1_o hf
  refine lp30 FU x0 (0 : Int32) I_6 L R I_17 H locs ls hP hS hT h0 (lv_sub hl [1, 0] rfl) e_17 (fun H locs ls hP hS hl => ?_)
  exact hret I_17 hf H locs ls _ dX0_findRings_72 hP hT hS
def rmX0_fillFrom : Room := { frames := 3, cells := 0, slots := 0, locals := 76 }
set_option maxHeartbeats 4000000 in
set_option maxRecDepth 100000 in
theorem k_X0_fillFrom (l : Launch) (D : va_G) (ce : Nat → ClassId) (b : Nat) (I : mI) (L : mL) (R : mR) (hT : WT kdC R) (x0 : Nat) (x1 : Nat) (h0 : kdC x0 = 6) (h1 : kdC x1 = 13) (o1 : mI) (o2 : mL) (hf : f_X0_fillFrom x0 x1 I L R = some (o1, o2)) : Met l yX0_fillFrom (Cond.code yX0_fillFrom cX0_fillFrom 3 none :: GW) rmX0_fillFrom (va_Pc [.ref (b + x0), .ref (b + x1)] (PW D ce b kdC lnC 272 I L R)) (va_Qv (fun u => u = (o1, o2, R)) (QW D ce b kdC lnC 272) (box b 272)) 0 0 (box b 272) := by
  refine Met.ofW (cc := cX0_fillFrom) (maxL := 3) (ret := none) (by decide) rfl ?_
  intro p e s m args below meth c s₁ B hml hv
  obtain ⟨rfl, hP, hKK⟩ := hv
  have hx := B.exec
  have hb := B.bytes
  have hr := B.returns
  have hts0 := atoms_spec (ws := Cond.code yX0_fillFrom cX0_fillFrom 3 none :: GW) B.pre
  have hts : ∀ w ∈ GW, w.before _ s = true := fun w h => hts0 w (List.mem_cons_of_mem _ h)
  clear hts0
  have hown : s.vm.findClass RX0 = some m.cls := findClass_of_methodNamed B.named
  have hlocks := B.notSynchronized
  have hA : ∀ q, box b 272 q → box b 272 q := fun _ h => h
  have hS : va_S (box b 272) s.heap s.heap [] := va_S.rf
  have hl := lv_entry ([.ref (b + x0), .ref (b + x1)]) (n := 3) (Nat.le_of_ble_eq_true rfl)
  rw [lg_entry_eq]
  generalize (lg_sl ([.ref (b + x0), .ref (b + x1)]) ++ List.replicate (3 - (lg_sl ([.ref (b + x0), .ref (b + x1)])).length) Slot.unset).toArray = ls at hl ⊢
  have hl : lv_has ls 3 [(0, .ref (b + x0)), (1, .ref (b + x1))] := hl
  generalize ([.ref (b + x0), .ref (b + x1)] : List Value).toArray = av at hts ⊢
  show W p l e rmX0_fillFrom s m av below meth c s.heap [] 0 0 _ _
  obtain ⟨QQ, hQQ⟩ : ∃ z, z = MQ below (va_Qv (fun u => u = (o1, o2, R)) (QW D ce b kdC lnC 272) (box b 272)) av s 0 0 (box b 272) := ⟨_, rfl⟩
  rw [← hQQ]
  have hret : ∀ (I1 : mI) (L1 : mL), some (I1, L1) = some (o1, o2) → ∀ (H1 : Heap) (locs1 : List Loc) (ls1 : Array Slot) (pc1 : Nat), decode cX0_fillFrom pc1 = .ok (.return_, 1) → va_P D vwCl (wd ce b kdC lnC 272 I1 L1 R) H1 → WT kdC R → va_S (box b 272) s.heap H1 locs1 → W p l e rmX0_fillFrom s m av below meth c H1 locs1 0 0 QQ (F0 m pc1 ls1 []) := by
    intro I1 L1 hq H1 locs1 ls1 pc1 hd hP hT hS
    cases hq
    rw [hQQ]
    exact mm_vret hx hb hr hlocks hP hT hS hd
  unfold f_X0_fillFrom at hf
  obtain ⟨H, hH⟩ : ∃ z, z = s.heap := ⟨_, rfl⟩
  obtain ⟨locs, hlo⟩ : ∃ z : List Loc, z = [] := ⟨_, rfl⟩
  have hP : va_P D vwCl (wd ce b kdC lnC 272 I L R) H := by rw [hH]; exact hP
  have hS : va_S (box b 272) s.heap H locs := by rw [hH, hlo]; exact hS
  rw [show W p l e rmX0_fillFrom s m av below meth c s.heap [] 0 0 QQ = W p l e rmX0_fillFrom s m av below meth c H locs 0 0 QQ by rw [hH, hlo]]
  clear hH hlo
  clear hQQ
  show W p l e rmX0_fillFrom s m av below meth c H locs 0 0 QQ (F0 m 0 ls [])
  refine lv_aload_n hx hb dX0_fillFrom_0 rfl (lv_at hl 0 rfl) ?_
  refine lv_aload_n hx hb dX0_fillFrom_1 rfl (lv_at hl 1 rfl) ?_
  obtain ⟨I1, e1, hf⟩ := bd1_o hf
  refine mm_Vv (rest := []) hx hb hml hown hts hKK hP hS hA (kdC_lt h0 (Nat.succ_ne_zero _)) h0 (show vwCl[0]? = some (yX0_findHeads.cls, TX0, 11) from rfl) vkX0_56 (k_X0_findHeads l D ce b I L R hT x0 x1 h0 h1 I1 e1) rfl hl.1 rfl (Nat.le_of_ble_eq_true rfl) ⟨rfl, rfl⟩ ⟨Nat.le_of_ble_eq_true rfl, Nat.le_of_ble_eq_true rfl⟩ ⟨Nat.zero_le _, Nat.zero_le _⟩ dX0_fillFrom_2 (fun H locs hP hT hS => ?_)
  refine lv_aload_n hx hb dX0_fillFrom_5 rfl (lv_at hl 0 rfl) ?_
  refine lv_aload_n hx hb dX0_fillFrom_6 rfl (lv_at hl 1 rfl) ?_
  obtain ⟨I2, L2, e2, hf⟩ := bd2_o hf
  refine mm_Vv (rest := []) hx hb hml hown hts hKK hP hS hA (kdC_lt h0 (Nat.succ_ne_zero _)) h0 (show vwCl[0]? = some (yX0_collect.cls, TX0, 11) from rfl) vkX0_60 (k_X0_collect l D ce b I1 L R hT x0 x1 h0 h1 I2 L2 e2) rfl hl.1 rfl (Nat.le_of_ble_eq_true rfl) ⟨rfl, rfl⟩ ⟨Nat.le_of_ble_eq_true rfl, Nat.le_of_ble_eq_true rfl⟩ ⟨Nat.zero_le _, Nat.zero_le _⟩ dX0_fillFrom_7 (fun H locs hP hT hS => ?_)
  refine lv_iconst (v := (0 : Int32)) hx hb dX0_fillFrom_10 (by decide) ?_
  refine lv_istore_n (lv' := [(2, .int (0 : Int32)), (0, .ref (b + x0)), (1, .ref (b + x1))]) hx hb dX0_fillFrom_11 rfl hl (Nat.le_of_ble_eq_true rfl) rfl (fun ls hl => ?_)
  have lp12 : ∀ (n : Nat) (x0 : Nat) (x1 : Nat) (x2 : Int32) (I : mI) (L : mL) (R : mR) (a1 : mL) (H : Heap) (locs : List Loc) (ls : Array Slot), va_P D vwCl (wd ce b kdC lnC 272 I L R) H → va_S (box b 272) s.heap H locs → WT kdC R → kdC x0 = 6 → kdC x1 = 13 → lv_has ls 3 [(0, .ref (b + x0)), (1, .ref (b + x1)), (2, .int x2)] → f_X0_fillFrom_L12 n x0 x1 x2 I L R = some a1 → (∀ (H1 : Heap) (locs1 : List Loc) (ls1 : Array Slot), va_P D vwCl (wd ce b kdC lnC 272 I a1 R) H1 → va_S (box b 272) s.heap H1 locs1 → lv_has ls1 3 [(0, .ref (b + x0))] → W p l e rmX0_fillFrom s m av below meth c H1 locs1 0 0 QQ (F0 m 50 ls1 [])) → W p l e rmX0_fillFrom s m av below meth c H locs 0 0 QQ (F0 m 12 ls []) := by
    intro n
    induction n with
    | zero =>
      intro x0 x1 x2 I L R a1 H locs ls hP hS hT h0 h1 hl hf kx
      exact absurd (show (none : Option (mL)) = some _ from hf) (by simp)
    | succ n ih =>
      intro x0 x1 x2 I L R a1 H locs ls hP hS hT h0 h1 hl hf kx
      rw [f_X0_fillFrom_L12] at hf
      refine lv_iload_n hx hb dX0_fillFrom_12 rfl (lv_at hl 2 rfl) ?_
      refine lv_aload_n hx hb dX0_fillFrom_13 rfl (lv_at hl 0 rfl) ?_
      refine mm_geti hx hb hts hown hKK hP fk0_8 (Or.inl rfl) lkX0_34 (kdC_lt h0 (Nat.succ_ne_zero _)) h0 dX0_fillFrom_14 ?_
      refine lv_icmp_ge (tgt := 50) hx hb dX0_fillFrom_17 (by decide) (fun c3 => ?_) (fun c3 => ?_)
      · have hf := ifT hf c3
        cases hf
        exact kx H locs ls hP hS (lv_sub hl [0] rfl)
      · have hf := ifF hf c3
        refine lv_aload_n hx hb dX0_fillFrom_20 rfl (lv_at hl 0 rfl) ?_
        have t4 : kdC (R x0 3) = 2 := wt hT h0 rfl
        refine mm_getr hx hb hts hown hKK hP fk0_3 (Nat.le_of_ble_eq_true rfl) lkX0_21 (kdC_lt h0 (Nat.succ_ne_zero _)) h0 (nC t4 (Nat.succ_ne_zero _)) dX0_fillFrom_21 ?_
        refine lv_iload_n hx hb dX0_fillFrom_24 rfl (lv_at hl 2 rfl) ?_
        refine lv_aload_n hx hb dX0_fillFrom_25 rfl (lv_at hl 0 rfl) ?_
        refine lv_aload_n hx hb dX0_fillFrom_26 rfl (lv_at hl 1 rfl) ?_
        refine lv_iload_n hx hb dX0_fillFrom_27 rfl (lv_at hl 2 rfl) ?_
        obtain ⟨r5, e5, hf⟩ := bd1_o hf
        refine mm_Vl (rest := [.int x2, .ref (b + (R x0 3))]) hx hb hml hown hts hKK hP hS hA (kdC_lt h0 (Nat.succ_ne_zero _)) h0 (show vwCl[0]? = some (yX0_followersOf.cls, TX0, 11) from rfl) vkX0_63 (k_X0_followersOf l D ce b I L R hT x0 x1 x2 h0 h1 r5 e5) rfl hl.1 rfl (Nat.le_of_ble_eq_true rfl) ⟨rfl, rfl⟩ ⟨Nat.le_of_ble_eq_true rfl, Nat.le_of_ble_eq_true rfl⟩ ⟨Nat.zero_le _, Nat.zero_le _⟩ dX0_fillFrom_28 (fun H locs hP hT hS => ?_)
        obtain ⟨g6, hf⟩ := grd hf
        refine jnE hf (fun L7 eL7 hf => ?_)
        refine mm_last hx hb hKK hP hA hS (kdC_lt t4 (Nat.succ_ne_zero _)) t4 g6 dX0_fillFrom_31 (fun H locs hP hS => ?_)
        rw [← eL7] at hP
        refine lv_aload_n hx hb dX0_fillFrom_32 rfl (lv_at hl 0 rfl) ?_
        have t8 : kdC (R x0 4) = 2 := wt hT h0 rfl
        refine mm_getr hx hb hts hown hKK hP fk0_4 (Nat.le_of_ble_eq_true rfl) lkX0_25 (kdC_lt h0 (Nat.succ_ne_zero _)) h0 (nC t8 (Nat.succ_ne_zero _)) dX0_fillFrom_33 ?_
        refine lv_iload_n hx hb dX0_fillFrom_36 rfl (lv_at hl 2 rfl) ?_
        refine lv_aload_n hx hb dX0_fillFrom_37 rfl (lv_at hl 0 rfl) ?_
        refine mm_getr hx hb hts hown hKK hP fk0_3 (Nat.le_of_ble_eq_true rfl) lkX0_21 (kdC_lt h0 (Nat.succ_ne_zero _)) h0 (nC t4 (Nat.succ_ne_zero _)) dX0_fillFrom_38 ?_
        refine lv_iload_n hx hb dX0_fillFrom_41 rfl (lv_at hl 2 rfl) ?_
        refine mm_lald hx hb hKK hP (kdC_lt t4 (Nat.succ_ne_zero _)) t4 g6 dX0_fillFrom_42 ?_
        obtain ⟨g9, hf⟩ := grd hf
        refine jnE hf (fun L10 eL10 hf => ?_)
        refine mm_last hx hb hKK hP hA hS (kdC_lt t8 (Nat.succ_ne_zero _)) t8 g9 dX0_fillFrom_43 (fun H locs hP hS => ?_)
        rw [← eL10] at hP
        refine lv_iinc (v := (x2 + (1 : Int32))) (lv' := [(2, .int (x2 + (1 : Int32))), (0, .ref (b + x0)), (1, .ref (b + x1))]) hx hb dX0_fillFrom_44 hl (k := 2) rfl rfl (Nat.le_of_ble_eq_true rfl) rfl (fun ls hl => ?_)
        refine lv_goto (tgt := 12) hx hb dX0_fillFrom_47 (by decide) ?_
        exact ih x0 x1 (x2 + (1 : Int32)) I L10 R a1 H locs ls hP hS hT h0 h1 (lv_sub hl [1, 2, 0] rfl) hf kx
  obtain ⟨L_11, e_11, hf⟩ := bd1_o hf
  refine lp12 FU x0 x1 (0 : Int32) I2 L2 R L_11 H locs ls hP hS hT h0 h1 (lv_sub hl [1, 2, 0] rfl) e_11 (fun H locs ls hP hS hl => ?_)
  refine lv_aload_n hx hb dX0_fillFrom_50 rfl (lv_at hl 0 rfl) ?_
  obtain ⟨L12, e12, hf⟩ := bd1_o hf
  refine mm_Vv (rest := []) hx hb hml hown hts hKK hP hS hA (kdC_lt h0 (Nat.succ_ne_zero _)) h0 (show vwCl[0]? = some (yX0_reachOn.cls, TX0, 11) from rfl) vkX0_67 (k_X0_reachOn l D ce b I2 L_11 R hT x0 h0 L12 e12) rfl hl.1 rfl (Nat.le_of_ble_eq_true rfl) ⟨rfl, rfl⟩ ⟨Nat.le_of_ble_eq_true rfl, Nat.le_of_ble_eq_true rfl⟩ ⟨Nat.zero_le _, Nat.zero_le _⟩ dX0_fillFrom_51 (fun H locs hP hT hS => ?_)
  refine lv_aload_n hx hb dX0_fillFrom_54 rfl (lv_at hl 0 rfl) ?_
  obtain ⟨I13, e13, hf⟩ := bd1_o hf
  refine mm_Vv (rest := []) hx hb hml hown hts hKK hP hS hA (kdC_lt h0 (Nat.succ_ne_zero _)) h0 (show vwCl[0]? = some (yX0_findRings.cls, TX0, 11) from rfl) vkX0_70 (k_X0_findRings l D ce b I2 L12 R hT x0 h0 I13 e13) rfl hl.1 rfl (Nat.le_of_ble_eq_true rfl) ⟨rfl, rfl⟩ ⟨Nat.le_of_ble_eq_true rfl, Nat.le_of_ble_eq_true rfl⟩ ⟨Nat.zero_le _, Nat.zero_le _⟩ dX0_fillFrom_55 (fun H locs hP hT hS => ?_)
  exact hret I13 L12 hf H locs ls _ dX0_fillFrom_58 hP hT hS
def rmX10_keepBookRight : Room := { frames := 4, cells := 0, slots := 0, locals := 98 }
set_option maxHeartbeats 4000000 in
set_option maxRecDepth 100000 in
theorem k_X10_keepBookRight (l : Launch) (D : va_G) (ce : Nat → ClassId) (b : Nat) (I : mI) (L : mL) (R : mR) (hT : WT kdC R) (x0 : Nat) (h0 : kdC x0 = 16) (o1 : mI) (o2 : mL) (hf : f_X10_keepBookRight x0 I L R = some (o1, o2)) : Met l yX10_keepBookRight (Cond.code yX10_keepBookRight cX10_keepBookRight 1 none :: GW) rmX10_keepBookRight (va_Pc [.ref (b + x0)] (PW D ce b kdC lnC 272 I L R)) (va_Qv (fun u => u = (o1, o2, R)) (QW D ce b kdC lnC 272) (box b 272)) 0 0 (box b 272) := by
  refine Met.ofW (cc := cX10_keepBookRight) (maxL := 1) (ret := none) (by decide) rfl ?_
  intro p e s m args below meth c s₁ B hml hv
  obtain ⟨rfl, hP, hKK⟩ := hv
  have hx := B.exec
  have hb := B.bytes
  have hr := B.returns
  have hts0 := atoms_spec (ws := Cond.code yX10_keepBookRight cX10_keepBookRight 1 none :: GW) B.pre
  have hts : ∀ w ∈ GW, w.before _ s = true := fun w h => hts0 w (List.mem_cons_of_mem _ h)
  clear hts0
  have hown : s.vm.findClass RX10 = some m.cls := findClass_of_methodNamed B.named
  have hlocks := B.notSynchronized
  have hA : ∀ q, box b 272 q → box b 272 q := fun _ h => h
  have hS : va_S (box b 272) s.heap s.heap [] := va_S.rf
  have hl := lv_entry ([.ref (b + x0)]) (n := 1) (Nat.le_of_ble_eq_true rfl)
  rw [lg_entry_eq]
  generalize (lg_sl ([.ref (b + x0)]) ++ List.replicate (1 - (lg_sl ([.ref (b + x0)])).length) Slot.unset).toArray = ls at hl ⊢
  have hl : lv_has ls 1 [(0, .ref (b + x0))] := hl
  generalize ([.ref (b + x0)] : List Value).toArray = av at hts ⊢
  show W p l e rmX10_keepBookRight s m av below meth c s.heap [] 0 0 _ _
  obtain ⟨QQ, hQQ⟩ : ∃ z, z = MQ below (va_Qv (fun u => u = (o1, o2, R)) (QW D ce b kdC lnC 272) (box b 272)) av s 0 0 (box b 272) := ⟨_, rfl⟩
  rw [← hQQ]
  have hret : ∀ (I1 : mI) (L1 : mL), some (I1, L1) = some (o1, o2) → ∀ (H1 : Heap) (locs1 : List Loc) (ls1 : Array Slot) (pc1 : Nat), decode cX10_keepBookRight pc1 = .ok (.return_, 1) → va_P D vwCl (wd ce b kdC lnC 272 I1 L1 R) H1 → WT kdC R → va_S (box b 272) s.heap H1 locs1 → W p l e rmX10_keepBookRight s m av below meth c H1 locs1 0 0 QQ (F0 m pc1 ls1 []) := by
    intro I1 L1 hq H1 locs1 ls1 pc1 hd hP hT hS
    cases hq
    rw [hQQ]
    exact mm_vret hx hb hr hlocks hP hT hS hd
  unfold f_X10_keepBookRight at hf
  obtain ⟨H, hH⟩ : ∃ z, z = s.heap := ⟨_, rfl⟩
  obtain ⟨locs, hlo⟩ : ∃ z : List Loc, z = [] := ⟨_, rfl⟩
  have hP : va_P D vwCl (wd ce b kdC lnC 272 I L R) H := by rw [hH]; exact hP
  have hS : va_S (box b 272) s.heap H locs := by rw [hH, hlo]; exact hS
  rw [show W p l e rmX10_keepBookRight s m av below meth c s.heap [] 0 0 QQ = W p l e rmX10_keepBookRight s m av below meth c H locs 0 0 QQ by rw [hH, hlo]]
  clear hH hlo
  clear hQQ
  show W p l e rmX10_keepBookRight s m av below meth c H locs 0 0 QQ (F0 m 0 ls [])
  refine lv_aload_n hx hb dX10_keepBookRight_0 rfl (lv_at hl 0 rfl) ?_
  refine mm_geti hx hb hts hown hKK hP fk10_9 (Or.inr rfl) lkX10_273 (kdC_lt h0 (Nat.succ_ne_zero _)) h0 dX10_keepBookRight_1 ?_
  refine lv_if_ne (tgt := 23) hx hb dX10_keepBookRight_4 (by decide) (fun c1 => ?_) (fun c1 => ?_)
  · have hf := ifF hf c1
    exact hret I L hf H locs ls _ dX10_keepBookRight_23 hP hT hS
  · have hf := ifT hf c1
    refine lv_aload_n hx hb dX10_keepBookRight_7 rfl (lv_at hl 0 rfl) ?_
    have t2 : kdC (R x0 4) = 6 := wt hT h0 rfl
    refine mm_getr hx hb hts hown hKK hP fk10_4 (Nat.le_of_ble_eq_true rfl) lkX10_40 (kdC_lt h0 (Nat.succ_ne_zero _)) h0 (nC t2 (Nat.succ_ne_zero _)) dX10_keepBookRight_8 ?_
    refine lv_aload_n hx hb dX10_keepBookRight_11 rfl (lv_at hl 0 rfl) ?_
    have t3 : kdC (R x0 0) = 13 := wt hT h0 rfl
    refine mm_getr hx hb hts hown hKK hP fk10_0 (Nat.le_of_ble_eq_true rfl) lkX10_10 (kdC_lt h0 (Nat.succ_ne_zero _)) h0 (nC t3 (Nat.succ_ne_zero _)) dX10_keepBookRight_12 ?_
    obtain ⟨I4, L4, e4, hf⟩ := bd2_o hf
    refine mm_Vv (rest := []) hx hb hml hown hts hKK hP hS hA (kdC_lt t2 (Nat.succ_ne_zero _)) t2 (show vwCl[0]? = some (yX0_fillFrom.cls, TX0, 11) from rfl) vkX10_279 (k_X0_fillFrom l D ce b I L R hT (R x0 4) (R x0 0) t2 t3 I4 L4 e4) rfl hl.1 rfl (Nat.le_of_ble_eq_true rfl) ⟨rfl, rfl⟩ ⟨Nat.le_of_ble_eq_true rfl, Nat.le_of_ble_eq_true rfl⟩ ⟨Nat.zero_le _, Nat.zero_le _⟩ dX10_keepBookRight_15 (fun H locs hP hT hS => ?_)
    refine lv_aload_n hx hb dX10_keepBookRight_18 rfl (lv_at hl 0 rfl) ?_
    refine lv_iconst (v := (1 : Int32)) hx hb dX10_keepBookRight_19 (by decide) ?_
    refine jnE hf (fun I5 eI5 hf => ?_)
    refine mm_puti hx hb hts hown hKK hP hA hS fk10_9 (Or.inr rfl) fw10_9 lkX10_273 (kdC_lt h0 (Nat.succ_ne_zero _)) h0 rfl rfl dX10_keepBookRight_20 (fun H locs hP hS => ?_)
    rw [← eI5] at hP
    exact hret I5 L4 hf H locs ls _ dX10_keepBookRight_23 hP hT hS
def rmJ13_bitCount_95d88 : Room := { frames := 0, cells := 0, slots := 0, locals := 0 }
set_option maxHeartbeats 4000000 in
set_option maxRecDepth 100000 in
theorem k_J13_bitCount_95d88 (l : Launch) (D : va_G) (ce : Nat → ClassId) (b : Nat) (I : mI) (L : mL) (R : mR) (hT : WT kdC R) (x0 : Int64)  (o1 : Int32) (hf : f_J13_bitCount_95d88 x0  = some o1) : Met l yJ13_bitCount_95d88 (Cond.code yJ13_bitCount_95d88 cJ13_bitCount_95d88 2 (some .int) :: GW) rmJ13_bitCount_95d88 (va_Pc [.long x0] (PW D ce b kdC lnC 272 I L R)) (va_Qi (fun r u => r = o1 ∧ u = (I, L, R)) (QW D ce b kdC lnC 272) (box b 272)) 0 0 (box b 272) := by
  refine Met.ofW (cc := cJ13_bitCount_95d88) (maxL := 2) (ret := (some .int)) (by decide) rfl ?_
  intro p e s m args below meth c s₁ B hml hv
  obtain ⟨rfl, hP, hKK⟩ := hv
  have hx := B.exec
  have hb := B.bytes
  have hr := B.returns
  have hts0 := atoms_spec (ws := Cond.code yJ13_bitCount_95d88 cJ13_bitCount_95d88 2 (some .int) :: GW) B.pre
  have hts : ∀ w ∈ GW, w.before _ s = true := fun w h => hts0 w (List.mem_cons_of_mem _ h)
  clear hts0
  have hown : s.vm.findClass RJ13 = some m.cls := findClass_of_methodNamed B.named
  have hlocks := B.notSynchronized
  have hA : ∀ q, box b 272 q → box b 272 q := fun _ h => h
  have hS : va_S (box b 272) s.heap s.heap [] := va_S.rf
  have hl := lv_entry ([.long x0]) (n := 2) (Nat.le_of_ble_eq_true rfl)
  rw [lg_entry_eq]
  generalize (lg_sl ([.long x0]) ++ List.replicate (2 - (lg_sl ([.long x0])).length) Slot.unset).toArray = ls at hl ⊢
  have hl : lv_has ls 2 [(0, .long x0)] := hl
  generalize ([.long x0] : List Value).toArray = av at hts ⊢
  show W p l e rmJ13_bitCount_95d88 s m av below meth c s.heap [] 0 0 _ _
  obtain ⟨QQ, hQQ⟩ : ∃ z, z = MQ below (va_Qi (fun r u => r = o1 ∧ u = (I, L, R)) (QW D ce b kdC lnC 272) (box b 272)) av s 0 0 (box b 272) := ⟨_, rfl⟩
  rw [← hQQ]
  have hret : ∀ (r : Int32), some r = some o1 → ∀ (H1 : Heap) (locs1 : List Loc) (ls1 : Array Slot) (pc1 : Nat), decode cJ13_bitCount_95d88 pc1 = .ok (.ireturn, 1) → va_P D vwCl (wd ce b kdC lnC 272 I L R) H1 → WT kdC R → va_S (box b 272) s.heap H1 locs1 → W p l e rmJ13_bitCount_95d88 s m av below meth c H1 locs1 0 0 QQ (F0 m pc1 ls1 [.int r]) := by
    intro r hq H1 locs1 ls1 pc1 hd hP hT hS
    cases hq
    rw [hQQ]
    exact mm_iret hx hb hr hlocks hP hT hS hd
  unfold f_J13_bitCount_95d88 at hf
  obtain ⟨H, hH⟩ : ∃ z, z = s.heap := ⟨_, rfl⟩
  obtain ⟨locs, hlo⟩ : ∃ z : List Loc, z = [] := ⟨_, rfl⟩
  have hP : va_P D vwCl (wd ce b kdC lnC 272 I L R) H := by rw [hH]; exact hP
  have hS : va_S (box b 272) s.heap H locs := by rw [hH, hlo]; exact hS
  rw [show W p l e rmJ13_bitCount_95d88 s m av below meth c s.heap [] 0 0 QQ = W p l e rmJ13_bitCount_95d88 s m av below meth c H locs 0 0 QQ by rw [hH, hlo]]
  clear hH hlo
  clear hQQ
  show W p l e rmJ13_bitCount_95d88 s m av below meth c H locs 0 0 QQ (F0 m 0 ls [])
  refine lv_lload_n hx hb dJ13_bitCount_95d88_0 rfl (lv_at hl 0 rfl) ?_
  refine lv_lload_n hx hb dJ13_bitCount_95d88_1 rfl (lv_at hl 0 rfl) ?_
  refine lv_iconst (v := (1 : Int32)) hx hb dJ13_bitCount_95d88_2 (by decide) ?_
  refine lv_lushr (v := ((x0).toUInt64 >>> (((1 : Int32)).toInt64.toUInt64 &&& Int64.toUInt64 63)).toInt64) hx hb dJ13_bitCount_95d88_3 rfl ?_
  refine lv_ldc2 (v := (6148914691236517205 : Int64)) hx hb hown (hts _ cwJ13_314) dJ13_bitCount_95d88_4 ?_
  refine lv_land hx hb dJ13_bitCount_95d88_7 ?_
  refine lv_lsub hx hb dJ13_bitCount_95d88_8 ?_
  refine lv_lstore_n (lv' := [(0, .long (x0 - ((((x0).toUInt64 >>> (((1 : Int32)).toInt64.toUInt64 &&& Int64.toUInt64 63)).toInt64) &&& (6148914691236517205 : Int64))))]) hx hb dJ13_bitCount_95d88_9 rfl hl (Nat.le_of_ble_eq_true rfl) rfl (fun ls hl => ?_)
  refine lv_lload_n hx hb dJ13_bitCount_95d88_10 rfl (lv_at hl 0 rfl) ?_
  refine lv_ldc2 (v := (3689348814741910323 : Int64)) hx hb hown (hts _ cwJ13_316) dJ13_bitCount_95d88_11 ?_
  refine lv_land hx hb dJ13_bitCount_95d88_14 ?_
  refine lv_lload_n hx hb dJ13_bitCount_95d88_15 rfl (lv_at hl 0 rfl) ?_
  refine lv_iconst (v := (2 : Int32)) hx hb dJ13_bitCount_95d88_16 (by decide) ?_
  refine lv_lushr (v := (((x0 - ((((x0).toUInt64 >>> (((1 : Int32)).toInt64.toUInt64 &&& Int64.toUInt64 63)).toInt64) &&& (6148914691236517205 : Int64)))).toUInt64 >>> (((2 : Int32)).toInt64.toUInt64 &&& Int64.toUInt64 63)).toInt64) hx hb dJ13_bitCount_95d88_17 rfl ?_
  refine lv_ldc2 (v := (3689348814741910323 : Int64)) hx hb hown (hts _ cwJ13_316) dJ13_bitCount_95d88_18 ?_
  refine lv_land hx hb dJ13_bitCount_95d88_21 ?_
  refine lv_ladd hx hb dJ13_bitCount_95d88_22 ?_
  refine lv_lstore_n (lv' := [(0, .long (((x0 - ((((x0).toUInt64 >>> (((1 : Int32)).toInt64.toUInt64 &&& Int64.toUInt64 63)).toInt64) &&& (6148914691236517205 : Int64))) &&& (3689348814741910323 : Int64)) + (((((x0 - ((((x0).toUInt64 >>> (((1 : Int32)).toInt64.toUInt64 &&& Int64.toUInt64 63)).toInt64) &&& (6148914691236517205 : Int64)))).toUInt64 >>> (((2 : Int32)).toInt64.toUInt64 &&& Int64.toUInt64 63)).toInt64) &&& (3689348814741910323 : Int64))))]) hx hb dJ13_bitCount_95d88_23 rfl hl (Nat.le_of_ble_eq_true rfl) rfl (fun ls hl => ?_)
  refine lv_lload_n hx hb dJ13_bitCount_95d88_24 rfl (lv_at hl 0 rfl) ?_
  refine lv_lload_n hx hb dJ13_bitCount_95d88_25 rfl (lv_at hl 0 rfl) ?_
  refine lv_iconst (v := (4 : Int32)) hx hb dJ13_bitCount_95d88_26 (by decide) ?_
  refine lv_lushr (v := (((((x0 - ((((x0).toUInt64 >>> (((1 : Int32)).toInt64.toUInt64 &&& Int64.toUInt64 63)).toInt64) &&& (6148914691236517205 : Int64))) &&& (3689348814741910323 : Int64)) + (((((x0 - ((((x0).toUInt64 >>> (((1 : Int32)).toInt64.toUInt64 &&& Int64.toUInt64 63)).toInt64) &&& (6148914691236517205 : Int64)))).toUInt64 >>> (((2 : Int32)).toInt64.toUInt64 &&& Int64.toUInt64 63)).toInt64) &&& (3689348814741910323 : Int64)))).toUInt64 >>> (((4 : Int32)).toInt64.toUInt64 &&& Int64.toUInt64 63)).toInt64) hx hb dJ13_bitCount_95d88_27 rfl ?_
  refine lv_ladd hx hb dJ13_bitCount_95d88_28 ?_
  refine lv_ldc2 (v := (1085102592571150095 : Int64)) hx hb hown (hts _ cwJ13_318) dJ13_bitCount_95d88_29 ?_
  refine lv_land hx hb dJ13_bitCount_95d88_32 ?_
  refine lv_lstore_n (lv' := [(0, .long (((((x0 - ((((x0).toUInt64 >>> (((1 : Int32)).toInt64.toUInt64 &&& Int64.toUInt64 63)).toInt64) &&& (6148914691236517205 : Int64))) &&& (3689348814741910323 : Int64)) + (((((x0 - ((((x0).toUInt64 >>> (((1 : Int32)).toInt64.toUInt64 &&& Int64.toUInt64 63)).toInt64) &&& (6148914691236517205 : Int64)))).toUInt64 >>> (((2 : Int32)).toInt64.toUInt64 &&& Int64.toUInt64 63)).toInt64) &&& (3689348814741910323 : Int64))) + ((((((x0 - ((((x0).toUInt64 >>> (((1 : Int32)).toInt64.toUInt64 &&& Int64.toUInt64 63)).toInt64) &&& (6148914691236517205 : Int64))) &&& (3689348814741910323 : Int64)) + (((((x0 - ((((x0).toUInt64 >>> (((1 : Int32)).toInt64.toUInt64 &&& Int64.toUInt64 63)).toInt64) &&& (6148914691236517205 : Int64)))).toUInt64 >>> (((2 : Int32)).toInt64.toUInt64 &&& Int64.toUInt64 63)).toInt64) &&& (3689348814741910323 : Int64)))).toUInt64 >>> (((4 : Int32)).toInt64.toUInt64 &&& Int64.toUInt64 63)).toInt64)) &&& (1085102592571150095 : Int64)))]) hx hb dJ13_bitCount_95d88_33 rfl hl (Nat.le_of_ble_eq_true rfl) rfl (fun ls hl => ?_)
  refine lv_lload_n hx hb dJ13_bitCount_95d88_34 rfl (lv_at hl 0 rfl) ?_
  refine lv_lload_n hx hb dJ13_bitCount_95d88_35 rfl (lv_at hl 0 rfl) ?_
  refine lv_bipush (v := (8 : Int32)) hx hb dJ13_bitCount_95d88_36 (by decide) ?_
  refine lv_lushr (v := (((((((x0 - ((((x0).toUInt64 >>> (((1 : Int32)).toInt64.toUInt64 &&& Int64.toUInt64 63)).toInt64) &&& (6148914691236517205 : Int64))) &&& (3689348814741910323 : Int64)) + (((((x0 - ((((x0).toUInt64 >>> (((1 : Int32)).toInt64.toUInt64 &&& Int64.toUInt64 63)).toInt64) &&& (6148914691236517205 : Int64)))).toUInt64 >>> (((2 : Int32)).toInt64.toUInt64 &&& Int64.toUInt64 63)).toInt64) &&& (3689348814741910323 : Int64))) + ((((((x0 - ((((x0).toUInt64 >>> (((1 : Int32)).toInt64.toUInt64 &&& Int64.toUInt64 63)).toInt64) &&& (6148914691236517205 : Int64))) &&& (3689348814741910323 : Int64)) + (((((x0 - ((((x0).toUInt64 >>> (((1 : Int32)).toInt64.toUInt64 &&& Int64.toUInt64 63)).toInt64) &&& (6148914691236517205 : Int64)))).toUInt64 >>> (((2 : Int32)).toInt64.toUInt64 &&& Int64.toUInt64 63)).toInt64) &&& (3689348814741910323 : Int64)))).toUInt64 >>> (((4 : Int32)).toInt64.toUInt64 &&& Int64.toUInt64 63)).toInt64)) &&& (1085102592571150095 : Int64))).toUInt64 >>> (((8 : Int32)).toInt64.toUInt64 &&& Int64.toUInt64 63)).toInt64) hx hb dJ13_bitCount_95d88_38 rfl ?_
  refine lv_ladd hx hb dJ13_bitCount_95d88_39 ?_
  refine lv_lstore_n (lv' := [(0, .long ((((((x0 - ((((x0).toUInt64 >>> (((1 : Int32)).toInt64.toUInt64 &&& Int64.toUInt64 63)).toInt64) &&& (6148914691236517205 : Int64))) &&& (3689348814741910323 : Int64)) + (((((x0 - ((((x0).toUInt64 >>> (((1 : Int32)).toInt64.toUInt64 &&& Int64.toUInt64 63)).toInt64) &&& (6148914691236517205 : Int64)))).toUInt64 >>> (((2 : Int32)).toInt64.toUInt64 &&& Int64.toUInt64 63)).toInt64) &&& (3689348814741910323 : Int64))) + ((((((x0 - ((((x0).toUInt64 >>> (((1 : Int32)).toInt64.toUInt64 &&& Int64.toUInt64 63)).toInt64) &&& (6148914691236517205 : Int64))) &&& (3689348814741910323 : Int64)) + (((((x0 - ((((x0).toUInt64 >>> (((1 : Int32)).toInt64.toUInt64 &&& Int64.toUInt64 63)).toInt64) &&& (6148914691236517205 : Int64)))).toUInt64 >>> (((2 : Int32)).toInt64.toUInt64 &&& Int64.toUInt64 63)).toInt64) &&& (3689348814741910323 : Int64)))).toUInt64 >>> (((4 : Int32)).toInt64.toUInt64 &&& Int64.toUInt64 63)).toInt64)) &&& (1085102592571150095 : Int64)) + ((((((((x0 - ((((x0).toUInt64 >>> (((1 : Int32)).toInt64.toUInt64 &&& Int64.toUInt64 63)).toInt64) &&& (6148914691236517205 : Int64))) &&& (3689348814741910323 : Int64)) + (((((x0 - ((((x0).toUInt64 >>> (((1 : Int32)).toInt64.toUInt64 &&& Int64.toUInt64 63)).toInt64) &&& (6148914691236517205 : Int64)))).toUInt64 >>> (((2 : Int32)).toInt64.toUInt64 &&& Int64.toUInt64 63)).toInt64) &&& (3689348814741910323 : Int64))) + ((((((x0 - ((((x0).toUInt64 >>> (((1 : Int32)).toInt64.toUInt64 &&& Int64.toUInt64 63)).toInt64) &&& (6148914691236517205 : Int64))) &&& (3689348814741910323 : Int64)) + (((((x0 - ((((x0).toUInt64 >>> (((1 : Int32)).toInt64.toUInt64 &&& Int64.toUInt64 63)).toInt64) &&& (6148914691236517205 : Int64)))).toUInt64 >>> (((2 : Int32)).toInt64.toUInt64 &&& Int64.toUInt64 63)).toInt64) &&& (3689348814741910323 : Int64)))).toUInt64 >>> (((4 : Int32)).toInt64.toUInt64 &&& Int64.toUInt64 63)).toInt64)) &&& (1085102592571150095 : Int64))).toUInt64 >>> (((8 : Int32)).toInt64.toUInt64 &&& Int64.toUInt64 63)).toInt64)))]) hx hb dJ13_bitCount_95d88_40 rfl hl (Nat.le_of_ble_eq_true rfl) rfl (fun ls hl => ?_)
  refine lv_lload_n hx hb dJ13_bitCount_95d88_41 rfl (lv_at hl 0 rfl) ?_
  refine lv_lload_n hx hb dJ13_bitCount_95d88_42 rfl (lv_at hl 0 rfl) ?_
  refine lv_bipush (v := (16 : Int32)) hx hb dJ13_bitCount_95d88_43 (by decide) ?_
  refine lv_lushr (v := ((((((((x0 - ((((x0).toUInt64 >>> (((1 : Int32)).toInt64.toUInt64 &&& Int64.toUInt64 63)).toInt64) &&& (6148914691236517205 : Int64))) &&& (3689348814741910323 : Int64)) + (((((x0 - ((((x0).toUInt64 >>> (((1 : Int32)).toInt64.toUInt64 &&& Int64.toUInt64 63)).toInt64) &&& (6148914691236517205 : Int64)))).toUInt64 >>> (((2 : Int32)).toInt64.toUInt64 &&& Int64.toUInt64 63)).toInt64) &&& (3689348814741910323 : Int64))) + ((((((x0 - ((((x0).toUInt64 >>> (((1 : Int32)).toInt64.toUInt64 &&& Int64.toUInt64 63)).toInt64) &&& (6148914691236517205 : Int64))) &&& (3689348814741910323 : Int64)) + (((((x0 - ((((x0).toUInt64 >>> (((1 : Int32)).toInt64.toUInt64 &&& Int64.toUInt64 63)).toInt64) &&& (6148914691236517205 : Int64)))).toUInt64 >>> (((2 : Int32)).toInt64.toUInt64 &&& Int64.toUInt64 63)).toInt64) &&& (3689348814741910323 : Int64)))).toUInt64 >>> (((4 : Int32)).toInt64.toUInt64 &&& Int64.toUInt64 63)).toInt64)) &&& (1085102592571150095 : Int64)) + ((((((((x0 - ((((x0).toUInt64 >>> (((1 : Int32)).toInt64.toUInt64 &&& Int64.toUInt64 63)).toInt64) &&& (6148914691236517205 : Int64))) &&& (3689348814741910323 : Int64)) + (((((x0 - ((((x0).toUInt64 >>> (((1 : Int32)).toInt64.toUInt64 &&& Int64.toUInt64 63)).toInt64) &&& (6148914691236517205 : Int64)))).toUInt64 >>> (((2 : Int32)).toInt64.toUInt64 &&& Int64.toUInt64 63)).toInt64) &&& (3689348814741910323 : Int64))) + ((((((x0 - ((((x0).toUInt64 >>> (((1 : Int32)).toInt64.toUInt64 &&& Int64.toUInt64 63)).toInt64) &&& (6148914691236517205 : Int64))) &&& (3689348814741910323 : Int64)) + (((((x0 - ((((x0).toUInt64 >>> (((1 : Int32)).toInt64.toUInt64 &&& Int64.toUInt64 63)).toInt64) &&& (6148914691236517205 : Int64)))).toUInt64 >>> (((2 : Int32)).toInt64.toUInt64 &&& Int64.toUInt64 63)).toInt64) &&& (3689348814741910323 : Int64)))).toUInt64 >>> (((4 : Int32)).toInt64.toUInt64 &&& Int64.toUInt64 63)).toInt64)) &&& (1085102592571150095 : Int64))).toUInt64 >>> (((8 : Int32)).toInt64.toUInt64 &&& Int64.toUInt64 63)).toInt64))).toUInt64 >>> (((16 : Int32)).toInt64.toUInt64 &&& Int64.toUInt64 63)).toInt64) hx hb dJ13_bitCount_95d88_45 rfl ?_
  refine lv_ladd hx hb dJ13_bitCount_95d88_46 ?_
  refine lv_lstore_n (lv' := [(0, .long (((((((x0 - ((((x0).toUInt64 >>> (((1 : Int32)).toInt64.toUInt64 &&& Int64.toUInt64 63)).toInt64) &&& (6148914691236517205 : Int64))) &&& (3689348814741910323 : Int64)) + (((((x0 - ((((x0).toUInt64 >>> (((1 : Int32)).toInt64.toUInt64 &&& Int64.toUInt64 63)).toInt64) &&& (6148914691236517205 : Int64)))).toUInt64 >>> (((2 : Int32)).toInt64.toUInt64 &&& Int64.toUInt64 63)).toInt64) &&& (3689348814741910323 : Int64))) + ((((((x0 - ((((x0).toUInt64 >>> (((1 : Int32)).toInt64.toUInt64 &&& Int64.toUInt64 63)).toInt64) &&& (6148914691236517205 : Int64))) &&& (3689348814741910323 : Int64)) + (((((x0 - ((((x0).toUInt64 >>> (((1 : Int32)).toInt64.toUInt64 &&& Int64.toUInt64 63)).toInt64) &&& (6148914691236517205 : Int64)))).toUInt64 >>> (((2 : Int32)).toInt64.toUInt64 &&& Int64.toUInt64 63)).toInt64) &&& (3689348814741910323 : Int64)))).toUInt64 >>> (((4 : Int32)).toInt64.toUInt64 &&& Int64.toUInt64 63)).toInt64)) &&& (1085102592571150095 : Int64)) + ((((((((x0 - ((((x0).toUInt64 >>> (((1 : Int32)).toInt64.toUInt64 &&& Int64.toUInt64 63)).toInt64) &&& (6148914691236517205 : Int64))) &&& (3689348814741910323 : Int64)) + (((((x0 - ((((x0).toUInt64 >>> (((1 : Int32)).toInt64.toUInt64 &&& Int64.toUInt64 63)).toInt64) &&& (6148914691236517205 : Int64)))).toUInt64 >>> (((2 : Int32)).toInt64.toUInt64 &&& Int64.toUInt64 63)).toInt64) &&& (3689348814741910323 : Int64))) + ((((((x0 - ((((x0).toUInt64 >>> (((1 : Int32)).toInt64.toUInt64 &&& Int64.toUInt64 63)).toInt64) &&& (6148914691236517205 : Int64))) &&& (3689348814741910323 : Int64)) + (((((x0 - ((((x0).toUInt64 >>> (((1 : Int32)).toInt64.toUInt64 &&& Int64.toUInt64 63)).toInt64) &&& (6148914691236517205 : Int64)))).toUInt64 >>> (((2 : Int32)).toInt64.toUInt64 &&& Int64.toUInt64 63)).toInt64) &&& (3689348814741910323 : Int64)))).toUInt64 >>> (((4 : Int32)).toInt64.toUInt64 &&& Int64.toUInt64 63)).toInt64)) &&& (1085102592571150095 : Int64))).toUInt64 >>> (((8 : Int32)).toInt64.toUInt64 &&& Int64.toUInt64 63)).toInt64)) + (((((((((x0 - ((((x0).toUInt64 >>> (((1 : Int32)).toInt64.toUInt64 &&& Int64.toUInt64 63)).toInt64) &&& (6148914691236517205 : Int64))) &&& (3689348814741910323 : Int64)) + (((((x0 - ((((x0).toUInt64 >>> (((1 : Int32)).toInt64.toUInt64 &&& Int64.toUInt64 63)).toInt64) &&& (6148914691236517205 : Int64)))).toUInt64 >>> (((2 : Int32)).toInt64.toUInt64 &&& Int64.toUInt64 63)).toInt64) &&& (3689348814741910323 : Int64))) + ((((((x0 - ((((x0).toUInt64 >>> (((1 : Int32)).toInt64.toUInt64 &&& Int64.toUInt64 63)).toInt64) &&& (6148914691236517205 : Int64))) &&& (3689348814741910323 : Int64)) + (((((x0 - ((((x0).toUInt64 >>> (((1 : Int32)).toInt64.toUInt64 &&& Int64.toUInt64 63)).toInt64) &&& (6148914691236517205 : Int64)))).toUInt64 >>> (((2 : Int32)).toInt64.toUInt64 &&& Int64.toUInt64 63)).toInt64) &&& (3689348814741910323 : Int64)))).toUInt64 >>> (((4 : Int32)).toInt64.toUInt64 &&& Int64.toUInt64 63)).toInt64)) &&& (1085102592571150095 : Int64)) + ((((((((x0 - ((((x0).toUInt64 >>> (((1 : Int32)).toInt64.toUInt64 &&& Int64.toUInt64 63)).toInt64) &&& (6148914691236517205 : Int64))) &&& (3689348814741910323 : Int64)) + (((((x0 - ((((x0).toUInt64 >>> (((1 : Int32)).toInt64.toUInt64 &&& Int64.toUInt64 63)).toInt64) &&& (6148914691236517205 : Int64)))).toUInt64 >>> (((2 : Int32)).toInt64.toUInt64 &&& Int64.toUInt64 63)).toInt64) &&& (3689348814741910323 : Int64))) + ((((((x0 - ((((x0).toUInt64 >>> (((1 : Int32)).toInt64.toUInt64 &&& Int64.toUInt64 63)).toInt64) &&& (6148914691236517205 : Int64))) &&& (3689348814741910323 : Int64)) + (((((x0 - ((((x0).toUInt64 >>> (((1 : Int32)).toInt64.toUInt64 &&& Int64.toUInt64 63)).toInt64) &&& (6148914691236517205 : Int64)))).toUInt64 >>> (((2 : Int32)).toInt64.toUInt64 &&& Int64.toUInt64 63)).toInt64) &&& (3689348814741910323 : Int64)))).toUInt64 >>> (((4 : Int32)).toInt64.toUInt64 &&& Int64.toUInt64 63)).toInt64)) &&& (1085102592571150095 : Int64))).toUInt64 >>> (((8 : Int32)).toInt64.toUInt64 &&& Int64.toUInt64 63)).toInt64))).toUInt64 >>> (((16 : Int32)).toInt64.toUInt64 &&& Int64.toUInt64 63)).toInt64)))]) hx hb dJ13_bitCount_95d88_47 rfl hl (Nat.le_of_ble_eq_true rfl) rfl (fun ls hl => ?_)
  refine lv_lload_n hx hb dJ13_bitCount_95d88_48 rfl (lv_at hl 0 rfl) ?_
  refine lv_lload_n hx hb dJ13_bitCount_95d88_49 rfl (lv_at hl 0 rfl) ?_
  refine lv_bipush (v := (32 : Int32)) hx hb dJ13_bitCount_95d88_50 (by decide) ?_
  refine lv_lushr (v := (((((((((x0 - ((((x0).toUInt64 >>> (((1 : Int32)).toInt64.toUInt64 &&& Int64.toUInt64 63)).toInt64) &&& (6148914691236517205 : Int64))) &&& (3689348814741910323 : Int64)) + (((((x0 - ((((x0).toUInt64 >>> (((1 : Int32)).toInt64.toUInt64 &&& Int64.toUInt64 63)).toInt64) &&& (6148914691236517205 : Int64)))).toUInt64 >>> (((2 : Int32)).toInt64.toUInt64 &&& Int64.toUInt64 63)).toInt64) &&& (3689348814741910323 : Int64))) + ((((((x0 - ((((x0).toUInt64 >>> (((1 : Int32)).toInt64.toUInt64 &&& Int64.toUInt64 63)).toInt64) &&& (6148914691236517205 : Int64))) &&& (3689348814741910323 : Int64)) + (((((x0 - ((((x0).toUInt64 >>> (((1 : Int32)).toInt64.toUInt64 &&& Int64.toUInt64 63)).toInt64) &&& (6148914691236517205 : Int64)))).toUInt64 >>> (((2 : Int32)).toInt64.toUInt64 &&& Int64.toUInt64 63)).toInt64) &&& (3689348814741910323 : Int64)))).toUInt64 >>> (((4 : Int32)).toInt64.toUInt64 &&& Int64.toUInt64 63)).toInt64)) &&& (1085102592571150095 : Int64)) + ((((((((x0 - ((((x0).toUInt64 >>> (((1 : Int32)).toInt64.toUInt64 &&& Int64.toUInt64 63)).toInt64) &&& (6148914691236517205 : Int64))) &&& (3689348814741910323 : Int64)) + (((((x0 - ((((x0).toUInt64 >>> (((1 : Int32)).toInt64.toUInt64 &&& Int64.toUInt64 63)).toInt64) &&& (6148914691236517205 : Int64)))).toUInt64 >>> (((2 : Int32)).toInt64.toUInt64 &&& Int64.toUInt64 63)).toInt64) &&& (3689348814741910323 : Int64))) + ((((((x0 - ((((x0).toUInt64 >>> (((1 : Int32)).toInt64.toUInt64 &&& Int64.toUInt64 63)).toInt64) &&& (6148914691236517205 : Int64))) &&& (3689348814741910323 : Int64)) + (((((x0 - ((((x0).toUInt64 >>> (((1 : Int32)).toInt64.toUInt64 &&& Int64.toUInt64 63)).toInt64) &&& (6148914691236517205 : Int64)))).toUInt64 >>> (((2 : Int32)).toInt64.toUInt64 &&& Int64.toUInt64 63)).toInt64) &&& (3689348814741910323 : Int64)))).toUInt64 >>> (((4 : Int32)).toInt64.toUInt64 &&& Int64.toUInt64 63)).toInt64)) &&& (1085102592571150095 : Int64))).toUInt64 >>> (((8 : Int32)).toInt64.toUInt64 &&& Int64.toUInt64 63)).toInt64)) + (((((((((x0 - ((((x0).toUInt64 >>> (((1 : Int32)).toInt64.toUInt64 &&& Int64.toUInt64 63)).toInt64) &&& (6148914691236517205 : Int64))) &&& (3689348814741910323 : Int64)) + (((((x0 - ((((x0).toUInt64 >>> (((1 : Int32)).toInt64.toUInt64 &&& Int64.toUInt64 63)).toInt64) &&& (6148914691236517205 : Int64)))).toUInt64 >>> (((2 : Int32)).toInt64.toUInt64 &&& Int64.toUInt64 63)).toInt64) &&& (3689348814741910323 : Int64))) + ((((((x0 - ((((x0).toUInt64 >>> (((1 : Int32)).toInt64.toUInt64 &&& Int64.toUInt64 63)).toInt64) &&& (6148914691236517205 : Int64))) &&& (3689348814741910323 : Int64)) + (((((x0 - ((((x0).toUInt64 >>> (((1 : Int32)).toInt64.toUInt64 &&& Int64.toUInt64 63)).toInt64) &&& (6148914691236517205 : Int64)))).toUInt64 >>> (((2 : Int32)).toInt64.toUInt64 &&& Int64.toUInt64 63)).toInt64) &&& (3689348814741910323 : Int64)))).toUInt64 >>> (((4 : Int32)).toInt64.toUInt64 &&& Int64.toUInt64 63)).toInt64)) &&& (1085102592571150095 : Int64)) + ((((((((x0 - ((((x0).toUInt64 >>> (((1 : Int32)).toInt64.toUInt64 &&& Int64.toUInt64 63)).toInt64) &&& (6148914691236517205 : Int64))) &&& (3689348814741910323 : Int64)) + (((((x0 - ((((x0).toUInt64 >>> (((1 : Int32)).toInt64.toUInt64 &&& Int64.toUInt64 63)).toInt64) &&& (6148914691236517205 : Int64)))).toUInt64 >>> (((2 : Int32)).toInt64.toUInt64 &&& Int64.toUInt64 63)).toInt64) &&& (3689348814741910323 : Int64))) + ((((((x0 - ((((x0).toUInt64 >>> (((1 : Int32)).toInt64.toUInt64 &&& Int64.toUInt64 63)).toInt64) &&& (6148914691236517205 : Int64))) &&& (3689348814741910323 : Int64)) + (((((x0 - ((((x0).toUInt64 >>> (((1 : Int32)).toInt64.toUInt64 &&& Int64.toUInt64 63)).toInt64) &&& (6148914691236517205 : Int64)))).toUInt64 >>> (((2 : Int32)).toInt64.toUInt64 &&& Int64.toUInt64 63)).toInt64) &&& (3689348814741910323 : Int64)))).toUInt64 >>> (((4 : Int32)).toInt64.toUInt64 &&& Int64.toUInt64 63)).toInt64)) &&& (1085102592571150095 : Int64))).toUInt64 >>> (((8 : Int32)).toInt64.toUInt64 &&& Int64.toUInt64 63)).toInt64))).toUInt64 >>> (((16 : Int32)).toInt64.toUInt64 &&& Int64.toUInt64 63)).toInt64))).toUInt64 >>> (((32 : Int32)).toInt64.toUInt64 &&& Int64.toUInt64 63)).toInt64) hx hb dJ13_bitCount_95d88_52 rfl ?_
  refine lv_ladd hx hb dJ13_bitCount_95d88_53 ?_
  refine lv_lstore_n (lv' := [(0, .long ((((((((x0 - ((((x0).toUInt64 >>> (((1 : Int32)).toInt64.toUInt64 &&& Int64.toUInt64 63)).toInt64) &&& (6148914691236517205 : Int64))) &&& (3689348814741910323 : Int64)) + (((((x0 - ((((x0).toUInt64 >>> (((1 : Int32)).toInt64.toUInt64 &&& Int64.toUInt64 63)).toInt64) &&& (6148914691236517205 : Int64)))).toUInt64 >>> (((2 : Int32)).toInt64.toUInt64 &&& Int64.toUInt64 63)).toInt64) &&& (3689348814741910323 : Int64))) + ((((((x0 - ((((x0).toUInt64 >>> (((1 : Int32)).toInt64.toUInt64 &&& Int64.toUInt64 63)).toInt64) &&& (6148914691236517205 : Int64))) &&& (3689348814741910323 : Int64)) + (((((x0 - ((((x0).toUInt64 >>> (((1 : Int32)).toInt64.toUInt64 &&& Int64.toUInt64 63)).toInt64) &&& (6148914691236517205 : Int64)))).toUInt64 >>> (((2 : Int32)).toInt64.toUInt64 &&& Int64.toUInt64 63)).toInt64) &&& (3689348814741910323 : Int64)))).toUInt64 >>> (((4 : Int32)).toInt64.toUInt64 &&& Int64.toUInt64 63)).toInt64)) &&& (1085102592571150095 : Int64)) + ((((((((x0 - ((((x0).toUInt64 >>> (((1 : Int32)).toInt64.toUInt64 &&& Int64.toUInt64 63)).toInt64) &&& (6148914691236517205 : Int64))) &&& (3689348814741910323 : Int64)) + (((((x0 - ((((x0).toUInt64 >>> (((1 : Int32)).toInt64.toUInt64 &&& Int64.toUInt64 63)).toInt64) &&& (6148914691236517205 : Int64)))).toUInt64 >>> (((2 : Int32)).toInt64.toUInt64 &&& Int64.toUInt64 63)).toInt64) &&& (3689348814741910323 : Int64))) + ((((((x0 - ((((x0).toUInt64 >>> (((1 : Int32)).toInt64.toUInt64 &&& Int64.toUInt64 63)).toInt64) &&& (6148914691236517205 : Int64))) &&& (3689348814741910323 : Int64)) + (((((x0 - ((((x0).toUInt64 >>> (((1 : Int32)).toInt64.toUInt64 &&& Int64.toUInt64 63)).toInt64) &&& (6148914691236517205 : Int64)))).toUInt64 >>> (((2 : Int32)).toInt64.toUInt64 &&& Int64.toUInt64 63)).toInt64) &&& (3689348814741910323 : Int64)))).toUInt64 >>> (((4 : Int32)).toInt64.toUInt64 &&& Int64.toUInt64 63)).toInt64)) &&& (1085102592571150095 : Int64))).toUInt64 >>> (((8 : Int32)).toInt64.toUInt64 &&& Int64.toUInt64 63)).toInt64)) + (((((((((x0 - ((((x0).toUInt64 >>> (((1 : Int32)).toInt64.toUInt64 &&& Int64.toUInt64 63)).toInt64) &&& (6148914691236517205 : Int64))) &&& (3689348814741910323 : Int64)) + (((((x0 - ((((x0).toUInt64 >>> (((1 : Int32)).toInt64.toUInt64 &&& Int64.toUInt64 63)).toInt64) &&& (6148914691236517205 : Int64)))).toUInt64 >>> (((2 : Int32)).toInt64.toUInt64 &&& Int64.toUInt64 63)).toInt64) &&& (3689348814741910323 : Int64))) + ((((((x0 - ((((x0).toUInt64 >>> (((1 : Int32)).toInt64.toUInt64 &&& Int64.toUInt64 63)).toInt64) &&& (6148914691236517205 : Int64))) &&& (3689348814741910323 : Int64)) + (((((x0 - ((((x0).toUInt64 >>> (((1 : Int32)).toInt64.toUInt64 &&& Int64.toUInt64 63)).toInt64) &&& (6148914691236517205 : Int64)))).toUInt64 >>> (((2 : Int32)).toInt64.toUInt64 &&& Int64.toUInt64 63)).toInt64) &&& (3689348814741910323 : Int64)))).toUInt64 >>> (((4 : Int32)).toInt64.toUInt64 &&& Int64.toUInt64 63)).toInt64)) &&& (1085102592571150095 : Int64)) + ((((((((x0 - ((((x0).toUInt64 >>> (((1 : Int32)).toInt64.toUInt64 &&& Int64.toUInt64 63)).toInt64) &&& (6148914691236517205 : Int64))) &&& (3689348814741910323 : Int64)) + (((((x0 - ((((x0).toUInt64 >>> (((1 : Int32)).toInt64.toUInt64 &&& Int64.toUInt64 63)).toInt64) &&& (6148914691236517205 : Int64)))).toUInt64 >>> (((2 : Int32)).toInt64.toUInt64 &&& Int64.toUInt64 63)).toInt64) &&& (3689348814741910323 : Int64))) + ((((((x0 - ((((x0).toUInt64 >>> (((1 : Int32)).toInt64.toUInt64 &&& Int64.toUInt64 63)).toInt64) &&& (6148914691236517205 : Int64))) &&& (3689348814741910323 : Int64)) + (((((x0 - ((((x0).toUInt64 >>> (((1 : Int32)).toInt64.toUInt64 &&& Int64.toUInt64 63)).toInt64) &&& (6148914691236517205 : Int64)))).toUInt64 >>> (((2 : Int32)).toInt64.toUInt64 &&& Int64.toUInt64 63)).toInt64) &&& (3689348814741910323 : Int64)))).toUInt64 >>> (((4 : Int32)).toInt64.toUInt64 &&& Int64.toUInt64 63)).toInt64)) &&& (1085102592571150095 : Int64))).toUInt64 >>> (((8 : Int32)).toInt64.toUInt64 &&& Int64.toUInt64 63)).toInt64))).toUInt64 >>> (((16 : Int32)).toInt64.toUInt64 &&& Int64.toUInt64 63)).toInt64)) + ((((((((((x0 - ((((x0).toUInt64 >>> (((1 : Int32)).toInt64.toUInt64 &&& Int64.toUInt64 63)).toInt64) &&& (6148914691236517205 : Int64))) &&& (3689348814741910323 : Int64)) + (((((x0 - ((((x0).toUInt64 >>> (((1 : Int32)).toInt64.toUInt64 &&& Int64.toUInt64 63)).toInt64) &&& (6148914691236517205 : Int64)))).toUInt64 >>> (((2 : Int32)).toInt64.toUInt64 &&& Int64.toUInt64 63)).toInt64) &&& (3689348814741910323 : Int64))) + ((((((x0 - ((((x0).toUInt64 >>> (((1 : Int32)).toInt64.toUInt64 &&& Int64.toUInt64 63)).toInt64) &&& (6148914691236517205 : Int64))) &&& (3689348814741910323 : Int64)) + (((((x0 - ((((x0).toUInt64 >>> (((1 : Int32)).toInt64.toUInt64 &&& Int64.toUInt64 63)).toInt64) &&& (6148914691236517205 : Int64)))).toUInt64 >>> (((2 : Int32)).toInt64.toUInt64 &&& Int64.toUInt64 63)).toInt64) &&& (3689348814741910323 : Int64)))).toUInt64 >>> (((4 : Int32)).toInt64.toUInt64 &&& Int64.toUInt64 63)).toInt64)) &&& (1085102592571150095 : Int64)) + ((((((((x0 - ((((x0).toUInt64 >>> (((1 : Int32)).toInt64.toUInt64 &&& Int64.toUInt64 63)).toInt64) &&& (6148914691236517205 : Int64))) &&& (3689348814741910323 : Int64)) + (((((x0 - ((((x0).toUInt64 >>> (((1 : Int32)).toInt64.toUInt64 &&& Int64.toUInt64 63)).toInt64) &&& (6148914691236517205 : Int64)))).toUInt64 >>> (((2 : Int32)).toInt64.toUInt64 &&& Int64.toUInt64 63)).toInt64) &&& (3689348814741910323 : Int64))) + ((((((x0 - ((((x0).toUInt64 >>> (((1 : Int32)).toInt64.toUInt64 &&& Int64.toUInt64 63)).toInt64) &&& (6148914691236517205 : Int64))) &&& (3689348814741910323 : Int64)) + (((((x0 - ((((x0).toUInt64 >>> (((1 : Int32)).toInt64.toUInt64 &&& Int64.toUInt64 63)).toInt64) &&& (6148914691236517205 : Int64)))).toUInt64 >>> (((2 : Int32)).toInt64.toUInt64 &&& Int64.toUInt64 63)).toInt64) &&& (3689348814741910323 : Int64)))).toUInt64 >>> (((4 : Int32)).toInt64.toUInt64 &&& Int64.toUInt64 63)).toInt64)) &&& (1085102592571150095 : Int64))).toUInt64 >>> (((8 : Int32)).toInt64.toUInt64 &&& Int64.toUInt64 63)).toInt64)) + (((((((((x0 - ((((x0).toUInt64 >>> (((1 : Int32)).toInt64.toUInt64 &&& Int64.toUInt64 63)).toInt64) &&& (6148914691236517205 : Int64))) &&& (3689348814741910323 : Int64)) + (((((x0 - ((((x0).toUInt64 >>> (((1 : Int32)).toInt64.toUInt64 &&& Int64.toUInt64 63)).toInt64) &&& (6148914691236517205 : Int64)))).toUInt64 >>> (((2 : Int32)).toInt64.toUInt64 &&& Int64.toUInt64 63)).toInt64) &&& (3689348814741910323 : Int64))) + ((((((x0 - ((((x0).toUInt64 >>> (((1 : Int32)).toInt64.toUInt64 &&& Int64.toUInt64 63)).toInt64) &&& (6148914691236517205 : Int64))) &&& (3689348814741910323 : Int64)) + (((((x0 - ((((x0).toUInt64 >>> (((1 : Int32)).toInt64.toUInt64 &&& Int64.toUInt64 63)).toInt64) &&& (6148914691236517205 : Int64)))).toUInt64 >>> (((2 : Int32)).toInt64.toUInt64 &&& Int64.toUInt64 63)).toInt64) &&& (3689348814741910323 : Int64)))).toUInt64 >>> (((4 : Int32)).toInt64.toUInt64 &&& Int64.toUInt64 63)).toInt64)) &&& (1085102592571150095 : Int64)) + ((((((((x0 - ((((x0).toUInt64 >>> (((1 : Int32)).toInt64.toUInt64 &&& Int64.toUInt64 63)).toInt64) &&& (6148914691236517205 : Int64))) &&& (3689348814741910323 : Int64)) + (((((x0 - ((((x0).toUInt64 >>> (((1 : Int32)).toInt64.toUInt64 &&& Int64.toUInt64 63)).toInt64) &&& (6148914691236517205 : Int64)))).toUInt64 >>> (((2 : Int32)).toInt64.toUInt64 &&& Int64.toUInt64 63)).toInt64) &&& (3689348814741910323 : Int64))) + ((((((x0 - ((((x0).toUInt64 >>> (((1 : Int32)).toInt64.toUInt64 &&& Int64.toUInt64 63)).toInt64) &&& (6148914691236517205 : Int64))) &&& (3689348814741910323 : Int64)) + (((((x0 - ((((x0).toUInt64 >>> (((1 : Int32)).toInt64.toUInt64 &&& Int64.toUInt64 63)).toInt64) &&& (6148914691236517205 : Int64)))).toUInt64 >>> (((2 : Int32)).toInt64.toUInt64 &&& Int64.toUInt64 63)).toInt64) &&& (3689348814741910323 : Int64)))).toUInt64 >>> (((4 : Int32)).toInt64.toUInt64 &&& Int64.toUInt64 63)).toInt64)) &&& (1085102592571150095 : Int64))).toUInt64 >>> (((8 : Int32)).toInt64.toUInt64 &&& Int64.toUInt64 63)).toInt64))).toUInt64 >>> (((16 : Int32)).toInt64.toUInt64 &&& Int64.toUInt64 63)).toInt64))).toUInt64 >>> (((32 : Int32)).toInt64.toUInt64 &&& Int64.toUInt64 63)).toInt64)))]) hx hb dJ13_bitCount_95d88_54 rfl hl (Nat.le_of_ble_eq_true rfl) rfl (fun ls hl => ?_)
  refine lv_lload_n hx hb dJ13_bitCount_95d88_55 rfl (lv_at hl 0 rfl) ?_
  refine lv_l2i (v := (((((((((x0 - ((((x0).toUInt64 >>> (((1 : Int32)).toInt64.toUInt64 &&& Int64.toUInt64 63)).toInt64) &&& (6148914691236517205 : Int64))) &&& (3689348814741910323 : Int64)) + (((((x0 - ((((x0).toUInt64 >>> (((1 : Int32)).toInt64.toUInt64 &&& Int64.toUInt64 63)).toInt64) &&& (6148914691236517205 : Int64)))).toUInt64 >>> (((2 : Int32)).toInt64.toUInt64 &&& Int64.toUInt64 63)).toInt64) &&& (3689348814741910323 : Int64))) + ((((((x0 - ((((x0).toUInt64 >>> (((1 : Int32)).toInt64.toUInt64 &&& Int64.toUInt64 63)).toInt64) &&& (6148914691236517205 : Int64))) &&& (3689348814741910323 : Int64)) + (((((x0 - ((((x0).toUInt64 >>> (((1 : Int32)).toInt64.toUInt64 &&& Int64.toUInt64 63)).toInt64) &&& (6148914691236517205 : Int64)))).toUInt64 >>> (((2 : Int32)).toInt64.toUInt64 &&& Int64.toUInt64 63)).toInt64) &&& (3689348814741910323 : Int64)))).toUInt64 >>> (((4 : Int32)).toInt64.toUInt64 &&& Int64.toUInt64 63)).toInt64)) &&& (1085102592571150095 : Int64)) + ((((((((x0 - ((((x0).toUInt64 >>> (((1 : Int32)).toInt64.toUInt64 &&& Int64.toUInt64 63)).toInt64) &&& (6148914691236517205 : Int64))) &&& (3689348814741910323 : Int64)) + (((((x0 - ((((x0).toUInt64 >>> (((1 : Int32)).toInt64.toUInt64 &&& Int64.toUInt64 63)).toInt64) &&& (6148914691236517205 : Int64)))).toUInt64 >>> (((2 : Int32)).toInt64.toUInt64 &&& Int64.toUInt64 63)).toInt64) &&& (3689348814741910323 : Int64))) + ((((((x0 - ((((x0).toUInt64 >>> (((1 : Int32)).toInt64.toUInt64 &&& Int64.toUInt64 63)).toInt64) &&& (6148914691236517205 : Int64))) &&& (3689348814741910323 : Int64)) + (((((x0 - ((((x0).toUInt64 >>> (((1 : Int32)).toInt64.toUInt64 &&& Int64.toUInt64 63)).toInt64) &&& (6148914691236517205 : Int64)))).toUInt64 >>> (((2 : Int32)).toInt64.toUInt64 &&& Int64.toUInt64 63)).toInt64) &&& (3689348814741910323 : Int64)))).toUInt64 >>> (((4 : Int32)).toInt64.toUInt64 &&& Int64.toUInt64 63)).toInt64)) &&& (1085102592571150095 : Int64))).toUInt64 >>> (((8 : Int32)).toInt64.toUInt64 &&& Int64.toUInt64 63)).toInt64)) + (((((((((x0 - ((((x0).toUInt64 >>> (((1 : Int32)).toInt64.toUInt64 &&& Int64.toUInt64 63)).toInt64) &&& (6148914691236517205 : Int64))) &&& (3689348814741910323 : Int64)) + (((((x0 - ((((x0).toUInt64 >>> (((1 : Int32)).toInt64.toUInt64 &&& Int64.toUInt64 63)).toInt64) &&& (6148914691236517205 : Int64)))).toUInt64 >>> (((2 : Int32)).toInt64.toUInt64 &&& Int64.toUInt64 63)).toInt64) &&& (3689348814741910323 : Int64))) + ((((((x0 - ((((x0).toUInt64 >>> (((1 : Int32)).toInt64.toUInt64 &&& Int64.toUInt64 63)).toInt64) &&& (6148914691236517205 : Int64))) &&& (3689348814741910323 : Int64)) + (((((x0 - ((((x0).toUInt64 >>> (((1 : Int32)).toInt64.toUInt64 &&& Int64.toUInt64 63)).toInt64) &&& (6148914691236517205 : Int64)))).toUInt64 >>> (((2 : Int32)).toInt64.toUInt64 &&& Int64.toUInt64 63)).toInt64) &&& (3689348814741910323 : Int64)))).toUInt64 >>> (((4 : Int32)).toInt64.toUInt64 &&& Int64.toUInt64 63)).toInt64)) &&& (1085102592571150095 : Int64)) + ((((((((x0 - ((((x0).toUInt64 >>> (((1 : Int32)).toInt64.toUInt64 &&& Int64.toUInt64 63)).toInt64) &&& (6148914691236517205 : Int64))) &&& (3689348814741910323 : Int64)) + (((((x0 - ((((x0).toUInt64 >>> (((1 : Int32)).toInt64.toUInt64 &&& Int64.toUInt64 63)).toInt64) &&& (6148914691236517205 : Int64)))).toUInt64 >>> (((2 : Int32)).toInt64.toUInt64 &&& Int64.toUInt64 63)).toInt64) &&& (3689348814741910323 : Int64))) + ((((((x0 - ((((x0).toUInt64 >>> (((1 : Int32)).toInt64.toUInt64 &&& Int64.toUInt64 63)).toInt64) &&& (6148914691236517205 : Int64))) &&& (3689348814741910323 : Int64)) + (((((x0 - ((((x0).toUInt64 >>> (((1 : Int32)).toInt64.toUInt64 &&& Int64.toUInt64 63)).toInt64) &&& (6148914691236517205 : Int64)))).toUInt64 >>> (((2 : Int32)).toInt64.toUInt64 &&& Int64.toUInt64 63)).toInt64) &&& (3689348814741910323 : Int64)))).toUInt64 >>> (((4 : Int32)).toInt64.toUInt64 &&& Int64.toUInt64 63)).toInt64)) &&& (1085102592571150095 : Int64))).toUInt64 >>> (((8 : Int32)).toInt64.toUInt64 &&& Int64.toUInt64 63)).toInt64))).toUInt64 >>> (((16 : Int32)).toInt64.toUInt64 &&& Int64.toUInt64 63)).toInt64)) + ((((((((((x0 - ((((x0).toUInt64 >>> (((1 : Int32)).toInt64.toUInt64 &&& Int64.toUInt64 63)).toInt64) &&& (6148914691236517205 : Int64))) &&& (3689348814741910323 : Int64)) + (((((x0 - ((((x0).toUInt64 >>> (((1 : Int32)).toInt64.toUInt64 &&& Int64.toUInt64 63)).toInt64) &&& (6148914691236517205 : Int64)))).toUInt64 >>> (((2 : Int32)).toInt64.toUInt64 &&& Int64.toUInt64 63)).toInt64) &&& (3689348814741910323 : Int64))) + ((((((x0 - ((((x0).toUInt64 >>> (((1 : Int32)).toInt64.toUInt64 &&& Int64.toUInt64 63)).toInt64) &&& (6148914691236517205 : Int64))) &&& (3689348814741910323 : Int64)) + (((((x0 - ((((x0).toUInt64 >>> (((1 : Int32)).toInt64.toUInt64 &&& Int64.toUInt64 63)).toInt64) &&& (6148914691236517205 : Int64)))).toUInt64 >>> (((2 : Int32)).toInt64.toUInt64 &&& Int64.toUInt64 63)).toInt64) &&& (3689348814741910323 : Int64)))).toUInt64 >>> (((4 : Int32)).toInt64.toUInt64 &&& Int64.toUInt64 63)).toInt64)) &&& (1085102592571150095 : Int64)) + ((((((((x0 - ((((x0).toUInt64 >>> (((1 : Int32)).toInt64.toUInt64 &&& Int64.toUInt64 63)).toInt64) &&& (6148914691236517205 : Int64))) &&& (3689348814741910323 : Int64)) + (((((x0 - ((((x0).toUInt64 >>> (((1 : Int32)).toInt64.toUInt64 &&& Int64.toUInt64 63)).toInt64) &&& (6148914691236517205 : Int64)))).toUInt64 >>> (((2 : Int32)).toInt64.toUInt64 &&& Int64.toUInt64 63)).toInt64) &&& (3689348814741910323 : Int64))) + ((((((x0 - ((((x0).toUInt64 >>> (((1 : Int32)).toInt64.toUInt64 &&& Int64.toUInt64 63)).toInt64) &&& (6148914691236517205 : Int64))) &&& (3689348814741910323 : Int64)) + (((((x0 - ((((x0).toUInt64 >>> (((1 : Int32)).toInt64.toUInt64 &&& Int64.toUInt64 63)).toInt64) &&& (6148914691236517205 : Int64)))).toUInt64 >>> (((2 : Int32)).toInt64.toUInt64 &&& Int64.toUInt64 63)).toInt64) &&& (3689348814741910323 : Int64)))).toUInt64 >>> (((4 : Int32)).toInt64.toUInt64 &&& Int64.toUInt64 63)).toInt64)) &&& (1085102592571150095 : Int64))).toUInt64 >>> (((8 : Int32)).toInt64.toUInt64 &&& Int64.toUInt64 63)).toInt64)) + (((((((((x0 - ((((x0).toUInt64 >>> (((1 : Int32)).toInt64.toUInt64 &&& Int64.toUInt64 63)).toInt64) &&& (6148914691236517205 : Int64))) &&& (3689348814741910323 : Int64)) + (((((x0 - ((((x0).toUInt64 >>> (((1 : Int32)).toInt64.toUInt64 &&& Int64.toUInt64 63)).toInt64) &&& (6148914691236517205 : Int64)))).toUInt64 >>> (((2 : Int32)).toInt64.toUInt64 &&& Int64.toUInt64 63)).toInt64) &&& (3689348814741910323 : Int64))) + ((((((x0 - ((((x0).toUInt64 >>> (((1 : Int32)).toInt64.toUInt64 &&& Int64.toUInt64 63)).toInt64) &&& (6148914691236517205 : Int64))) &&& (3689348814741910323 : Int64)) + (((((x0 - ((((x0).toUInt64 >>> (((1 : Int32)).toInt64.toUInt64 &&& Int64.toUInt64 63)).toInt64) &&& (6148914691236517205 : Int64)))).toUInt64 >>> (((2 : Int32)).toInt64.toUInt64 &&& Int64.toUInt64 63)).toInt64) &&& (3689348814741910323 : Int64)))).toUInt64 >>> (((4 : Int32)).toInt64.toUInt64 &&& Int64.toUInt64 63)).toInt64)) &&& (1085102592571150095 : Int64)) + ((((((((x0 - ((((x0).toUInt64 >>> (((1 : Int32)).toInt64.toUInt64 &&& Int64.toUInt64 63)).toInt64) &&& (6148914691236517205 : Int64))) &&& (3689348814741910323 : Int64)) + (((((x0 - ((((x0).toUInt64 >>> (((1 : Int32)).toInt64.toUInt64 &&& Int64.toUInt64 63)).toInt64) &&& (6148914691236517205 : Int64)))).toUInt64 >>> (((2 : Int32)).toInt64.toUInt64 &&& Int64.toUInt64 63)).toInt64) &&& (3689348814741910323 : Int64))) + ((((((x0 - ((((x0).toUInt64 >>> (((1 : Int32)).toInt64.toUInt64 &&& Int64.toUInt64 63)).toInt64) &&& (6148914691236517205 : Int64))) &&& (3689348814741910323 : Int64)) + (((((x0 - ((((x0).toUInt64 >>> (((1 : Int32)).toInt64.toUInt64 &&& Int64.toUInt64 63)).toInt64) &&& (6148914691236517205 : Int64)))).toUInt64 >>> (((2 : Int32)).toInt64.toUInt64 &&& Int64.toUInt64 63)).toInt64) &&& (3689348814741910323 : Int64)))).toUInt64 >>> (((4 : Int32)).toInt64.toUInt64 &&& Int64.toUInt64 63)).toInt64)) &&& (1085102592571150095 : Int64))).toUInt64 >>> (((8 : Int32)).toInt64.toUInt64 &&& Int64.toUInt64 63)).toInt64))).toUInt64 >>> (((16 : Int32)).toInt64.toUInt64 &&& Int64.toUInt64 63)).toInt64))).toUInt64 >>> (((32 : Int32)).toInt64.toUInt64 &&& Int64.toUInt64 63)).toInt64))).toInt32) hx hb dJ13_bitCount_95d88_56 rfl ?_
  refine lv_bipush (v := (127 : Int32)) hx hb dJ13_bitCount_95d88_57 (by decide) ?_
  refine lv_iand hx hb dJ13_bitCount_95d88_59 ?_
  exact hret (((((((((((x0 - ((((x0).toUInt64 >>> (((1 : Int32)).toInt64.toUInt64 &&& Int64.toUInt64 63)).toInt64) &&& (6148914691236517205 : Int64))) &&& (3689348814741910323 : Int64)) + (((((x0 - ((((x0).toUInt64 >>> (((1 : Int32)).toInt64.toUInt64 &&& Int64.toUInt64 63)).toInt64) &&& (6148914691236517205 : Int64)))).toUInt64 >>> (((2 : Int32)).toInt64.toUInt64 &&& Int64.toUInt64 63)).toInt64) &&& (3689348814741910323 : Int64))) + ((((((x0 - ((((x0).toUInt64 >>> (((1 : Int32)).toInt64.toUInt64 &&& Int64.toUInt64 63)).toInt64) &&& (6148914691236517205 : Int64))) &&& (3689348814741910323 : Int64)) + (((((x0 - ((((x0).toUInt64 >>> (((1 : Int32)).toInt64.toUInt64 &&& Int64.toUInt64 63)).toInt64) &&& (6148914691236517205 : Int64)))).toUInt64 >>> (((2 : Int32)).toInt64.toUInt64 &&& Int64.toUInt64 63)).toInt64) &&& (3689348814741910323 : Int64)))).toUInt64 >>> (((4 : Int32)).toInt64.toUInt64 &&& Int64.toUInt64 63)).toInt64)) &&& (1085102592571150095 : Int64)) + ((((((((x0 - ((((x0).toUInt64 >>> (((1 : Int32)).toInt64.toUInt64 &&& Int64.toUInt64 63)).toInt64) &&& (6148914691236517205 : Int64))) &&& (3689348814741910323 : Int64)) + (((((x0 - ((((x0).toUInt64 >>> (((1 : Int32)).toInt64.toUInt64 &&& Int64.toUInt64 63)).toInt64) &&& (6148914691236517205 : Int64)))).toUInt64 >>> (((2 : Int32)).toInt64.toUInt64 &&& Int64.toUInt64 63)).toInt64) &&& (3689348814741910323 : Int64))) + ((((((x0 - ((((x0).toUInt64 >>> (((1 : Int32)).toInt64.toUInt64 &&& Int64.toUInt64 63)).toInt64) &&& (6148914691236517205 : Int64))) &&& (3689348814741910323 : Int64)) + (((((x0 - ((((x0).toUInt64 >>> (((1 : Int32)).toInt64.toUInt64 &&& Int64.toUInt64 63)).toInt64) &&& (6148914691236517205 : Int64)))).toUInt64 >>> (((2 : Int32)).toInt64.toUInt64 &&& Int64.toUInt64 63)).toInt64) &&& (3689348814741910323 : Int64)))).toUInt64 >>> (((4 : Int32)).toInt64.toUInt64 &&& Int64.toUInt64 63)).toInt64)) &&& (1085102592571150095 : Int64))).toUInt64 >>> (((8 : Int32)).toInt64.toUInt64 &&& Int64.toUInt64 63)).toInt64)) + (((((((((x0 - ((((x0).toUInt64 >>> (((1 : Int32)).toInt64.toUInt64 &&& Int64.toUInt64 63)).toInt64) &&& (6148914691236517205 : Int64))) &&& (3689348814741910323 : Int64)) + (((((x0 - ((((x0).toUInt64 >>> (((1 : Int32)).toInt64.toUInt64 &&& Int64.toUInt64 63)).toInt64) &&& (6148914691236517205 : Int64)))).toUInt64 >>> (((2 : Int32)).toInt64.toUInt64 &&& Int64.toUInt64 63)).toInt64) &&& (3689348814741910323 : Int64))) + ((((((x0 - ((((x0).toUInt64 >>> (((1 : Int32)).toInt64.toUInt64 &&& Int64.toUInt64 63)).toInt64) &&& (6148914691236517205 : Int64))) &&& (3689348814741910323 : Int64)) + (((((x0 - ((((x0).toUInt64 >>> (((1 : Int32)).toInt64.toUInt64 &&& Int64.toUInt64 63)).toInt64) &&& (6148914691236517205 : Int64)))).toUInt64 >>> (((2 : Int32)).toInt64.toUInt64 &&& Int64.toUInt64 63)).toInt64) &&& (3689348814741910323 : Int64)))).toUInt64 >>> (((4 : Int32)).toInt64.toUInt64 &&& Int64.toUInt64 63)).toInt64)) &&& (1085102592571150095 : Int64)) + ((((((((x0 - ((((x0).toUInt64 >>> (((1 : Int32)).toInt64.toUInt64 &&& Int64.toUInt64 63)).toInt64) &&& (6148914691236517205 : Int64))) &&& (3689348814741910323 : Int64)) + (((((x0 - ((((x0).toUInt64 >>> (((1 : Int32)).toInt64.toUInt64 &&& Int64.toUInt64 63)).toInt64) &&& (6148914691236517205 : Int64)))).toUInt64 >>> (((2 : Int32)).toInt64.toUInt64 &&& Int64.toUInt64 63)).toInt64) &&& (3689348814741910323 : Int64))) + ((((((x0 - ((((x0).toUInt64 >>> (((1 : Int32)).toInt64.toUInt64 &&& Int64.toUInt64 63)).toInt64) &&& (6148914691236517205 : Int64))) &&& (3689348814741910323 : Int64)) + (((((x0 - ((((x0).toUInt64 >>> (((1 : Int32)).toInt64.toUInt64 &&& Int64.toUInt64 63)).toInt64) &&& (6148914691236517205 : Int64)))).toUInt64 >>> (((2 : Int32)).toInt64.toUInt64 &&& Int64.toUInt64 63)).toInt64) &&& (3689348814741910323 : Int64)))).toUInt64 >>> (((4 : Int32)).toInt64.toUInt64 &&& Int64.toUInt64 63)).toInt64)) &&& (1085102592571150095 : Int64))).toUInt64 >>> (((8 : Int32)).toInt64.toUInt64 &&& Int64.toUInt64 63)).toInt64))).toUInt64 >>> (((16 : Int32)).toInt64.toUInt64 &&& Int64.toUInt64 63)).toInt64)) + ((((((((((x0 - ((((x0).toUInt64 >>> (((1 : Int32)).toInt64.toUInt64 &&& Int64.toUInt64 63)).toInt64) &&& (6148914691236517205 : Int64))) &&& (3689348814741910323 : Int64)) + (((((x0 - ((((x0).toUInt64 >>> (((1 : Int32)).toInt64.toUInt64 &&& Int64.toUInt64 63)).toInt64) &&& (6148914691236517205 : Int64)))).toUInt64 >>> (((2 : Int32)).toInt64.toUInt64 &&& Int64.toUInt64 63)).toInt64) &&& (3689348814741910323 : Int64))) + ((((((x0 - ((((x0).toUInt64 >>> (((1 : Int32)).toInt64.toUInt64 &&& Int64.toUInt64 63)).toInt64) &&& (6148914691236517205 : Int64))) &&& (3689348814741910323 : Int64)) + (((((x0 - ((((x0).toUInt64 >>> (((1 : Int32)).toInt64.toUInt64 &&& Int64.toUInt64 63)).toInt64) &&& (6148914691236517205 : Int64)))).toUInt64 >>> (((2 : Int32)).toInt64.toUInt64 &&& Int64.toUInt64 63)).toInt64) &&& (3689348814741910323 : Int64)))).toUInt64 >>> (((4 : Int32)).toInt64.toUInt64 &&& Int64.toUInt64 63)).toInt64)) &&& (1085102592571150095 : Int64)) + ((((((((x0 - ((((x0).toUInt64 >>> (((1 : Int32)).toInt64.toUInt64 &&& Int64.toUInt64 63)).toInt64) &&& (6148914691236517205 : Int64))) &&& (3689348814741910323 : Int64)) + (((((x0 - ((((x0).toUInt64 >>> (((1 : Int32)).toInt64.toUInt64 &&& Int64.toUInt64 63)).toInt64) &&& (6148914691236517205 : Int64)))).toUInt64 >>> (((2 : Int32)).toInt64.toUInt64 &&& Int64.toUInt64 63)).toInt64) &&& (3689348814741910323 : Int64))) + ((((((x0 - ((((x0).toUInt64 >>> (((1 : Int32)).toInt64.toUInt64 &&& Int64.toUInt64 63)).toInt64) &&& (6148914691236517205 : Int64))) &&& (3689348814741910323 : Int64)) + (((((x0 - ((((x0).toUInt64 >>> (((1 : Int32)).toInt64.toUInt64 &&& Int64.toUInt64 63)).toInt64) &&& (6148914691236517205 : Int64)))).toUInt64 >>> (((2 : Int32)).toInt64.toUInt64 &&& Int64.toUInt64 63)).toInt64) &&& (3689348814741910323 : Int64)))).toUInt64 >>> (((4 : Int32)).toInt64.toUInt64 &&& Int64.toUInt64 63)).toInt64)) &&& (1085102592571150095 : Int64))).toUInt64 >>> (((8 : Int32)).toInt64.toUInt64 &&& Int64.toUInt64 63)).toInt64)) + (((((((((x0 - ((((x0).toUInt64 >>> (((1 : Int32)).toInt64.toUInt64 &&& Int64.toUInt64 63)).toInt64) &&& (6148914691236517205 : Int64))) &&& (3689348814741910323 : Int64)) + (((((x0 - ((((x0).toUInt64 >>> (((1 : Int32)).toInt64.toUInt64 &&& Int64.toUInt64 63)).toInt64) &&& (6148914691236517205 : Int64)))).toUInt64 >>> (((2 : Int32)).toInt64.toUInt64 &&& Int64.toUInt64 63)).toInt64) &&& (3689348814741910323 : Int64))) + ((((((x0 - ((((x0).toUInt64 >>> (((1 : Int32)).toInt64.toUInt64 &&& Int64.toUInt64 63)).toInt64) &&& (6148914691236517205 : Int64))) &&& (3689348814741910323 : Int64)) + (((((x0 - ((((x0).toUInt64 >>> (((1 : Int32)).toInt64.toUInt64 &&& Int64.toUInt64 63)).toInt64) &&& (6148914691236517205 : Int64)))).toUInt64 >>> (((2 : Int32)).toInt64.toUInt64 &&& Int64.toUInt64 63)).toInt64) &&& (3689348814741910323 : Int64)))).toUInt64 >>> (((4 : Int32)).toInt64.toUInt64 &&& Int64.toUInt64 63)).toInt64)) &&& (1085102592571150095 : Int64)) + ((((((((x0 - ((((x0).toUInt64 >>> (((1 : Int32)).toInt64.toUInt64 &&& Int64.toUInt64 63)).toInt64) &&& (6148914691236517205 : Int64))) &&& (3689348814741910323 : Int64)) + (((((x0 - ((((x0).toUInt64 >>> (((1 : Int32)).toInt64.toUInt64 &&& Int64.toUInt64 63)).toInt64) &&& (6148914691236517205 : Int64)))).toUInt64 >>> (((2 : Int32)).toInt64.toUInt64 &&& Int64.toUInt64 63)).toInt64) &&& (3689348814741910323 : Int64))) + ((((((x0 - ((((x0).toUInt64 >>> (((1 : Int32)).toInt64.toUInt64 &&& Int64.toUInt64 63)).toInt64) &&& (6148914691236517205 : Int64))) &&& (3689348814741910323 : Int64)) + (((((x0 - ((((x0).toUInt64 >>> (((1 : Int32)).toInt64.toUInt64 &&& Int64.toUInt64 63)).toInt64) &&& (6148914691236517205 : Int64)))).toUInt64 >>> (((2 : Int32)).toInt64.toUInt64 &&& Int64.toUInt64 63)).toInt64) &&& (3689348814741910323 : Int64)))).toUInt64 >>> (((4 : Int32)).toInt64.toUInt64 &&& Int64.toUInt64 63)).toInt64)) &&& (1085102592571150095 : Int64))).toUInt64 >>> (((8 : Int32)).toInt64.toUInt64 &&& Int64.toUInt64 63)).toInt64))).toUInt64 >>> (((16 : Int32)).toInt64.toUInt64 &&& Int64.toUInt64 63)).toInt64))).toUInt64 >>> (((32 : Int32)).toInt64.toUInt64 &&& Int64.toUInt64 63)).toInt64))).toInt32) &&& (127 : Int32)) hf H locs ls _ dJ13_bitCount_95d88_60 hP hT hS
def rmX10_of : Room := { frames := 5, cells := 0, slots := 0, locals := 118 }
set_option maxHeartbeats 4000000 in
set_option maxRecDepth 100000 in
theorem k_X10_of (l : Launch) (D : va_G) (ce : Nat → ClassId) (b : Nat) (I : mI) (L : mL) (R : mR) (hT : WT kdC R) (x0 : Nat) (x1 : Int32) (x2 : Int32) (h0 : kdC x0 = 16) (o1 : Int32) (o2 : mI) (o3 : mL) (hf : f_X10_of x0 x1 x2 I L R = some (o1, o2, o3)) : Met l yX10_of (Cond.code yX10_of cX10_of 4 (some .int) :: GW) rmX10_of (va_Pc [.ref (b + x0), .int x1, .int x2] (PW D ce b kdC lnC 272 I L R)) (va_Qi (fun r u => r = o1 ∧ u = (o2, o3, R)) (QW D ce b kdC lnC 272) (box b 272)) 0 0 (box b 272) := by
  refine Met.ofW (cc := cX10_of) (maxL := 4) (ret := (some .int)) (by decide) rfl ?_
  intro p e s m args below meth c s₁ B hml hv
  obtain ⟨rfl, hP, hKK⟩ := hv
  have hx := B.exec
  have hb := B.bytes
  have hr := B.returns
  have hts0 := atoms_spec (ws := Cond.code yX10_of cX10_of 4 (some .int) :: GW) B.pre
  have hts : ∀ w ∈ GW, w.before _ s = true := fun w h => hts0 w (List.mem_cons_of_mem _ h)
  clear hts0
  have hown : s.vm.findClass RX10 = some m.cls := findClass_of_methodNamed B.named
  have hlocks := B.notSynchronized
  have hA : ∀ q, box b 272 q → box b 272 q := fun _ h => h
  have hS : va_S (box b 272) s.heap s.heap [] := va_S.rf
  have hl := lv_entry ([.ref (b + x0), .int x1, .int x2]) (n := 4) (Nat.le_of_ble_eq_true rfl)
  rw [lg_entry_eq]
  generalize (lg_sl ([.ref (b + x0), .int x1, .int x2]) ++ List.replicate (4 - (lg_sl ([.ref (b + x0), .int x1, .int x2])).length) Slot.unset).toArray = ls at hl ⊢
  have hl : lv_has ls 4 [(0, .ref (b + x0)), (1, .int x1), (2, .int x2)] := hl
  generalize ([.ref (b + x0), .int x1, .int x2] : List Value).toArray = av at hts ⊢
  show W p l e rmX10_of s m av below meth c s.heap [] 0 0 _ _
  obtain ⟨QQ, hQQ⟩ : ∃ z, z = MQ below (va_Qi (fun r u => r = o1 ∧ u = (o2, o3, R)) (QW D ce b kdC lnC 272) (box b 272)) av s 0 0 (box b 272) := ⟨_, rfl⟩
  rw [← hQQ]
  have hret : ∀ (r : Int32) (I1 : mI) (L1 : mL), some (r, I1, L1) = some (o1, o2, o3) → ∀ (H1 : Heap) (locs1 : List Loc) (ls1 : Array Slot) (pc1 : Nat), decode cX10_of pc1 = .ok (.ireturn, 1) → va_P D vwCl (wd ce b kdC lnC 272 I1 L1 R) H1 → WT kdC R → va_S (box b 272) s.heap H1 locs1 → W p l e rmX10_of s m av below meth c H1 locs1 0 0 QQ (F0 m pc1 ls1 [.int r]) := by
    intro r I1 L1 hq H1 locs1 ls1 pc1 hd hP hT hS
    cases hq
    rw [hQQ]
    exact mm_iret hx hb hr hlocks hP hT hS hd
  unfold f_X10_of at hf
  obtain ⟨H, hH⟩ : ∃ z, z = s.heap := ⟨_, rfl⟩
  obtain ⟨locs, hlo⟩ : ∃ z : List Loc, z = [] := ⟨_, rfl⟩
  have hP : va_P D vwCl (wd ce b kdC lnC 272 I L R) H := by rw [hH]; exact hP
  have hS : va_S (box b 272) s.heap H locs := by rw [hH, hlo]; exact hS
  rw [show W p l e rmX10_of s m av below meth c s.heap [] 0 0 QQ = W p l e rmX10_of s m av below meth c H locs 0 0 QQ by rw [hH, hlo]]
  clear hH hlo
  clear hQQ
  show W p l e rmX10_of s m av below meth c H locs 0 0 QQ (F0 m 0 ls [])
  refine lv_aload_n hx hb dX10_of_0 rfl (lv_at hl 0 rfl) ?_
  refine lv_iload_n hx hb dX10_of_1 rfl (lv_at hl 1 rfl) ?_
  obtain ⟨r1, e1, hf⟩ := bd1_o hf
  refine mm_Vi (rest := []) hx hb hml hown hts hKK hP hS hA (kdC_lt h0 (Nat.succ_ne_zero _)) h0 (show vwCl[10]? = some (yX10_isRule.cls, TX10, 15) from rfl) vkX10_122 (k_X10_isRule l D ce b I L R hT x0 x1 h0 r1 e1) rfl hl.1 rfl (Nat.le_of_ble_eq_true rfl) ⟨rfl, rfl⟩ ⟨Nat.le_of_ble_eq_true rfl, Nat.le_of_ble_eq_true rfl⟩ ⟨Nat.zero_le _, Nat.zero_le _⟩ dX10_of_2 (fun H locs hP hT hS => ?_)
  refine jnE hf (fun j17_2 ej_2 hf => ?_)
  have hJ17_2 : ∀ (H : Heap) (locs : List Loc) (ls : Array Slot), va_P D vwCl (wd ce b kdC lnC 272 I L R) H → va_S (box b 272) s.heap H locs → lv_has ls 4 [(0, .ref (b + x0))] → j17_2  = some (o1, o2, o3) → W p l e rmX10_of s m av below meth c H locs 0 0 QQ (F0 m 17 ls []) := by
    intro  H locs ls hP hS  hl hf
    rw [ej_2] at hf
    try dsimp only at hf
    refine lv_aload_n hx hb dX10_of_17 rfl (lv_at hl 0 rfl) ?_
    obtain ⟨r3, I3, e3, hf⟩ := bd2_o hf
    refine mm_Vi (rest := []) hx hb hml hown hts hKK hP hS hA (kdC_lt h0 (Nat.succ_ne_zero _)) h0 (show vwCl[10]? = some (yX10_refuseBad.cls, TX10, 15) from rfl) vkX10_81 (k_X10_refuseBad l D ce b I L R hT x0 h0 r3 I3 e3) rfl hl.1 rfl (Nat.le_of_ble_eq_true rfl) ⟨rfl, rfl⟩ ⟨Nat.le_of_ble_eq_true rfl, Nat.le_of_ble_eq_true rfl⟩ ⟨Nat.zero_le _, Nat.zero_le _⟩ dX10_of_18 (fun H locs hP hT hS => ?_)
    exact hret r3 I3 L hf H locs ls _ dX10_of_21 hP hT hS
  clear ej_2
  refine lv_if_eq (tgt := 17) hx hb dX10_of_5 (by decide) (fun c4 => ?_) (fun c4 => ?_)
  · have hf := ifT hf c4
    exact hJ17_2  H locs ls hP hS  (lv_sub hl [0] rfl) hf
  · have hf := ifF hf c4
    refine lv_iload_n hx hb dX10_of_8 rfl (lv_at hl 2 rfl) ?_
    refine lv_if_lt (tgt := 17) hx hb dX10_of_9 (by decide) (fun c5 => ?_) (fun c5 => ?_)
    · have hf := ifT hf c5
      exact hJ17_2  H locs ls hP hS  (lv_sub hl [0] rfl) hf
    · have hf := ifF hf c5
      refine lv_iload_n hx hb dX10_of_12 rfl (lv_at hl 2 rfl) ?_
      refine lv_iconst (v := (5 : Int32)) hx hb dX10_of_13 (by decide) ?_
      refine lv_icmp_le (tgt := 22) hx hb dX10_of_14 (by decide) (fun c6 => ?_) (fun c6 => ?_)
      · have hf := ifT hf c6
        refine lv_aload_n hx hb dX10_of_22 rfl (lv_at hl 0 rfl) ?_
        have t7 : kdC (R x0 0) = 13 := wt hT h0 rfl
        refine mm_getr hx hb hts hown hKK hP fk10_0 (Nat.le_of_ble_eq_true rfl) lkX10_10 (kdC_lt h0 (Nat.succ_ne_zero _)) h0 (nC t7 (Nat.succ_ne_zero _)) dX10_of_23 ?_
        have t8 : kdC (R (R x0 0) 0) = 4 := wt hT t7 rfl
        refine mm_getr hx hb hts hown hKK hP fk7_0 (Nat.le_of_ble_eq_true rfl) lkX10_132 (kdC_lt t7 (Nat.succ_ne_zero _)) t7 (nC t8 (Nat.succ_ne_zero _)) dX10_of_26 ?_
        refine lv_iload_n hx hb dX10_of_29 rfl (lv_at hl 1 rfl) ?_
        obtain ⟨g9, hf⟩ := grd hf
        have t10 : kdC (R (R (R x0 0) 0) x1.toNatClampNeg) = 9 := wt hT t8 rfl
        refine mm_aald4 hx hb hKK hP (kdC_lt t8 (Nat.succ_ne_zero _)) t8 g9 (nC t10 (Nat.succ_ne_zero _)) dX10_of_30 ?_
        refine lv_astore_n (lv' := [(3, .ref (b + (R (R (R x0 0) 0) x1.toNatClampNeg))), (0, .ref (b + x0)), (1, .int x1), (2, .int x2)]) hx hb dX10_of_31 rfl hl (Nat.le_of_ble_eq_true rfl) rfl (fun ls hl => ?_)
        refine lv_iload_n hx hb dX10_of_32 rfl (lv_at hl 3 rfl) ?_
        by_cases c11 : x2 = (0 : Int32)
        · have hf := ifT hf c11
          refine lv_tableIn (off := 35) (tgt := 68) hx hb dX10_of_33 (by rw [c11]; decide) (by rw [c11]; decide) (by rw [c11]; first | done | rfl) (by decide) ?_
          refine lv_aload_n hx hb dX10_of_68 rfl (lv_at hl 0 rfl) ?_
          have t12 : kdC (R (R (R (R x0 0) 0) x1.toNatClampNeg) 0) = 14 := wt hT t10 rfl
          refine mm_getr hx hb hts hown hKK hP fk3_0 (Nat.le_of_ble_eq_true rfl) lkX10_136 (kdC_lt t10 (Nat.succ_ne_zero _)) t10 (nC t12 (Nat.succ_ne_zero _)) dX10_of_69 ?_
          refine mm_geti hx hb hts hown hKK hP fk8_2 (Or.inl rfl) lkX10_119 (kdC_lt t12 (Nat.succ_ne_zero _)) t12 dX10_of_72 ?_
          exact hret (I (R (R (R (R x0 0) 0) x1.toNatClampNeg) 0) 2) I L hf H locs ls _ dX10_of_75 hP hT hS
        · have hf := ifF hf c11
          by_cases c13 : x2 = (1 : Int32)
          · have hf := ifT hf c13
            refine lv_tableIn (off := 43) (tgt := 76) hx hb dX10_of_33 (by rw [c13]; decide) (by rw [c13]; decide) (by rw [c13]; first | done | rfl) (by decide) ?_
            refine lv_aload_n hx hb dX10_of_76 rfl (lv_at hl 0 rfl) ?_
            have t14 : kdC (R (R (R (R x0 0) 0) x1.toNatClampNeg) 1) = 14 := wt hT t10 rfl
            refine mm_getr hx hb hts hown hKK hP fk3_1 (Nat.le_of_ble_eq_true rfl) lkX10_141 (kdC_lt t10 (Nat.succ_ne_zero _)) t10 (nC t14 (Nat.succ_ne_zero _)) dX10_of_77 ?_
            refine mm_geti hx hb hts hown hKK hP fk8_2 (Or.inl rfl) lkX10_119 (kdC_lt t14 (Nat.succ_ne_zero _)) t14 dX10_of_80 ?_
            exact hret (I (R (R (R (R x0 0) 0) x1.toNatClampNeg) 1) 2) I L hf H locs ls _ dX10_of_83 hP hT hS
          · have hf := ifF hf c13
            by_cases c15 : x2 = (2 : Int32)
            · have hf := ifT hf c15
              refine lv_tableIn (off := 51) (tgt := 84) hx hb dX10_of_33 (by rw [c15]; decide) (by rw [c15]; decide) (by rw [c15]; first | done | rfl) (by decide) ?_
              refine lv_aload_n hx hb dX10_of_84 rfl (lv_at hl 0 rfl) ?_
              have t16 : kdC (R (R (R (R x0 0) 0) x1.toNatClampNeg) 0) = 14 := wt hT t10 rfl
              refine mm_getr hx hb hts hown hKK hP fk3_0 (Nat.le_of_ble_eq_true rfl) lkX10_136 (kdC_lt t10 (Nat.succ_ne_zero _)) t10 (nC t16 (Nat.succ_ne_zero _)) dX10_of_85 ?_
              have t17 : kdC (R (R (R (R (R x0 0) 0) x1.toNatClampNeg) 0) 0) = 1 := wt hT t16 rfl
              refine mm_getr hx hb hts hown hKK hP fk8_0 (Nat.le_of_ble_eq_true rfl) lkX10_144 (kdC_lt t16 (Nat.succ_ne_zero _)) t16 (nC t17 (Nat.succ_ne_zero _)) dX10_of_88 ?_
              refine lv_iconst (v := (0 : Int32)) hx hb dX10_of_91 (by decide) ?_
              obtain ⟨g18, hf⟩ := grd hf
              refine mm_iald hx hb hKK hP (kdC_lt t17 (Nat.succ_ne_zero _)) t17 g18 dX10_of_92 ?_
              exact hret (I (R (R (R (R (R x0 0) 0) x1.toNatClampNeg) 0) 0) ((0 : Int32)).toNatClampNeg) I L hf H locs ls _ dX10_of_93 hP hT hS
            · have hf := ifF hf c15
              by_cases c19 : x2 = (3 : Int32)
              · have hf := ifT hf c19
                refine lv_tableIn (off := 61) (tgt := 94) hx hb dX10_of_33 (by rw [c19]; decide) (by rw [c19]; decide) (by rw [c19]; first | done | rfl) (by decide) ?_
                refine lv_aload_n hx hb dX10_of_94 rfl (lv_at hl 0 rfl) ?_
                have t20 : kdC (R (R (R (R x0 0) 0) x1.toNatClampNeg) 0) = 14 := wt hT t10 rfl
                refine mm_getr hx hb hts hown hKK hP fk3_0 (Nat.le_of_ble_eq_true rfl) lkX10_136 (kdC_lt t10 (Nat.succ_ne_zero _)) t10 (nC t20 (Nat.succ_ne_zero _)) dX10_of_95 ?_
                obtain ⟨r21, e21, hf⟩ := bd1_o hf
                refine mm_Vi (rest := []) hx hb hml hown hts hKK hP hS hA (kdC_lt t20 (Nat.succ_ne_zero _)) t20 (show vwCl[8]? = some (yX8_unknowns.cls, TX8, 3) from rfl) vkX10_147 (k_X8_unknowns l D ce b I L R hT (R (R (R (R x0 0) 0) x1.toNatClampNeg) 0) t20 r21 e21) rfl hl.1 rfl (Nat.le_of_ble_eq_true rfl) ⟨rfl, rfl⟩ ⟨Nat.le_of_ble_eq_true rfl, Nat.le_of_ble_eq_true rfl⟩ ⟨Nat.zero_le _, Nat.zero_le _⟩ dX10_of_98 (fun H locs hP hT hS => ?_)
                exact hret r21 I L hf H locs ls _ dX10_of_101 hP hT hS
              · have hf := ifF hf c19
                by_cases c22 : x2 = (4 : Int32)
                · have hf := ifT hf c22
                  refine lv_tableIn (off := 69) (tgt := 102) hx hb dX10_of_33 (by rw [c22]; decide) (by rw [c22]; decide) (by rw [c22]; first | done | rfl) (by decide) ?_
                  refine lv_aload_n hx hb dX10_of_102 rfl (lv_at hl 0 rfl) ?_
                  have t23 : kdC (R (R (R (R x0 0) 0) x1.toNatClampNeg) 1) = 14 := wt hT t10 rfl
                  refine mm_getr hx hb hts hown hKK hP fk3_1 (Nat.le_of_ble_eq_true rfl) lkX10_141 (kdC_lt t10 (Nat.succ_ne_zero _)) t10 (nC t23 (Nat.succ_ne_zero _)) dX10_of_103 ?_
                  obtain ⟨r24, e24, hf⟩ := bd1_o hf
                  refine mm_Vi (rest := []) hx hb hml hown hts hKK hP hS hA (kdC_lt t23 (Nat.succ_ne_zero _)) t23 (show vwCl[8]? = some (yX8_unknowns.cls, TX8, 3) from rfl) vkX10_147 (k_X8_unknowns l D ce b I L R hT (R (R (R (R x0 0) 0) x1.toNatClampNeg) 1) t23 r24 e24) rfl hl.1 rfl (Nat.le_of_ble_eq_true rfl) ⟨rfl, rfl⟩ ⟨Nat.le_of_ble_eq_true rfl, Nat.le_of_ble_eq_true rfl⟩ ⟨Nat.zero_le _, Nat.zero_le _⟩ dX10_of_106 (fun H locs hP hT hS => ?_)
                  exact hret r24 I L hf H locs ls _ dX10_of_109 hP hT hS
                · have hf := ifF hf c22
                  have qc11 := lv_neT c11 (a := 0) rfl
                  have qc13 := lv_neT c13 (a := 1) rfl
                  have qc15 := lv_neT c15 (a := 2) rfl
                  have qc19 := lv_neT c19 (a := 3) rfl
                  have qc22 := lv_neT c22 (a := 4) rfl
                  refine lv_tableOut (tgt := 110) hx hb dX10_of_33 (by omega) (by decide) ?_
                  refine lv_aload_n hx hb dX10_of_110 rfl (lv_at hl 1 rfl) ?_
                  obtain ⟨I25, L25, e25, hf⟩ := bd2_o hf
                  refine mm_Vv (rest := []) hx hb hml hown hts hKK hP hS hA (kdC_lt h0 (Nat.succ_ne_zero _)) h0 (show vwCl[10]? = some (yX10_keepBookRight.cls, TX10, 15) from rfl) vkX10_150 (k_X10_keepBookRight l D ce b I L R hT x0 h0 I25 L25 e25) rfl hl.1 rfl (Nat.le_of_ble_eq_true rfl) ⟨rfl, rfl⟩ ⟨Nat.le_of_ble_eq_true rfl, Nat.le_of_ble_eq_true rfl⟩ ⟨Nat.zero_le _, Nat.zero_le _⟩ dX10_of_111 (fun H locs hP hT hS => ?_)
                  refine lv_aload_n hx hb dX10_of_114 rfl (lv_at hl 1 rfl) ?_
                  have t26 : kdC (R x0 4) = 6 := wt hT h0 rfl
                  refine mm_getr hx hb hts hown hKK hP fk10_4 (Nat.le_of_ble_eq_true rfl) lkX10_40 (kdC_lt h0 (Nat.succ_ne_zero _)) h0 (nC t26 (Nat.succ_ne_zero _)) dX10_of_115 ?_
                  have t27 : kdC (R (R x0 4) 5) = 2 := wt hT t26 rfl
                  refine mm_getr hx hb hts hown hKK hP fk0_5 (Nat.le_of_ble_eq_true rfl) lkX10_153 (kdC_lt t26 (Nat.succ_ne_zero _)) t26 (nC t27 (Nat.succ_ne_zero _)) dX10_of_118 ?_
                  refine lv_iload_n hx hb dX10_of_121 rfl (lv_at hl 2 rfl) ?_
                  obtain ⟨g28, hf⟩ := grd hf
                  refine mm_lald hx hb hKK hP (kdC_lt t27 (Nat.succ_ne_zero _)) t27 g28 dX10_of_122 ?_
                  obtain ⟨r29, e29, hf⟩ := bd1_o hf
                  refine mm_Si (rest := []) hx hb hml hown hts hKK hP hS hA skX10_157 (k_J13_bitCount_95d88 l D ce b I25 L25 R hT (L25 (R (R x0 4) 5) x1.toNatClampNeg)  r29 e29) rfl hl.1 rfl (Nat.le_of_ble_eq_true rfl) ⟨rfl, rfl⟩ ⟨Nat.le_of_ble_eq_true rfl, Nat.le_of_ble_eq_true rfl⟩ ⟨Nat.zero_le _, Nat.zero_le _⟩ dX10_of_123 (fun H locs hP hT hS => ?_)
                  exact hret r29 I25 L25 hf H locs ls _ dX10_of_126 hP hT hS
      · have hf := ifF hf c6
        exact hJ17_2  H locs ls hP hS  (lv_sub hl [0] rfl) hf
def rmX5_put : Room := { frames := 0, cells := 0, slots := 0, locals := 0 }
set_option maxHeartbeats 4000000 in
set_option maxRecDepth 100000 in
theorem k_X5_put (l : Launch) (D : va_G) (ce : Nat → ClassId) (b : Nat) (I : mI) (L : mL) (R : mR) (hT : WT kdC R) (x0 : Nat) (x1 : Int32) (h0 : kdC x0 = 11) (o1 : mI) (hf : f_X5_put x0 x1 I R = some o1) : Met l yX5_put (Cond.code yX5_put cX5_put 2 none :: GW) rmX5_put (va_Pc [.ref (b + x0), .int x1] (PW D ce b kdC lnC 272 I L R)) (va_Qv (fun u => u = (o1, L, R)) (QW D ce b kdC lnC 272) (box b 272)) 0 0 (box b 272) := by
  refine Met.ofW (cc := cX5_put) (maxL := 2) (ret := none) (by decide) rfl ?_
  intro p e s m args below meth c s₁ B hml hv
  obtain ⟨rfl, hP, hKK⟩ := hv
  have hx := B.exec
  have hb := B.bytes
  have hr := B.returns
  have hts0 := atoms_spec (ws := Cond.code yX5_put cX5_put 2 none :: GW) B.pre
  have hts : ∀ w ∈ GW, w.before _ s = true := fun w h => hts0 w (List.mem_cons_of_mem _ h)
  clear hts0
  have hown : s.vm.findClass RX5 = some m.cls := findClass_of_methodNamed B.named
  have hlocks := B.notSynchronized
  have hA : ∀ q, box b 272 q → box b 272 q := fun _ h => h
  have hS : va_S (box b 272) s.heap s.heap [] := va_S.rf
  have hl := lv_entry ([.ref (b + x0), .int x1]) (n := 2) (Nat.le_of_ble_eq_true rfl)
  rw [lg_entry_eq]
  generalize (lg_sl ([.ref (b + x0), .int x1]) ++ List.replicate (2 - (lg_sl ([.ref (b + x0), .int x1])).length) Slot.unset).toArray = ls at hl ⊢
  have hl : lv_has ls 2 [(0, .ref (b + x0)), (1, .int x1)] := hl
  generalize ([.ref (b + x0), .int x1] : List Value).toArray = av at hts ⊢
  show W p l e rmX5_put s m av below meth c s.heap [] 0 0 _ _
  obtain ⟨QQ, hQQ⟩ : ∃ z, z = MQ below (va_Qv (fun u => u = (o1, L, R)) (QW D ce b kdC lnC 272) (box b 272)) av s 0 0 (box b 272) := ⟨_, rfl⟩
  rw [← hQQ]
  have hret : ∀ (I1 : mI), some I1 = some o1 → ∀ (H1 : Heap) (locs1 : List Loc) (ls1 : Array Slot) (pc1 : Nat), decode cX5_put pc1 = .ok (.return_, 1) → va_P D vwCl (wd ce b kdC lnC 272 I1 L R) H1 → WT kdC R → va_S (box b 272) s.heap H1 locs1 → W p l e rmX5_put s m av below meth c H1 locs1 0 0 QQ (F0 m pc1 ls1 []) := by
    intro I1 hq H1 locs1 ls1 pc1 hd hP hT hS
    cases hq
    rw [hQQ]
    exact mm_vret hx hb hr hlocks hP hT hS hd
  unfold f_X5_put at hf
  obtain ⟨H, hH⟩ : ∃ z, z = s.heap := ⟨_, rfl⟩
  obtain ⟨locs, hlo⟩ : ∃ z : List Loc, z = [] := ⟨_, rfl⟩
  have hP : va_P D vwCl (wd ce b kdC lnC 272 I L R) H := by rw [hH]; exact hP
  have hS : va_S (box b 272) s.heap H locs := by rw [hH, hlo]; exact hS
  rw [show W p l e rmX5_put s m av below meth c s.heap [] 0 0 QQ = W p l e rmX5_put s m av below meth c H locs 0 0 QQ by rw [hH, hlo]]
  clear hH hlo
  clear hQQ
  show W p l e rmX5_put s m av below meth c H locs 0 0 QQ (F0 m 0 ls [])
  refine lv_aload_n hx hb dX5_put_0 rfl (lv_at hl 0 rfl) ?_
  refine mm_geti hx hb hts hown hKK hP fk5_1 (Or.inl rfl) lkX5_15 (kdC_lt h0 (Nat.succ_ne_zero _)) h0 dX5_put_1 ?_
  refine lv_aload_n hx hb dX5_put_4 rfl (lv_at hl 0 rfl) ?_
  have t1 : kdC (R x0 0) = 1 := wt hT h0 rfl
  refine mm_getr hx hb hts hown hKK hP fk5_0 (Nat.le_of_ble_eq_true rfl) lkX5_9 (kdC_lt h0 (Nat.succ_ne_zero _)) h0 (nC t1 (Nat.succ_ne_zero _)) dX5_put_5 ?_
  refine mm_alen hx hb hKK hP (kdC_lt t1 (Nat.succ_ne_zero _)) t1 dX5_put_8 ?_
  refine lv_icmp_ge (tgt := 32) hx hb dX5_put_9 (by decide) (fun c2 => ?_) (fun c2 => ?_)
  · have hf := ifT hf c2
    exact hret I hf H locs ls _ dX5_put_32 hP hT hS
  · have hf := ifF hf c2
    refine lv_aload_n hx hb dX5_put_12 rfl (lv_at hl 0 rfl) ?_
    refine mm_getr hx hb hts hown hKK hP fk5_0 (Nat.le_of_ble_eq_true rfl) lkX5_9 (kdC_lt h0 (Nat.succ_ne_zero _)) h0 (nC t1 (Nat.succ_ne_zero _)) dX5_put_13 ?_
    refine lv_aload_n hx hb dX5_put_16 rfl (lv_at hl 0 rfl) ?_
    refine mm_geti hx hb hts hown hKK hP fk5_1 (Or.inl rfl) lkX5_15 (kdC_lt h0 (Nat.succ_ne_zero _)) h0 dX5_put_17 ?_
    refine lv_iload_n hx hb dX5_put_20 rfl (lv_at hl 1 rfl) ?_
    obtain ⟨g3, hf⟩ := grd hf
    refine jnE hf (fun I4 eI4 hf => ?_)
    refine mm_iast hx hb hKK hP hA hS (kdC_lt t1 (Nat.succ_ne_zero _)) t1 g3 dX5_put_21 (fun H locs hP hS => ?_)
    rw [← eI4] at hP
    refine lv_aload_n hx hb dX5_put_22 rfl (lv_at hl 0 rfl) ?_
    refine lv_dup hx hb dX5_put_23 rfl ?_
    refine mm_geti hx hb hts hown hKK hP fk5_1 (Or.inl rfl) lkX5_15 (kdC_lt h0 (Nat.succ_ne_zero _)) h0 dX5_put_24 ?_
    refine lv_iconst (v := (1 : Int32)) hx hb dX5_put_27 (by decide) ?_
    refine lv_iadd hx hb dX5_put_28 ?_
    refine jnE hf (fun I5 eI5 hf => ?_)
    refine mm_puti hx hb hts hown hKK hP hA hS fk5_1 (Or.inl rfl) fw5_1 lkX5_15 (kdC_lt h0 (Nat.succ_ne_zero _)) h0 rfl rfl dX5_put_29 (fun H locs hP hS => ?_)
    rw [← eI5] at hP
    exact hret I5 hf H locs ls _ dX5_put_32 hP hT hS
def rmX5_writeBehind : Room := { frames := 1, cells := 0, slots := 0, locals := 21 }
set_option maxHeartbeats 4000000 in
set_option maxRecDepth 100000 in
theorem k_X5_writeBehind (l : Launch) (D : va_G) (ce : Nat → ClassId) (b : Nat) (I : mI) (L : mL) (R : mR) (hT : WT kdC R) (x0 : Nat) (x1 : Nat) (x2 : Int32) (h0 : kdC x0 = 11) (h1 : kdC x1 = 14) (o1 : mI) (hf : f_X5_writeBehind x0 x1 x2 I R = some o1) : Met l yX5_writeBehind (Cond.code yX5_writeBehind cX5_writeBehind 4 none :: GW) rmX5_writeBehind (va_Pc [.ref (b + x0), .ref (b + x1), .int x2] (PW D ce b kdC lnC 272 I L R)) (va_Qv (fun u => u = (o1, L, R)) (QW D ce b kdC lnC 272) (box b 272)) 0 0 (box b 272) := by
  refine Met.ofW (cc := cX5_writeBehind) (maxL := 4) (ret := none) (by decide) rfl ?_
  intro p e s m args below meth c s₁ B hml hv
  obtain ⟨rfl, hP, hKK⟩ := hv
  have hx := B.exec
  have hb := B.bytes
  have hr := B.returns
  have hts0 := atoms_spec (ws := Cond.code yX5_writeBehind cX5_writeBehind 4 none :: GW) B.pre
  have hts : ∀ w ∈ GW, w.before _ s = true := fun w h => hts0 w (List.mem_cons_of_mem _ h)
  clear hts0
  have hown : s.vm.findClass RX5 = some m.cls := findClass_of_methodNamed B.named
  have hlocks := B.notSynchronized
  have hA : ∀ q, box b 272 q → box b 272 q := fun _ h => h
  have hS : va_S (box b 272) s.heap s.heap [] := va_S.rf
  have hl := lv_entry ([.ref (b + x0), .ref (b + x1), .int x2]) (n := 4) (Nat.le_of_ble_eq_true rfl)
  rw [lg_entry_eq]
  generalize (lg_sl ([.ref (b + x0), .ref (b + x1), .int x2]) ++ List.replicate (4 - (lg_sl ([.ref (b + x0), .ref (b + x1), .int x2])).length) Slot.unset).toArray = ls at hl ⊢
  have hl : lv_has ls 4 [(0, .ref (b + x0)), (1, .ref (b + x1)), (2, .int x2)] := hl
  generalize ([.ref (b + x0), .ref (b + x1), .int x2] : List Value).toArray = av at hts ⊢
  show W p l e rmX5_writeBehind s m av below meth c s.heap [] 0 0 _ _
  obtain ⟨QQ, hQQ⟩ : ∃ z, z = MQ below (va_Qv (fun u => u = (o1, L, R)) (QW D ce b kdC lnC 272) (box b 272)) av s 0 0 (box b 272) := ⟨_, rfl⟩
  rw [← hQQ]
  have hret : ∀ (I1 : mI), some I1 = some o1 → ∀ (H1 : Heap) (locs1 : List Loc) (ls1 : Array Slot) (pc1 : Nat), decode cX5_writeBehind pc1 = .ok (.return_, 1) → va_P D vwCl (wd ce b kdC lnC 272 I1 L R) H1 → WT kdC R → va_S (box b 272) s.heap H1 locs1 → W p l e rmX5_writeBehind s m av below meth c H1 locs1 0 0 QQ (F0 m pc1 ls1 []) := by
    intro I1 hq H1 locs1 ls1 pc1 hd hP hT hS
    cases hq
    rw [hQQ]
    exact mm_vret hx hb hr hlocks hP hT hS hd
  unfold f_X5_writeBehind at hf
  obtain ⟨H, hH⟩ : ∃ z, z = s.heap := ⟨_, rfl⟩
  obtain ⟨locs, hlo⟩ : ∃ z : List Loc, z = [] := ⟨_, rfl⟩
  have hP : va_P D vwCl (wd ce b kdC lnC 272 I L R) H := by rw [hH]; exact hP
  have hS : va_S (box b 272) s.heap H locs := by rw [hH, hlo]; exact hS
  rw [show W p l e rmX5_writeBehind s m av below meth c s.heap [] 0 0 QQ = W p l e rmX5_writeBehind s m av below meth c H locs 0 0 QQ by rw [hH, hlo]]
  clear hH hlo
  clear hQQ
  show W p l e rmX5_writeBehind s m av below meth c H locs 0 0 QQ (F0 m 0 ls [])
  refine lv_iload_n hx hb dX5_writeBehind_0 rfl (lv_at hl 2 rfl) ?_
  refine lv_iconst (v := (2 : Int32)) hx hb dX5_writeBehind_1 (by decide) ?_
  refine lv_isub hx hb dX5_writeBehind_2 ?_
  refine lv_istore_n (lv' := [(3, .int (x2 - (2 : Int32))), (0, .ref (b + x0)), (1, .ref (b + x1)), (2, .int x2)]) hx hb dX5_writeBehind_3 rfl hl (Nat.le_of_ble_eq_true rfl) rfl (fun ls hl => ?_)
  have lp4 : ∀ (n : Nat) (x0 : Nat) (x1 : Nat) (x2 : Int32) (x3 : Int32) (I : mI) (L : mL) (R : mR) (a1 : mI) (H : Heap) (locs : List Loc) (ls : Array Slot), va_P D vwCl (wd ce b kdC lnC 272 I L R) H → va_S (box b 272) s.heap H locs → WT kdC R → kdC x0 = 11 → kdC x1 = 14 → lv_has ls 4 [(0, .ref (b + x0)), (1, .ref (b + x1)), (2, .int x2), (3, .int x3)] → f_X5_writeBehind_L4 n x0 x1 x2 x3 I R = some a1 → (∀ (H1 : Heap) (locs1 : List Loc) (ls1 : Array Slot), va_P D vwCl (wd ce b kdC lnC 272 a1 L R) H1 → va_S (box b 272) s.heap H1 locs1 → lv_has ls1 4 [(0, .ref (b + x0)), (1, .ref (b + x1)), (2, .int x2)] → W p l e rmX5_writeBehind s m av below meth c H1 locs1 0 0 QQ (F0 m 30 ls1 [])) → W p l e rmX5_writeBehind s m av below meth c H locs 0 0 QQ (F0 m 4 ls []) := by
    intro n
    induction n with
    | zero =>
      intro x0 x1 x2 x3 I L R a1 H locs ls hP hS hT h0 h1 hl hf kx
      exact absurd (show (none : Option (mI)) = some _ from hf) (by simp)
    | succ n ih =>
      intro x0 x1 x2 x3 I L R a1 H locs ls hP hS hT h0 h1 hl hf kx
      rw [f_X5_writeBehind_L4] at hf
      refine lv_iload_n hx hb dX5_writeBehind_4 rfl (lv_at hl 3 rfl) ?_
      refine lv_if_lt (tgt := 30) hx hb dX5_writeBehind_5 (by decide) (fun c1 => ?_) (fun c1 => ?_)
      · have hf := ifT hf c1
        cases hf
        exact kx H locs ls hP hS (lv_sub hl [0, 1, 2] rfl)
      · have hf := ifF hf c1
        refine lv_aload_n hx hb dX5_writeBehind_8 rfl (lv_at hl 1 rfl) ?_
        have t2 : kdC (R x1 1) = 1 := wt hT h1 rfl
        refine mm_getr hx hb hts hown hKK hP fk8_1 (Nat.le_of_ble_eq_true rfl) lkX5_50 (kdC_lt h1 (Nat.succ_ne_zero _)) h1 (nC t2 (Nat.succ_ne_zero _)) dX5_writeBehind_9 ?_
        refine lv_iload_n hx hb dX5_writeBehind_12 rfl (lv_at hl 3 rfl) ?_
        obtain ⟨g3, hf⟩ := grd hf
        refine mm_iald hx hb hKK hP (kdC_lt t2 (Nat.succ_ne_zero _)) t2 g3 dX5_writeBehind_13 ?_
        refine lv_iload_n hx hb dX5_writeBehind_14 rfl (lv_at hl 2 rfl) ?_
        refine jnE hf (fun j24_4 ej_4 hf => ?_)
        have hJ24_4 : ∀ (I_4 : mI) (H : Heap) (locs : List Loc) (ls : Array Slot), va_P D vwCl (wd ce b kdC lnC 272 I_4 L R) H → va_S (box b 272) s.heap H locs → lv_has ls 4 [(0, .ref (b + x0)), (1, .ref (b + x1)), (2, .int x2), (3, .int x3)] → j24_4 I_4 = some a1 → W p l e rmX5_writeBehind s m av below meth c H locs 0 0 QQ (F0 m 24 ls []) := by
          intro I_4 H locs ls hP hS  hl hf
          rw [ej_4] at hf
          try dsimp only at hf
          refine lv_iinc (v := (x3 + (-1 : Int32))) (lv' := [(3, .int (x3 + (-1 : Int32))), (0, .ref (b + x0)), (1, .ref (b + x1)), (2, .int x2)]) hx hb dX5_writeBehind_24 hl (k := 3) rfl rfl (Nat.le_of_ble_eq_true rfl) rfl (fun ls hl => ?_)
          refine lv_goto (tgt := 4) hx hb dX5_writeBehind_27 (by decide) ?_
          exact ih x0 x1 x2 (x3 + (-1 : Int32)) I_4 L R a1 H locs ls hP hS hT h0 h1 (lv_sub hl [1, 2, 3, 0] rfl) hf kx
        clear ej_4
        refine lv_icmp_ne (tgt := 24) hx hb dX5_writeBehind_15 (by decide) (fun c5 => ?_) (fun c5 => ?_)
        · have hf := ifF hf c5
          exact hJ24_4 I H locs ls hP hS  (lv_sub hl [0, 1, 2, 3] rfl) hf
        · have hf := ifT hf c5
          refine lv_aload_n hx hb dX5_writeBehind_18 rfl (lv_at hl 0 rfl) ?_
          refine lv_bipush (v := (41 : Int32)) hx hb dX5_writeBehind_19 (by decide) ?_
          obtain ⟨I6, e6, hf⟩ := bd1_o hf
          refine mm_Vv (rest := []) hx hb hml hown hts hKK hP hS hA (kdC_lt h0 (Nat.succ_ne_zero _)) h0 (show vwCl[5]? = some (yX5_put.cls, TX5, 2) from rfl) vkX5_29 (k_X5_put l D ce b I L R hT x0 (41 : Int32) h0 I6 e6) rfl hl.1 rfl (Nat.le_of_ble_eq_true rfl) ⟨rfl, rfl⟩ ⟨Nat.le_of_ble_eq_true rfl, Nat.le_of_ble_eq_true rfl⟩ ⟨Nat.zero_le _, Nat.zero_le _⟩ dX5_writeBehind_21 (fun H locs hP hT hS => ?_)
          exact hJ24_4 I6 H locs ls hP hS  (lv_sub hl [0, 1, 2, 3] rfl) hf
  obtain ⟨I_7, e_7, hf⟩ := bd1_o hf
  refine lp4 FU x0 x1 x2 (x2 - (2 : Int32)) I L R I_7 H locs ls hP hS hT h0 h1 (lv_sub hl [1, 2, 3, 0] rfl) e_7 (fun H locs ls hP hS hl => ?_)
  refine lv_iload_n hx hb dX5_writeBehind_30 rfl (lv_at hl 2 rfl) ?_
  refine lv_iconst (v := (2 : Int32)) hx hb dX5_writeBehind_31 (by decide) ?_
  refine lv_isub hx hb dX5_writeBehind_32 ?_
  refine lv_istore_n (lv' := [(3, .int (x2 - (2 : Int32))), (0, .ref (b + x0)), (1, .ref (b + x1)), (2, .int x2)]) hx hb dX5_writeBehind_33 rfl hl (Nat.le_of_ble_eq_true rfl) rfl (fun ls hl => ?_)
  have lp34 : ∀ (n : Nat) (x0 : Nat) (x1 : Nat) (x2 : Int32) (x3 : Int32) (I : mI) (L : mL) (R : mR) (a1 : mI) (H : Heap) (locs : List Loc) (ls : Array Slot), va_P D vwCl (wd ce b kdC lnC 272 I L R) H → va_S (box b 272) s.heap H locs → WT kdC R → kdC x0 = 11 → kdC x1 = 14 → lv_has ls 4 [(0, .ref (b + x0)), (1, .ref (b + x1)), (2, .int x2), (3, .int x3)] → f_X5_writeBehind_L34 n x0 x1 x2 x3 I R = some a1 → (∀ (H1 : Heap) (locs1 : List Loc) (ls1 : Array Slot), va_P D vwCl (wd ce b kdC lnC 272 a1 L R) H1 → va_S (box b 272) s.heap H1 locs1 → lv_has ls1 4 [] → W p l e rmX5_writeBehind s m av below meth c H1 locs1 0 0 QQ (F0 m 73 ls1 [])) → W p l e rmX5_writeBehind s m av below meth c H locs 0 0 QQ (F0 m 34 ls []) := by
    intro n
    induction n with
    | zero =>
      intro x0 x1 x2 x3 I L R a1 H locs ls hP hS hT h0 h1 hl hf kx
      exact absurd (show (none : Option (mI)) = some _ from hf) (by simp)
    | succ n ih =>
      intro x0 x1 x2 x3 I L R a1 H locs ls hP hS hT h0 h1 hl hf kx
      rw [f_X5_writeBehind_L34] at hf
      refine lv_iload_n hx hb dX5_writeBehind_34 rfl (lv_at hl 3 rfl) ?_
      refine lv_if_lt (tgt := 73) hx hb dX5_writeBehind_35 (by decide) (fun c8 => ?_) (fun c8 => ?_)
      · have hf := ifT hf c8
        cases hf
        exact kx H locs ls hP hS (lv_sub hl [] rfl)
      · have hf := ifF hf c8
        refine lv_aload_n hx hb dX5_writeBehind_38 rfl (lv_at hl 1 rfl) ?_
        have t9 : kdC (R x1 0) = 1 := wt hT h1 rfl
        refine mm_getr hx hb hts hown hKK hP fk8_0 (Nat.le_of_ble_eq_true rfl) lkX5_39 (kdC_lt h1 (Nat.succ_ne_zero _)) h1 (nC t9 (Nat.succ_ne_zero _)) dX5_writeBehind_39 ?_
        refine lv_iload_n hx hb dX5_writeBehind_42 rfl (lv_at hl 3 rfl) ?_
        obtain ⟨g10, hf⟩ := grd hf
        refine mm_iald hx hb hKK hP (kdC_lt t9 (Nat.succ_ne_zero _)) t9 g10 dX5_writeBehind_43 ?_
        refine lv_bipush (v := (103 : Int32)) hx hb dX5_writeBehind_44 (by decide) ?_
        refine jnE hf (fun j67_11 ej_11 hf => ?_)
        have hJ67_11 : ∀ (I_11 : mI) (H : Heap) (locs : List Loc) (ls : Array Slot), va_P D vwCl (wd ce b kdC lnC 272 I_11 L R) H → va_S (box b 272) s.heap H locs → lv_has ls 4 [(0, .ref (b + x0)), (1, .ref (b + x1)), (2, .int x2), (3, .int x3)] → j67_11 I_11 = some a1 → W p l e rmX5_writeBehind s m av below meth c H locs 0 0 QQ (F0 m 67 ls []) := by
          intro I_11 H locs ls hP hS  hl hf
          rw [ej_11] at hf
          try dsimp only at hf
          refine lv_iinc (v := (x3 + (-1 : Int32))) (lv' := [(3, .int (x3 + (-1 : Int32))), (0, .ref (b + x0)), (1, .ref (b + x1)), (2, .int x2)]) hx hb dX5_writeBehind_67 hl (k := 3) rfl rfl (Nat.le_of_ble_eq_true rfl) rfl (fun ls hl => ?_)
          refine lv_goto (tgt := 34) hx hb dX5_writeBehind_70 (by decide) ?_
          exact ih x0 x1 x2 (x3 + (-1 : Int32)) I_11 L R a1 H locs ls hP hS hT h0 h1 (lv_sub hl [1, 2, 3, 0] rfl) hf kx
        clear ej_11
        refine lv_icmp_ne (tgt := 67) hx hb dX5_writeBehind_46 (by decide) (fun c12 => ?_) (fun c12 => ?_)
        · have hf := ifF hf c12
          exact hJ67_11 I H locs ls hP hS  (lv_sub hl [0, 1, 2, 3] rfl) hf
        · have hf := ifT hf c12
          refine lv_aload_n hx hb dX5_writeBehind_49 rfl (lv_at hl 1 rfl) ?_
          have t13 : kdC (R x1 1) = 1 := wt hT h1 rfl
          refine mm_getr hx hb hts hown hKK hP fk8_1 (Nat.le_of_ble_eq_true rfl) lkX5_50 (kdC_lt h1 (Nat.succ_ne_zero _)) h1 (nC t13 (Nat.succ_ne_zero _)) dX5_writeBehind_50 ?_
          refine lv_iload_n hx hb dX5_writeBehind_53 rfl (lv_at hl 3 rfl) ?_
          refine lv_iconst (v := (1 : Int32)) hx hb dX5_writeBehind_54 (by decide) ?_
          refine lv_iadd hx hb dX5_writeBehind_55 ?_
          obtain ⟨g14, hf⟩ := grd hf
          refine mm_iald hx hb hKK hP (kdC_lt t13 (Nat.succ_ne_zero _)) t13 g14 dX5_writeBehind_56 ?_
          refine lv_iload_n hx hb dX5_writeBehind_57 rfl (lv_at hl 2 rfl) ?_
          refine lv_icmp_ne (tgt := 67) hx hb dX5_writeBehind_58 (by decide) (fun c15 => ?_) (fun c15 => ?_)
          · have hf := ifF hf c15
            exact hJ67_11 I H locs ls hP hS  (lv_sub hl [0, 1, 2, 3] rfl) hf
          · have hf := ifT hf c15
            refine lv_aload_n hx hb dX5_writeBehind_61 rfl (lv_at hl 0 rfl) ?_
            refine lv_bipush (v := (44 : Int32)) hx hb dX5_writeBehind_62 (by decide) ?_
            obtain ⟨I16, e16, hf⟩ := bd1_o hf
            refine mm_Vv (rest := []) hx hb hml hown hts hKK hP hS hA (kdC_lt h0 (Nat.succ_ne_zero _)) h0 (show vwCl[5]? = some (yX5_put.cls, TX5, 2) from rfl) vkX5_29 (k_X5_put l D ce b I L R hT x0 (44 : Int32) h0 I16 e16) rfl hl.1 rfl (Nat.le_of_ble_eq_true rfl) ⟨rfl, rfl⟩ ⟨Nat.le_of_ble_eq_true rfl, Nat.le_of_ble_eq_true rfl⟩ ⟨Nat.zero_le _, Nat.zero_le _⟩ dX5_writeBehind_64 (fun H locs hP hT hS => ?_)
            exact hJ67_11 I16 H locs ls hP hS  (lv_sub hl [0, 1, 2, 3] rfl) hf
  obtain ⟨I_17, e_17, hf⟩ := bd1_o hf
  refine lp34 FU x0 x1 x2 (x2 - (2 : Int32)) I_7 L R I_17 H locs ls hP hS hT h0 h1 (lv_sub hl [1, 2, 3, 0] rfl) e_17 (fun H locs ls hP hS hl => ?_)
  exact hret I_17 hf H locs ls _ dX5_writeBehind_73 hP hT hS
