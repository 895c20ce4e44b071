def rmX4_leastByRows : Room := { frames := 2, cells := 0, slots := 0, locals := 51 }
set_option maxHeartbeats 4000000 in
set_option maxRecDepth 100000 in
theorem k_X4_leastByRows (l : Launch) (D : va_G) (ce : Nat → ClassId) (b : Nat) (I : mI) (L : mL) (R : mR) (hT : WT kdC R) (x0 : Nat) (x1 : Int32) (x2 : Int32) (x3 : Int32) (h0 : kdC x0 = 10) (o1 : Int32) (hf : f_X4_leastByRows x0 x1 x2 x3 I R = some o1) : Met l yX4_leastByRows (Cond.code yX4_leastByRows cX4_leastByRows 9 (some .int) :: GW) rmX4_leastByRows (va_Pc [.ref (b + x0), .int x1, .int x2, .int x3] (PW D ce b kdC lnC 272 I L R)) (va_Qi (fun r u => r = o1 ∧ u = (I, L, R)) (QW D ce b kdC lnC 272) (box b 272)) 0 0 (box b 272) := by
  refine Met.ofW (cc := cX4_leastByRows) (maxL := 9) (ret := (some .int)) (by decide) rfl ?_
  intro p e s m args below meth c s₁ B hml hv
  obtain ⟨rfl, hP, hKK⟩ := hv
  have hx := B.exec
  have hb := B.bytes
  have hr := B.returns
  have hts0 := atoms_spec (ws := Cond.code yX4_leastByRows cX4_leastByRows 9 (some .int) :: GW) B.pre
  have hts : ∀ w ∈ GW, w.before _ s = true := fun w h => hts0 w (List.mem_cons_of_mem _ h)
  clear hts0
  have hown : s.vm.findClass RX4 = some m.cls := findClass_of_methodNamed B.named
  have hlocks := B.notSynchronized
  have hA : ∀ q, box b 272 q → box b 272 q := fun _ h => h
  have hS : va_S (box b 272) s.heap s.heap [] := va_S.rf
  have hl := lv_entry ([.ref (b + x0), .int x1, .int x2, .int x3]) (n := 9) (Nat.le_of_ble_eq_true rfl)
  rw [lg_entry_eq]
  generalize (lg_sl ([.ref (b + x0), .int x1, .int x2, .int x3]) ++ List.replicate (9 - (lg_sl ([.ref (b + x0), .int x1, .int x2, .int x3])).length) Slot.unset).toArray = ls at hl ⊢
  have hl : lv_has ls 9 [(0, .ref (b + x0)), (1, .int x1), (2, .int x2), (3, .int x3)] := hl
  generalize ([.ref (b + x0), .int x1, .int x2, .int x3] : List Value).toArray = av at hts ⊢
  show W p l e rmX4_leastByRows s m av below meth c s.heap [] 0 0 _ _
  obtain ⟨QQ, hQQ⟩ : ∃ z, z = MQ below (va_Qi (fun r u => r = o1 ∧ u = (I, L, R)) (QW D ce b kdC lnC 272) (box b 272)) av s 0 0 (box b 272) := ⟨_, rfl⟩
  rw [← hQQ]
  have hret : ∀ (r : Int32), some r = some o1 → ∀ (H1 : Heap) (locs1 : List Loc) (ls1 : Array Slot) (pc1 : Nat), decode cX4_leastByRows pc1 = .ok (.ireturn, 1) → va_P D vwCl (wd ce b kdC lnC 272 I L R) H1 → WT kdC R → va_S (box b 272) s.heap H1 locs1 → W p l e rmX4_leastByRows s m av below meth c H1 locs1 0 0 QQ (F0 m pc1 ls1 [.int r]) := by
    intro r hq H1 locs1 ls1 pc1 hd hP hT hS
    cases hq
    rw [hQQ]
    exact mm_iret hx hb hr hlocks hP hT hS hd
  unfold f_X4_leastByRows at hf
  obtain ⟨H, hH⟩ : ∃ z, z = s.heap := ⟨_, rfl⟩
  obtain ⟨locs, hlo⟩ : ∃ z : List Loc, z = [] := ⟨_, rfl⟩
  have hP : va_P D vwCl (wd ce b kdC lnC 272 I L R) H := by rw [hH]; exact hP
  have hS : va_S (box b 272) s.heap H locs := by rw [hH, hlo]; exact hS
  rw [show W p l e rmX4_leastByRows s m av below meth c s.heap [] 0 0 QQ = W p l e rmX4_leastByRows s m av below meth c H locs 0 0 QQ by rw [hH, hlo]]
  clear hH hlo
  clear hQQ
  show W p l e rmX4_leastByRows s m av below meth c H locs 0 0 QQ (F0 m 0 ls [])
  refine lv_iconst (v := (0 : Int32)) hx hb dX4_leastByRows_0 (by decide) ?_
  refine lv_istore (lv' := [(4, .int (0 : Int32)), (0, .ref (b + x0)), (1, .int x1), (2, .int x2), (3, .int x3)]) hx hb dX4_leastByRows_1 hl (Nat.le_of_ble_eq_true rfl) rfl (fun ls hl => ?_)
  have lp3 : ∀ (n : Nat) (x0 : Nat) (x1 : Int32) (x2 : Int32) (x3 : Int32) (x4 : Int32) (I : mI) (L : mL) (R : mR) (q : (Int32) ⊕ (Unit)) (H : Heap) (locs : List Loc) (ls : Array Slot), va_P D vwCl (wd ce b kdC lnC 272 I L R) H → va_S (box b 272) s.heap H locs → WT kdC R → kdC x0 = 10 → lv_has ls 9 [(0, .ref (b + x0)), (1, .int x1), (2, .int x2), (3, .int x3), (4, .int x4)] → f_X4_leastByRows_L3 n x0 x1 x2 x3 x4 I R = some q → (∀ (_ : Unit), some (Sum.inr ()) = some q → ∀ (H1 : Heap) (locs1 : List Loc) (ls1 : Array Slot), va_P D vwCl (wd ce b kdC lnC 272 I L R) H1 → va_S (box b 272) s.heap H1 locs1 → lv_has ls1 9 [(3, .int x3)] → W p l e rmX4_leastByRows s m av below meth c H1 locs1 0 0 QQ (F0 m 120 ls1 [])) → (∀ (r : Int32), some (Sum.inl r) = some q → ∀ (H1 : Heap) (locs1 : List Loc) (ls1 : Array Slot) (pc1 : Nat), decode cX4_leastByRows pc1 = .ok (.ireturn, 1) → va_P D vwCl (wd ce b kdC lnC 272 I L R) H1 → WT kdC R → va_S (box b 272) s.heap H1 locs1 → W p l e rmX4_leastByRows s m av below meth c H1 locs1 0 0 QQ (F0 m pc1 ls1 [.int r])) → W p l e rmX4_leastByRows s m av below meth c H locs 0 0 QQ (F0 m 3 ls []) := by
    intro n
    induction n with
    | zero =>
      intro x0 x1 x2 x3 x4 I L R q H locs ls hP hS hT h0 hl hf kx kr
      exact absurd (show (none : Option ((Int32) ⊕ (Unit))) = some _ from hf) (by simp)
    | succ n ih =>
      intro x0 x1 x2 x3 x4 I L R q H locs ls hP hS hT h0 hl hf kx kr
      rw [f_X4_leastByRows_L3] at hf
      refine lv_iload hx hb dX4_leastByRows_3 (lv_at hl 4 rfl) ?_
      refine lv_iload_n hx hb dX4_leastByRows_5 rfl (lv_at hl 2 rfl) ?_
      refine lv_icmp_gt (tgt := 120) hx hb dX4_leastByRows_6 (by decide) (fun c1 => ?_) (fun c1 => ?_)
      · have hf := ifT hf c1
        exact kx () hf H locs ls hP hS (lv_sub hl [3] rfl)
      · have hf := ifF hf c1
        refine lv_iconst (v := (0 : Int32)) hx hb dX4_leastByRows_9 (by decide) ?_
        refine lv_istore (lv' := [(5, .int (0 : Int32)), (0, .ref (b + x0)), (1, .int x1), (2, .int x2), (3, .int x3), (4, .int x4)]) hx hb dX4_leastByRows_10 hl (Nat.le_of_ble_eq_true rfl) rfl (fun ls hl => ?_)
        have lp12 : ∀ (n : Nat) (x0 : Nat) (x1 : Int32) (x2 : Int32) (x3 : Int32) (x4 : Int32) (x5 : Int32) (I : mI) (L : mL) (R : mR) (q : (Int32) ⊕ (Unit)) (H : Heap) (locs : List Loc) (ls : Array Slot), va_P D vwCl (wd ce b kdC lnC 272 I L R) H → va_S (box b 272) s.heap H locs → WT kdC R → kdC x0 = 10 → lv_has ls 9 [(0, .ref (b + x0)), (1, .int x1), (2, .int x2), (3, .int x3), (4, .int x4), (5, .int x5)] → f_X4_leastByRows_L12 n x0 x1 x2 x3 x4 x5 I R = some q → (∀ (_ : Unit), some (Sum.inr ()) = some q → ∀ (H1 : Heap) (locs1 : List Loc) (ls1 : Array Slot), va_P D vwCl (wd ce b kdC lnC 272 I L R) H1 → va_S (box b 272) s.heap H1 locs1 → lv_has ls1 9 [(0, .ref (b + x0)), (1, .int x1), (2, .int x2), (3, .int x3), (4, .int x4)] → W p l e rmX4_leastByRows s m av below meth c H1 locs1 0 0 QQ (F0 m 114 ls1 [])) → (∀ (r : Int32), some (Sum.inl r) = some q → ∀ (H1 : Heap) (locs1 : List Loc) (ls1 : Array Slot) (pc1 : Nat), decode cX4_leastByRows pc1 = .ok (.ireturn, 1) → va_P D vwCl (wd ce b kdC lnC 272 I L R) H1 → WT kdC R → va_S (box b 272) s.heap H1 locs1 → W p l e rmX4_leastByRows s m av below meth c H1 locs1 0 0 QQ (F0 m pc1 ls1 [.int r])) → W p l e rmX4_leastByRows s m av below meth c H locs 0 0 QQ (F0 m 12 ls []) := by
          intro n
          induction n with
          | zero =>
            intro x0 x1 x2 x3 x4 x5 I L R q H locs ls hP hS hT h0 hl hf kx kr
            exact absurd (show (none : Option ((Int32) ⊕ (Unit))) = some _ from hf) (by simp)
          | succ n ih =>
            intro x0 x1 x2 x3 x4 x5 I L R q H locs ls hP hS hT h0 hl hf kx kr
            rw [f_X4_leastByRows_L12] at hf
            refine lv_iload hx hb dX4_leastByRows_12 (lv_at hl 5 rfl) ?_
            refine lv_iload_n hx hb dX4_leastByRows_14 rfl (lv_at hl 2 rfl) ?_
            refine lv_icmp_gt (tgt := 114) hx hb dX4_leastByRows_15 (by decide) (fun c2 => ?_) (fun c2 => ?_)
            · have hf := ifT hf c2
              exact kx () hf H locs ls hP hS (lv_sub hl [0, 1, 2, 3, 4] rfl)
            · have hf := ifF hf c2
              refine lv_iconst (v := (0 : Int32)) hx hb dX4_leastByRows_18 (by decide) ?_
              refine lv_istore (lv' := [(6, .int (0 : Int32)), (0, .ref (b + x0)), (1, .int x1), (2, .int x2), (3, .int x3), (4, .int x4), (5, .int x5)]) hx hb dX4_leastByRows_19 hl (Nat.le_of_ble_eq_true rfl) rfl (fun ls hl => ?_)
              have lp21 : ∀ (n : Nat) (x0 : Nat) (x1 : Int32) (x2 : Int32) (x3 : Int32) (x4 : Int32) (x5 : Int32) (x6 : Int32) (I : mI) (L : mL) (R : mR) (q : (Int32) ⊕ (Unit)) (H : Heap) (locs : List Loc) (ls : Array Slot), va_P D vwCl (wd ce b kdC lnC 272 I L R) H → va_S (box b 272) s.heap H locs → WT kdC R → kdC x0 = 10 → lv_has ls 9 [(0, .ref (b + x0)), (1, .int x1), (2, .int x2), (3, .int x3), (4, .int x4), (5, .int x5), (6, .int x6)] → f_X4_leastByRows_L21 n x0 x1 x2 x3 x4 x5 x6 I R = some q → (∀ (_ : Unit), some (Sum.inr ()) = some q → ∀ (H1 : Heap) (locs1 : List Loc) (ls1 : Array Slot), va_P D vwCl (wd ce b kdC lnC 272 I L R) H1 → va_S (box b 272) s.heap H1 locs1 → lv_has ls1 9 [(0, .ref (b + x0)), (1, .int x1), (2, .int x2), (3, .int x3), (4, .int x4), (5, .int x5)] → W p l e rmX4_leastByRows s m av below meth c H1 locs1 0 0 QQ (F0 m 108 ls1 [])) → (∀ (r : Int32), some (Sum.inl r) = some q → ∀ (H1 : Heap) (locs1 : List Loc) (ls1 : Array Slot) (pc1 : Nat), decode cX4_leastByRows pc1 = .ok (.ireturn, 1) → va_P D vwCl (wd ce b kdC lnC 272 I L R) H1 → WT kdC R → va_S (box b 272) s.heap H1 locs1 → W p l e rmX4_leastByRows s m av below meth c H1 locs1 0 0 QQ (F0 m pc1 ls1 [.int r])) → W p l e rmX4_leastByRows s m av below meth c H locs 0 0 QQ (F0 m 21 ls []) := by
                intro n
                induction n with
                | zero =>
                  intro x0 x1 x2 x3 x4 x5 x6 I L R q H locs ls hP hS hT h0 hl hf kx kr
                  exact absurd (show (none : Option ((Int32) ⊕ (Unit))) = some _ from hf) (by simp)
                | succ n ih =>
                  intro x0 x1 x2 x3 x4 x5 x6 I L R q H locs ls hP hS hT h0 hl hf kx kr
                  rw [f_X4_leastByRows_L21] at hf
                  refine lv_iload hx hb dX4_leastByRows_21 (lv_at hl 6 rfl) ?_
                  refine lv_iload_n hx hb dX4_leastByRows_23 rfl (lv_at hl 2 rfl) ?_
                  refine lv_icmp_gt (tgt := 108) hx hb dX4_leastByRows_24 (by decide) (fun c3 => ?_) (fun c3 => ?_)
                  · have hf := ifT hf c3
                    exact kx () hf H locs ls hP hS (lv_sub hl [0, 1, 2, 3, 4, 5] rfl)
                  · have hf := ifF hf c3
                    refine lv_iconst (v := (0 : Int32)) hx hb dX4_leastByRows_27 (by decide) ?_
                    refine lv_istore (lv' := [(7, .int (0 : Int32)), (0, .ref (b + x0)), (1, .int x1), (2, .int x2), (3, .int x3), (4, .int x4), (5, .int x5), (6, .int x6)]) hx hb dX4_leastByRows_28 hl (Nat.le_of_ble_eq_true rfl) rfl (fun ls hl => ?_)
                    have lp30 : ∀ (n : Nat) (x0 : Nat) (x1 : Int32) (x2 : Int32) (x3 : Int32) (x4 : Int32) (x5 : Int32) (x6 : Int32) (x7 : Int32) (I : mI) (L : mL) (R : mR) (q : (Int32) ⊕ (Unit)) (H : Heap) (locs : List Loc) (ls : Array Slot), va_P D vwCl (wd ce b kdC lnC 272 I L R) H → va_S (box b 272) s.heap H locs → WT kdC R → kdC x0 = 10 → lv_has ls 9 [(0, .ref (b + x0)), (1, .int x1), (2, .int x2), (3, .int x3), (4, .int x4), (5, .int x5), (6, .int x6), (7, .int x7)] → f_X4_leastByRows_L30 n x0 x1 x2 x3 x4 x5 x6 x7 I R = some q → (∀ (_ : Unit), some (Sum.inr ()) = some q → ∀ (H1 : Heap) (locs1 : List Loc) (ls1 : Array Slot), va_P D vwCl (wd ce b kdC lnC 272 I L R) H1 → va_S (box b 272) s.heap H1 locs1 → lv_has ls1 9 [(0, .ref (b + x0)), (1, .int x1), (2, .int x2), (3, .int x3), (4, .int x4), (5, .int x5), (6, .int x6)] → W p l e rmX4_leastByRows s m av below meth c H1 locs1 0 0 QQ (F0 m 102 ls1 [])) → (∀ (r : Int32), some (Sum.inl r) = some q → ∀ (H1 : Heap) (locs1 : List Loc) (ls1 : Array Slot) (pc1 : Nat), decode cX4_leastByRows pc1 = .ok (.ireturn, 1) → va_P D vwCl (wd ce b kdC lnC 272 I L R) H1 → WT kdC R → va_S (box b 272) s.heap H1 locs1 → W p l e rmX4_leastByRows s m av below meth c H1 locs1 0 0 QQ (F0 m pc1 ls1 [.int r])) → W p l e rmX4_leastByRows s m av below meth c H locs 0 0 QQ (F0 m 30 ls []) := by
                      intro n
                      induction n with
                      | zero =>
                        intro x0 x1 x2 x3 x4 x5 x6 x7 I L R q H locs ls hP hS hT h0 hl hf kx kr
                        exact absurd (show (none : Option ((Int32) ⊕ (Unit))) = some _ from hf) (by simp)
                      | succ n ih =>
                        intro x0 x1 x2 x3 x4 x5 x6 x7 I L R q H locs ls hP hS hT h0 hl hf kx kr
                        rw [f_X4_leastByRows_L30] at hf
                        refine lv_iload hx hb dX4_leastByRows_30 (lv_at hl 7 rfl) ?_
                        refine lv_iload_n hx hb dX4_leastByRows_32 rfl (lv_at hl 2 rfl) ?_
                        refine lv_icmp_gt (tgt := 102) hx hb dX4_leastByRows_33 (by decide) (fun c4 => ?_) (fun c4 => ?_)
                        · have hf := ifT hf c4
                          exact kx () hf H locs ls hP hS (lv_sub hl [0, 1, 2, 3, 4, 5, 6] rfl)
                        · have hf := ifF hf c4
                          refine lv_sipush (v := (1000 : Int32)) hx hb dX4_leastByRows_36 (by decide) ?_
                          refine lv_sipush (v := (1000 : Int32)) hx hb dX4_leastByRows_39 (by decide) ?_
                          refine lv_iload hx hb dX4_leastByRows_42 (lv_at hl 4 rfl) ?_
                          refine lv_imul hx hb dX4_leastByRows_44 ?_
                          refine lv_bipush (v := (100 : Int32)) hx hb dX4_leastByRows_45 (by decide) ?_
                          refine lv_iload hx hb dX4_leastByRows_47 (lv_at hl 5 rfl) ?_
                          refine lv_imul hx hb dX4_leastByRows_49 ?_
                          refine lv_iadd hx hb dX4_leastByRows_50 ?_
                          refine lv_bipush (v := (10 : Int32)) hx hb dX4_leastByRows_51 (by decide) ?_
                          refine lv_iload hx hb dX4_leastByRows_53 (lv_at hl 6 rfl) ?_
                          refine lv_imul hx hb dX4_leastByRows_55 ?_
                          refine lv_iadd hx hb dX4_leastByRows_56 ?_
                          refine lv_iload hx hb dX4_leastByRows_57 (lv_at hl 7 rfl) ?_
                          refine lv_iadd hx hb dX4_leastByRows_59 ?_
                          refine lv_imul hx hb dX4_leastByRows_60 ?_
                          refine lv_iload_n hx hb dX4_leastByRows_61 rfl (lv_at hl 1 rfl) ?_
                          refine lv_iadd hx hb dX4_leastByRows_62 ?_
                          refine lv_istore (lv' := [(8, .int (((1000 : Int32) * (((((1000 : Int32) * x4) + ((100 : Int32) * x5)) + ((10 : Int32) * x6)) + x7)) + x1)), (0, .ref (b + x0)), (1, .int x1), (2, .int x2), (3, .int x3), (4, .int x4), (5, .int x5), (6, .int x6), (7, .int x7)]) hx hb dX4_leastByRows_63 hl (Nat.le_of_ble_eq_true rfl) rfl (fun ls hl => ?_)
                          refine lv_iload_n hx hb dX4_leastByRows_65 rfl (lv_at hl 4 rfl) ?_
                          refine lv_iconst (v := (-1 : Int32)) hx hb dX4_leastByRows_66 (by decide) ?_
                          refine jnE hf (fun j78_5 ej_5 hf => ?_)
                          have hJ78_5 : ∀ (H : Heap) (locs : List Loc) (ls : Array Slot), va_P D vwCl (wd ce b kdC lnC 272 I L R) H → va_S (box b 272) s.heap H locs → lv_has ls 9 [(0, .ref (b + x0)), (1, .int x1), (2, .int x2), (3, .int x3), (4, .int x4), (5, .int x5), (6, .int x6), (7, .int x7), (8, .int (((1000 : Int32) * (((((1000 : Int32) * x4) + ((100 : Int32) * x5)) + ((10 : Int32) * x6)) + x7)) + x1))] → j78_5  = some q → W p l e rmX4_leastByRows s m av below meth c H locs 0 0 QQ (F0 m 78 ls []) := by
                            intro  H locs ls hP hS  hl hf
                            rw [ej_5] at hf
                            try dsimp only at hf
                            refine lv_aload_n hx hb dX4_leastByRows_78 rfl (lv_at hl 0 rfl) ?_
                            refine lv_iload hx hb dX4_leastByRows_79 (lv_at hl 4 rfl) ?_
                            refine lv_iload hx hb dX4_leastByRows_81 (lv_at hl 5 rfl) ?_
                            refine lv_iload hx hb dX4_leastByRows_83 (lv_at hl 6 rfl) ?_
                            refine lv_iload hx hb dX4_leastByRows_85 (lv_at hl 7 rfl) ?_
                            obtain ⟨r6, e6, hf⟩ := bd1_o hf
                            refine mm_Vi (rest := []) hx hb hml hown hts hKK hP hS hA (kdC_lt h0 (Nat.succ_ne_zero _)) h0 (show vwCl[4]? = some (yX4_meetsRows.cls, TX4, 5) from rfl) vkX4_109 (k_X4_meetsRows l D ce b I L R hT x0 x4 x5 x6 x7 h0 r6 e6) rfl hl.1 rfl (Nat.le_of_ble_eq_true rfl) ⟨rfl, rfl⟩ ⟨Nat.le_of_ble_eq_true rfl, Nat.le_of_ble_eq_true rfl⟩ ⟨Nat.zero_le _, Nat.zero_le _⟩ dX4_leastByRows_87 (fun H locs hP hT hS => ?_)
                            refine lv_if_eq (tgt := 96) hx hb dX4_leastByRows_90 (by decide) (fun c7 => ?_) (fun c7 => ?_)
                            · have hf := ifT hf c7
                              refine lv_iinc (v := (x7 + (1 : Int32))) (lv' := [(7, .int (x7 + (1 : Int32))), (0, .ref (b + x0)), (1, .int x1), (2, .int x2), (3, .int x3), (4, .int x4), (5, .int x5), (6, .int x6), (8, .int (((1000 : Int32) * (((((1000 : Int32) * x4) + ((100 : Int32) * x5)) + ((10 : Int32) * x6)) + x7)) + x1))]) hx hb dX4_leastByRows_96 hl (k := 7) rfl rfl (Nat.le_of_ble_eq_true rfl) rfl (fun ls hl => ?_)
                              refine lv_goto (tgt := 30) hx hb dX4_leastByRows_99 (by decide) ?_
                              exact ih x0 x1 x2 x3 x4 x5 x6 (x7 + (1 : Int32)) I L R q H locs ls hP hS hT h0 (lv_sub hl [1, 2, 3, 4, 5, 6, 7, 0] rfl) hf kx kr
                            · have hf := ifF hf c7
                              refine lv_iload hx hb dX4_leastByRows_93 (lv_at hl 8 rfl) ?_
                              exact kr (((1000 : Int32) * (((((1000 : Int32) * x4) + ((100 : Int32) * x5)) + ((10 : Int32) * x6)) + x7)) + x1) hf H locs ls _ dX4_leastByRows_95 hP hT hS
                          clear ej_5
                          refine lv_icmp_eq (tgt := 78) hx hb dX4_leastByRows_67 (by decide) (fun c8 => ?_) (fun c8 => ?_)
                          · have hf := ifT hf c8
                            exact hJ78_5  H locs ls hP hS  (lv_sub hl [1, 2, 3, 4, 5, 6, 7, 8, 0] rfl) hf
                          · have hf := ifF hf c8
                            refine lv_iload hx hb dX4_leastByRows_70 (lv_at hl 0 rfl) ?_
                            refine lv_iload_n hx hb dX4_leastByRows_72 rfl (lv_at hl 4 rfl) ?_
                            refine lv_icmp_le (tgt := 78) hx hb dX4_leastByRows_73 (by decide) (fun c9 => ?_) (fun c9 => ?_)
                            · have hf := ifT hf c9
                              exact hJ78_5  H locs ls hP hS  (lv_sub hl [1, 2, 3, 4, 5, 6, 7, 8, 0] rfl) hf
                            · have hf := ifF hf c9
                              refine lv_iload_n hx hb dX4_leastByRows_76 rfl (lv_at hl 4 rfl) ?_
                              exact kr x3 hf H locs ls _ dX4_leastByRows_77 hP hT hS
                    obtain ⟨q_10, e_10, hf⟩ := bdS_o hf
                    refine lp30 FU x0 x1 x2 x3 x4 x5 x6 (0 : Int32) I L R q_10 H locs ls hP hS hT h0 (lv_sub hl [1, 2, 3, 4, 5, 6, 7, 0] rfl) e_10 (fun _ hq H locs ls hP hS hl => ?_) (fun r_10 hq H locs ls pc1 hd hP hT hS => ?_)
                    · have hf := elR0 hf (Option.some.inj hq).symm
                      refine lv_iinc (v := (x6 + (1 : Int32))) (lv' := [(6, .int (x6 + (1 : Int32))), (0, .ref (b + x0)), (1, .int x1), (2, .int x2), (3, .int x3), (4, .int x4), (5, .int x5)]) hx hb dX4_leastByRows_102 hl (k := 6) rfl rfl (Nat.le_of_ble_eq_true rfl) rfl (fun ls hl => ?_)
                      refine lv_goto (tgt := 21) hx hb dX4_leastByRows_105 (by decide) ?_
                      exact ih x0 x1 x2 x3 x4 x5 (x6 + (1 : Int32)) I L R q H locs ls hP hS hT h0 (lv_sub hl [1, 2, 3, 4, 5, 6, 0] rfl) hf kx kr
                    · have hf := elL1 hf (Option.some.inj hq).symm
                      exact kr r_10 hf H locs ls pc1 hd hP hT hS
              obtain ⟨q_11, e_11, hf⟩ := bdS_o hf
              refine lp21 FU x0 x1 x2 x3 x4 x5 (0 : Int32) I L R q_11 H locs ls hP hS hT h0 (lv_sub hl [1, 2, 3, 4, 5, 6, 0] rfl) e_11 (fun _ hq H locs ls hP hS hl => ?_) (fun r_11 hq H locs ls pc1 hd hP hT hS => ?_)
              · have hf := elR0 hf (Option.some.inj hq).symm
                refine lv_iinc (v := (x5 + (1 : Int32))) (lv' := [(5, .int (x5 + (1 : Int32))), (0, .ref (b + x0)), (1, .int x1), (2, .int x2), (3, .int x3), (4, .int x4)]) hx hb dX4_leastByRows_108 hl (k := 5) rfl rfl (Nat.le_of_ble_eq_true rfl) rfl (fun ls hl => ?_)
                refine lv_goto (tgt := 12) hx hb dX4_leastByRows_111 (by decide) ?_
                exact ih x0 x1 x2 x3 x4 (x5 + (1 : Int32)) I L R q H locs ls hP hS hT h0 (lv_sub hl [1, 2, 3, 4, 5, 0] rfl) hf kx kr
              · have hf := elL1 hf (Option.some.inj hq).symm
                exact kr r_11 hf H locs ls pc1 hd hP hT hS
        obtain ⟨q_12, e_12, hf⟩ := bdS_o hf
        refine lp12 FU x0 x1 x2 x3 x4 (0 : Int32) I L R q_12 H locs ls hP hS hT h0 (lv_sub hl [1, 2, 3, 4, 5, 0] rfl) e_12 (fun _ hq H locs ls hP hS hl => ?_) (fun r_12 hq H locs ls pc1 hd hP hT hS => ?_)
        · have hf := elR0 hf (Option.some.inj hq).symm
          refine lv_iinc (v := (x4 + (1 : Int32))) (lv' := [(4, .int (x4 + (1 : Int32))), (0, .ref (b + x0)), (1, .int x1), (2, .int x2), (3, .int x3)]) hx hb dX4_leastByRows_114 hl (k := 4) rfl rfl (Nat.le_of_ble_eq_true rfl) rfl (fun ls hl => ?_)
          refine lv_goto (tgt := 3) hx hb dX4_leastByRows_117 (by decide) ?_
          exact ih x0 x1 x2 x3 (x4 + (1 : Int32)) I L R q H locs ls hP hS hT h0 (lv_sub hl [1, 2, 3, 4, 0] rfl) hf kx kr
        · have hf := elL1 hf (Option.some.inj hq).symm
          exact kr r_12 hf H locs ls pc1 hd hP hT hS
  obtain ⟨q_13, e_13, hf⟩ := bdS_o hf
  refine lp3 FU x0 x1 x2 x3 (0 : Int32) I L R q_13 H locs ls hP hS hT h0 (lv_sub hl [1, 2, 3, 4, 0] rfl) e_13 (fun _ hq H locs ls hP hS hl => ?_) (fun r_13 hq H locs ls pc1 hd hP hT hS => ?_)
  · have hf := elR0 hf (Option.some.inj hq).symm
    refine lv_iload_n hx hb dX4_leastByRows_120 rfl (lv_at hl 0 rfl) ?_
    exact hret x3 hf H locs ls _ dX4_leastByRows_121 hP hT hS
  · have hf := elL1 hf (Option.some.inj hq).symm
    exact hret r_13 hf H locs ls pc1 hd hP hT hS
def rmX4_leastWeights : Room := { frames := 3, cells := 0, slots := 0, locals := 79 }
set_option maxHeartbeats 4000000 in
set_option maxRecDepth 100000 in
theorem k_X4_leastWeights (l : Launch) (D : va_G) (ce : Nat → ClassId) (b : Nat) (I : mI) (L : mL) (R : mR) (hT : WT kdC R) (x0 : Nat) (x1 : Nat) (x2 : Nat) (x3 : Int32) (h0 : kdC x0 = 10) (h1 : kdC x1 = 13) (h2 : kdC x2 = 6) (o1 : Int32) (o2 : mI) (hf : f_X4_leastWeights x0 x1 x2 x3 I R = some (o1, o2)) : Met l yX4_leastWeights (Cond.code yX4_leastWeights cX4_leastWeights 10 (some .int) :: GW) rmX4_leastWeights (va_Pc [.ref (b + x0), .ref (b + x1), .ref (b + x2), .int x3] (PW D ce b kdC lnC 272 I L R)) (va_Qi (fun r u => r = o1 ∧ u = (o2, L, R)) (QW D ce b kdC lnC 272) (box b 272)) 0 0 (box b 272) := by
  refine Met.ofW (cc := cX4_leastWeights) (maxL := 10) (ret := (some .int)) (by decide) rfl ?_
  intro p e s m args below meth c s₁ B hml hv
  obtain ⟨rfl, hP, hKK⟩ := hv
  have hx := B.exec
  have hb := B.bytes
  have hr := B.returns
  have hts0 := atoms_spec (ws := Cond.code yX4_leastWeights cX4_leastWeights 10 (some .int) :: GW) B.pre
  have hts : ∀ w ∈ GW, w.before _ s = true := fun w h => hts0 w (List.mem_cons_of_mem _ h)
  clear hts0
  have hown : s.vm.findClass RX4 = some m.cls := findClass_of_methodNamed B.named
  have hlocks := B.notSynchronized
  have hA : ∀ q, box b 272 q → box b 272 q := fun _ h => h
  have hS : va_S (box b 272) s.heap s.heap [] := va_S.rf
  have hl := lv_entry ([.ref (b + x0), .ref (b + x1), .ref (b + x2), .int x3]) (n := 10) (Nat.le_of_ble_eq_true rfl)
  rw [lg_entry_eq]
  generalize (lg_sl ([.ref (b + x0), .ref (b + x1), .ref (b + x2), .int x3]) ++ List.replicate (10 - (lg_sl ([.ref (b + x0), .ref (b + x1), .ref (b + x2), .int x3])).length) Slot.unset).toArray = ls at hl ⊢
  have hl : lv_has ls 10 [(0, .ref (b + x0)), (1, .ref (b + x1)), (2, .ref (b + x2)), (3, .int x3)] := hl
  generalize ([.ref (b + x0), .ref (b + x1), .ref (b + x2), .int x3] : List Value).toArray = av at hts ⊢
  show W p l e rmX4_leastWeights s m av below meth c s.heap [] 0 0 _ _
  obtain ⟨QQ, hQQ⟩ : ∃ z, z = MQ below (va_Qi (fun r u => r = o1 ∧ u = (o2, L, R)) (QW D ce b kdC lnC 272) (box b 272)) av s 0 0 (box b 272) := ⟨_, rfl⟩
  rw [← hQQ]
  have hret : ∀ (r : Int32) (I1 : mI), some (r, I1) = some (o1, o2) → ∀ (H1 : Heap) (locs1 : List Loc) (ls1 : Array Slot) (pc1 : Nat), decode cX4_leastWeights pc1 = .ok (.ireturn, 1) → va_P D vwCl (wd ce b kdC lnC 272 I1 L R) H1 → WT kdC R → va_S (box b 272) s.heap H1 locs1 → W p l e rmX4_leastWeights s m av below meth c H1 locs1 0 0 QQ (F0 m pc1 ls1 [.int r]) := by
    intro r I1 hq H1 locs1 ls1 pc1 hd hP hT hS
    cases hq
    rw [hQQ]
    exact mm_iret hx hb hr hlocks hP hT hS hd
  unfold f_X4_leastWeights at hf
  obtain ⟨H, hH⟩ : ∃ z, z = s.heap := ⟨_, rfl⟩
  obtain ⟨locs, hlo⟩ : ∃ z : List Loc, z = [] := ⟨_, rfl⟩
  have hP : va_P D vwCl (wd ce b kdC lnC 272 I L R) H := by rw [hH]; exact hP
  have hS : va_S (box b 272) s.heap H locs := by rw [hH, hlo]; exact hS
  rw [show W p l e rmX4_leastWeights s m av below meth c s.heap [] 0 0 QQ = W p l e rmX4_leastWeights s m av below meth c H locs 0 0 QQ by rw [hH, hlo]]
  clear hH hlo
  clear hQQ
  show W p l e rmX4_leastWeights s m av below meth c H locs 0 0 QQ (F0 m 0 ls [])
  refine lv_iload_n hx hb dX4_leastWeights_0 rfl (lv_at hl 3 rfl) ?_
  refine lv_iconst (v := (-1 : Int32)) hx hb dX4_leastWeights_1 (by decide) ?_
  refine jnE hf (fun j10_1 ej_1 hf => ?_)
  have hJ10_1 : ∀ (w0_1 : Int32) (H : Heap) (locs : List Loc) (ls : Array Slot), va_P D vwCl (wd ce b kdC lnC 272 I L R) H → va_S (box b 272) s.heap H locs → lv_has ls 10 [(0, .ref (b + x0)), (1, .ref (b + x1)), (2, .ref (b + x2)), (3, .int x3)] → j10_1 w0_1 = some (o1, o2) → W p l e rmX4_leastWeights s m av below meth c H locs 0 0 QQ (F0 m 10 ls [.int w0_1]) := by
    intro w0_1 H locs ls hP hS  hl hf
    rw [ej_1] at hf
    try dsimp only at hf
    refine lv_istore (lv' := [(4, .int w0_1), (0, .ref (b + x0)), (1, .ref (b + x1)), (2, .ref (b + x2)), (3, .int x3)]) hx hb dX4_leastWeights_10 hl (Nat.le_of_ble_eq_true rfl) rfl (fun ls hl => ?_)
    refine lv_iload_n hx hb dX4_leastWeights_12 rfl (lv_at hl 4 rfl) ?_
    refine lv_iconst (v := (-1 : Int32)) hx hb dX4_leastWeights_13 (by decide) ?_
    refine jnE hf (fun j22_2 ej_2 hf => ?_)
    have hJ22_2 : ∀ (w0_2 : Int32) (H : Heap) (locs : List Loc) (ls : Array Slot), va_P D vwCl (wd ce b kdC lnC 272 I L R) H → va_S (box b 272) s.heap H locs → lv_has ls 10 [(0, .ref (b + x0)), (1, .ref (b + x1)), (2, .ref (b + x2)), (3, .int x3), (4, .int w0_1)] → j22_2 w0_2 = some (o1, o2) → W p l e rmX4_leastWeights s m av below meth c H locs 0 0 QQ (F0 m 22 ls [.int w0_2]) := by
      intro w0_2 H locs ls hP hS  hl hf
      rw [ej_2] at hf
      try dsimp only at hf
      refine lv_istore (lv' := [(5, .int w0_2), (0, .ref (b + x0)), (1, .ref (b + x1)), (2, .ref (b + x2)), (3, .int x3), (4, .int w0_1)]) hx hb dX4_leastWeights_22 hl (Nat.le_of_ble_eq_true rfl) rfl (fun ls hl => ?_)
      refine lv_iconst (v := (-1 : Int32)) hx hb dX4_leastWeights_24 (by decide) ?_
      refine lv_istore (lv' := [(6, .int (-1 : Int32)), (5, .int w0_2), (0, .ref (b + x0)), (1, .ref (b + x1)), (2, .ref (b + x2)), (3, .int x3), (4, .int w0_1)]) hx hb dX4_leastWeights_25 hl (Nat.le_of_ble_eq_true rfl) rfl (fun ls hl => ?_)
      refine lv_iload hx hb dX4_leastWeights_27 (lv_at hl 6 rfl) ?_
      refine lv_istore (lv' := [(7, .int w0_1), (6, .int (-1 : Int32)), (5, .int w0_2), (0, .ref (b + x0)), (1, .ref (b + x1)), (2, .ref (b + x2)), (3, .int x3), (4, .int w0_1)]) hx hb dX4_leastWeights_29 hl (Nat.le_of_ble_eq_true rfl) rfl (fun ls hl => ?_)
      have lp31 : ∀ (n : Nat) (x0 : Nat) (x1 : Nat) (x2 : Nat) (x3 : Int32) (x4 : Int32) (x5 : Int32) (x6 : Int32) (x7 : Int32) (I : mI) (L : mL) (R : mR) (a1 : Int32) (a2 : mI) (H : Heap) (locs : List Loc) (ls : Array Slot), va_P D vwCl (wd ce b kdC lnC 272 I L R) H → va_S (box b 272) s.heap H locs → WT kdC R → kdC x0 = 10 → kdC x1 = 13 → kdC x2 = 6 → lv_has ls 10 [(0, .ref (b + x0)), (1, .ref (b + x1)), (2, .ref (b + x2)), (3, .int x3), (4, .int x4), (5, .int x5), (6, .int x6), (7, .int x7)] → f_X4_leastWeights_L31 n x0 x1 x2 x3 x4 x5 x6 x7 I R = some (a1, a2) → (∀ (H1 : Heap) (locs1 : List Loc) (ls1 : Array Slot), va_P D vwCl (wd ce b kdC lnC 272 a2 L R) H1 → va_S (box b 272) s.heap H1 locs1 → lv_has ls1 10 [(6, .int a1)] → W p l e rmX4_leastWeights s m av below meth c H1 locs1 0 0 QQ (F0 m 124 ls1 [])) → W p l e rmX4_leastWeights s m av below meth c H locs 0 0 QQ (F0 m 31 ls []) := by
        intro n
        induction n with
        | zero =>
          intro x0 x1 x2 x3 x4 x5 x6 x7 I L R a1 a2 H locs ls hP hS hT h0 h1 h2 hl hf kx
          exact absurd (show (none : Option (Int32 × mI)) = some _ from hf) (by simp)
        | succ n ih =>
          intro x0 x1 x2 x3 x4 x5 x6 x7 I L R a1 a2 H locs ls hP hS hT h0 h1 h2 hl hf kx
          rw [f_X4_leastWeights_L31] at hf
          refine lv_iload hx hb dX4_leastWeights_31 (lv_at hl 7 rfl) ?_
          refine lv_iload hx hb dX4_leastWeights_33 (lv_at hl 4 rfl) ?_
          refine lv_iconst (v := (2 : Int32)) hx hb dX4_leastWeights_35 (by decide) ?_
          refine lv_iadd hx hb dX4_leastWeights_36 ?_
          refine lv_icmp_gt (tgt := 124) hx hb dX4_leastWeights_37 (by decide) (fun c3 => ?_) (fun c3 => ?_)
          · have hf := ifT hf c3
            cases hf
            exact kx H locs ls hP hS (lv_sub hl [6] rfl)
          · have hf := ifF hf c3
            refine lv_iload hx hb dX4_leastWeights_40 (lv_at hl 4 rfl) ?_
            refine lv_istore (lv' := [(8, .int x4), (0, .ref (b + x0)), (1, .ref (b + x1)), (2, .ref (b + x2)), (3, .int x3), (4, .int x4), (5, .int x5), (6, .int x6), (7, .int x7)]) hx hb dX4_leastWeights_42 hl (Nat.le_of_ble_eq_true rfl) rfl (fun ls hl => ?_)
            have lp44 : ∀ (n : Nat) (x0 : Nat) (x1 : Nat) (x2 : Nat) (x3 : Int32) (x4 : Int32) (x5 : Int32) (x6 : Int32) (x7 : Int32) (x8 : Int32) (I : mI) (L : mL) (R : mR) (a1 : Int32) (a2 : mI) (H : Heap) (locs : List Loc) (ls : Array Slot), va_P D vwCl (wd ce b kdC lnC 272 I L R) H → va_S (box b 272) s.heap H locs → WT kdC R → kdC x0 = 10 → kdC x1 = 13 → kdC x2 = 6 → lv_has ls 10 [(0, .ref (b + x0)), (1, .ref (b + x1)), (2, .ref (b + x2)), (3, .int x3), (4, .int x4), (5, .int x5), (6, .int x6), (7, .int x7), (8, .int x8)] → f_X4_leastWeights_L44 n x0 x1 x2 x3 x4 x5 x6 x7 x8 I R = some (a1, a2) → (∀ (H1 : Heap) (locs1 : List Loc) (ls1 : Array Slot), va_P D vwCl (wd ce b kdC lnC 272 a2 L R) H1 → va_S (box b 272) s.heap H1 locs1 → lv_has ls1 10 [(0, .ref (b + x0)), (1, .ref (b + x1)), (2, .ref (b + x2)), (3, .int x3), (4, .int x4), (5, .int x5), (6, .int a1), (7, .int x7)] → W p l e rmX4_leastWeights s m av below meth c H1 locs1 0 0 QQ (F0 m 118 ls1 [])) → W p l e rmX4_leastWeights s m av below meth c H locs 0 0 QQ (F0 m 44 ls []) := by
              intro n
              induction n with
              | zero =>
                intro x0 x1 x2 x3 x4 x5 x6 x7 x8 I L R a1 a2 H locs ls hP hS hT h0 h1 h2 hl hf kx
                exact absurd (show (none : Option (Int32 × mI)) = some _ from hf) (by simp)
              | succ n ih =>
                intro x0 x1 x2 x3 x4 x5 x6 x7 x8 I L R a1 a2 H locs ls hP hS hT h0 h1 h2 hl hf kx
                rw [f_X4_leastWeights_L44] at hf
                refine lv_iload hx hb dX4_leastWeights_44 (lv_at hl 8 rfl) ?_
                refine lv_iload hx hb dX4_leastWeights_46 (lv_at hl 4 rfl) ?_
                refine lv_iconst (v := (2 : Int32)) hx hb dX4_leastWeights_48 (by decide) ?_
                refine lv_iadd hx hb dX4_leastWeights_49 ?_
                refine lv_icmp_gt (tgt := 118) hx hb dX4_leastWeights_50 (by decide) (fun c4 => ?_) (fun c4 => ?_)
                · have hf := ifT hf c4
                  cases hf
                  exact kx H locs ls hP hS (lv_sub hl [0, 1, 2, 3, 4, 5, 6, 7] rfl)
                · have hf := ifF hf c4
                  refine lv_iload hx hb dX4_leastWeights_53 (lv_at hl 4 rfl) ?_
                  refine lv_istore (lv' := [(9, .int x4), (0, .ref (b + x0)), (1, .ref (b + x1)), (2, .ref (b + x2)), (3, .int x3), (4, .int x4), (5, .int x5), (6, .int x6), (7, .int x7), (8, .int x8)]) hx hb dX4_leastWeights_55 hl (Nat.le_of_ble_eq_true rfl) rfl (fun ls hl => ?_)
                  have lp57 : ∀ (n : Nat) (x0 : Nat) (x1 : Nat) (x2 : Nat) (x3 : Int32) (x4 : Int32) (x5 : Int32) (x6 : Int32) (x7 : Int32) (x8 : Int32) (x9 : Int32) (I : mI) (L : mL) (R : mR) (a1 : Int32) (a2 : mI) (H : Heap) (locs : List Loc) (ls : Array Slot), va_P D vwCl (wd ce b kdC lnC 272 I L R) H → va_S (box b 272) s.heap H locs → WT kdC R → kdC x0 = 10 → kdC x1 = 13 → kdC x2 = 6 → lv_has ls 10 [(0, .ref (b + x0)), (1, .ref (b + x1)), (2, .ref (b + x2)), (3, .int x3), (4, .int x4), (5, .int x5), (6, .int x6), (7, .int x7), (8, .int x8), (9, .int x9)] → f_X4_leastWeights_L57 n x0 x1 x2 x3 x4 x5 x6 x7 x8 x9 I R = some (a1, a2) → (∀ (H1 : Heap) (locs1 : List Loc) (ls1 : Array Slot), va_P D vwCl (wd ce b kdC lnC 272 a2 L R) H1 → va_S (box b 272) s.heap H1 locs1 → lv_has ls1 10 [(0, .ref (b + x0)), (1, .ref (b + x1)), (2, .ref (b + x2)), (3, .int x3), (4, .int x4), (5, .int x5), (6, .int a1), (7, .int x7), (8, .int x8)] → W p l e rmX4_leastWeights s m av below meth c H1 locs1 0 0 QQ (F0 m 112 ls1 [])) → W p l e rmX4_leastWeights s m av below meth c H locs 0 0 QQ (F0 m 57 ls []) := by
                    intro n
                    induction n with
                    | zero =>
                      intro x0 x1 x2 x3 x4 x5 x6 x7 x8 x9 I L R a1 a2 H locs ls hP hS hT h0 h1 h2 hl hf kx
                      exact absurd (show (none : Option (Int32 × mI)) = some _ from hf) (by simp)
                    | succ n ih =>
                      intro x0 x1 x2 x3 x4 x5 x6 x7 x8 x9 I L R a1 a2 H locs ls hP hS hT h0 h1 h2 hl hf kx
                      rw [f_X4_leastWeights_L57] at hf
                      refine lv_iload hx hb dX4_leastWeights_57 (lv_at hl 9 rfl) ?_
                      refine lv_iload hx hb dX4_leastWeights_59 (lv_at hl 4 rfl) ?_
                      refine lv_iconst (v := (2 : Int32)) hx hb dX4_leastWeights_61 (by decide) ?_
                      refine lv_iadd hx hb dX4_leastWeights_62 ?_
                      refine lv_icmp_gt (tgt := 112) hx hb dX4_leastWeights_63 (by decide) (fun c5 => ?_) (fun c5 => ?_)
                      · have hf := ifT hf c5
                        cases hf
                        exact kx H locs ls hP hS (lv_sub hl [0, 1, 2, 3, 4, 5, 6, 7, 8] rfl)
                      · have hf := ifF hf c5
                        refine lv_aload_n hx hb dX4_leastWeights_66 rfl (lv_at hl 0 rfl) ?_
                        refine lv_aload_n hx hb dX4_leastWeights_67 rfl (lv_at hl 1 rfl) ?_
                        refine lv_aload_n hx hb dX4_leastWeights_68 rfl (lv_at hl 2 rfl) ?_
                        refine lv_iload_n hx hb dX4_leastWeights_69 rfl (lv_at hl 3 rfl) ?_
                        refine lv_iload hx hb dX4_leastWeights_70 (lv_at hl 7 rfl) ?_
                        refine lv_iload hx hb dX4_leastWeights_72 (lv_at hl 8 rfl) ?_
                        refine lv_iload hx hb dX4_leastWeights_74 (lv_at hl 9 rfl) ?_
                        obtain ⟨r6, I6, e6, hf⟩ := bd2_o hf
                        refine mm_Vi (rest := []) hx hb hml hown hts hKK hP hS hA (kdC_lt h0 (Nat.succ_ne_zero _)) h0 (show vwCl[4]? = some (yX4_fillRows.cls, TX4, 5) from rfl) vkX4_73 (k_X4_fillRows l D ce b I L R hT x0 x1 x2 x3 x7 x8 x9 h0 h1 h2 r6 I6 e6) rfl hl.1 rfl (Nat.le_of_ble_eq_true rfl) ⟨rfl, rfl⟩ ⟨Nat.le_of_ble_eq_true rfl, Nat.le_of_ble_eq_true rfl⟩ ⟨Nat.zero_le _, Nat.zero_le _⟩ dX4_leastWeights_76 (fun H locs hP hT hS => ?_)
                        refine jnE hf (fun j106_7 ej_7 hf => ?_)
                        have hJ106_7 : ∀ (v6_7 : Int32) (H : Heap) (locs : List Loc) (ls : Array Slot), va_P D vwCl (wd ce b kdC lnC 272 I6 L R) H → va_S (box b 272) s.heap H locs → lv_has ls 10 [(0, .ref (b + x0)), (1, .ref (b + x1)), (2, .ref (b + x2)), (3, .int x3), (4, .int x4), (5, .int x5), (6, .int v6_7), (7, .int x7), (8, .int x8), (9, .int x9)] → j106_7 v6_7 = some (a1, a2) → W p l e rmX4_leastWeights s m av below meth c H locs 0 0 QQ (F0 m 106 ls []) := by
                          intro v6_7 H locs ls hP hS  hl hf
                          rw [ej_7] at hf
                          try dsimp only at hf
                          refine lv_iinc (v := (x9 + (1 : Int32))) (lv' := [(9, .int (x9 + (1 : Int32))), (0, .ref (b + x0)), (1, .ref (b + x1)), (2, .ref (b + x2)), (3, .int x3), (4, .int x4), (5, .int x5), (6, .int v6_7), (7, .int x7), (8, .int x8)]) hx hb dX4_leastWeights_106 hl (k := 9) rfl rfl (Nat.le_of_ble_eq_true rfl) rfl (fun ls hl => ?_)
                          refine lv_goto (tgt := 57) hx hb dX4_leastWeights_109 (by decide) ?_
                          exact ih x0 x1 x2 x3 x4 x5 v6_7 x7 x8 (x9 + (1 : Int32)) I6 L R a1 a2 H locs ls hP hS hT h0 h1 h2 (lv_sub hl [1, 2, 3, 4, 5, 6, 7, 8, 9, 0] rfl) hf kx
                        clear ej_7
                        refine lv_if_eq (tgt := 106) hx hb dX4_leastWeights_79 (by decide) (fun c8 => ?_) (fun c8 => ?_)
                        · have hf := ifT hf c8
                          exact hJ106_7 x6 H locs ls hP hS  (lv_sub hl [0, 1, 2, 3, 4, 5, 6, 7, 8, 9] rfl) hf
                        · have hf := ifF hf c8
                          refine lv_aload_n hx hb dX4_leastWeights_82 rfl (lv_at hl 0 rfl) ?_
                          refine lv_bipush (v := (100 : Int32)) hx hb dX4_leastWeights_83 (by decide) ?_
                          refine lv_iload hx hb dX4_leastWeights_85 (lv_at hl 7 rfl) ?_
                          refine lv_imul hx hb dX4_leastWeights_87 ?_
                          refine lv_bipush (v := (10 : Int32)) hx hb dX4_leastWeights_88 (by decide) ?_
                          refine lv_iload hx hb dX4_leastWeights_90 (lv_at hl 8 rfl) ?_
                          refine lv_imul hx hb dX4_leastWeights_92 ?_
                          refine lv_iadd hx hb dX4_leastWeights_93 ?_
                          refine lv_iload hx hb dX4_leastWeights_94 (lv_at hl 9 rfl) ?_
                          refine lv_iadd hx hb dX4_leastWeights_96 ?_
                          refine lv_iload hx hb dX4_leastWeights_97 (lv_at hl 5 rfl) ?_
                          refine lv_iload hx hb dX4_leastWeights_99 (lv_at hl 6 rfl) ?_
                          obtain ⟨r9, e9, hf⟩ := bd1_o hf
                          refine mm_Vi (rest := []) hx hb hml hown hts hKK hP hS hA (kdC_lt h0 (Nat.succ_ne_zero _)) h0 (show vwCl[4]? = some (yX4_leastByRows.cls, TX4, 5) from rfl) vkX4_77 (k_X4_leastByRows l D ce b I6 L R hT x0 ((((100 : Int32) * x7) + ((10 : Int32) * x8)) + x9) x5 x6 h0 r9 e9) rfl hl.1 rfl (Nat.le_of_ble_eq_true rfl) ⟨rfl, rfl⟩ ⟨Nat.le_of_ble_eq_true rfl, Nat.le_of_ble_eq_true rfl⟩ ⟨Nat.zero_le _, Nat.zero_le _⟩ dX4_leastWeights_101 (fun H locs hP hT hS => ?_)
                          refine lv_istore (lv' := [(6, .int r9), (0, .ref (b + x0)), (1, .ref (b + x1)), (2, .ref (b + x2)), (3, .int x3), (4, .int x4), (5, .int x5), (7, .int x7), (8, .int x8), (9, .int x9)]) hx hb dX4_leastWeights_104 hl (Nat.le_of_ble_eq_true rfl) rfl (fun ls hl => ?_)
                          exact hJ106_7 r9 H locs ls hP hS  (lv_sub hl [1, 2, 3, 4, 5, 6, 0, 7, 8, 9] rfl) hf
                  obtain ⟨y6_10, I_10, e_10, hf⟩ := bd2_o hf
                  refine lp57 FU x0 x1 x2 x3 x4 x5 x6 x7 x8 x4 I L R y6_10 I_10 H locs ls hP hS hT h0 h1 h2 (lv_sub hl [1, 2, 3, 4, 5, 6, 7, 8, 9, 0] rfl) e_10 (fun H locs ls hP hS hl => ?_)
                  refine lv_iinc (v := (x8 + (1 : Int32))) (lv' := [(8, .int (x8 + (1 : Int32))), (0, .ref (b + x0)), (1, .ref (b + x1)), (2, .ref (b + x2)), (3, .int x3), (4, .int x4), (5, .int x5), (6, .int y6_10), (7, .int x7)]) hx hb dX4_leastWeights_112 hl (k := 8) rfl rfl (Nat.le_of_ble_eq_true rfl) rfl (fun ls hl => ?_)
                  refine lv_goto (tgt := 44) hx hb dX4_leastWeights_115 (by decide) ?_
                  exact ih x0 x1 x2 x3 x4 x5 y6_10 x7 (x8 + (1 : Int32)) I_10 L R a1 a2 H locs ls hP hS hT h0 h1 h2 (lv_sub hl [1, 2, 3, 4, 5, 6, 7, 8, 0] rfl) hf kx
            obtain ⟨y6_11, I_11, e_11, hf⟩ := bd2_o hf
            refine lp44 FU x0 x1 x2 x3 x4 x5 x6 x7 x4 I L R y6_11 I_11 H locs ls hP hS hT h0 h1 h2 (lv_sub hl [1, 2, 3, 4, 5, 6, 7, 8, 0] rfl) e_11 (fun H locs ls hP hS hl => ?_)
            refine lv_iinc (v := (x7 + (1 : Int32))) (lv' := [(7, .int (x7 + (1 : Int32))), (0, .ref (b + x0)), (1, .ref (b + x1)), (2, .ref (b + x2)), (3, .int x3), (4, .int x4), (5, .int x5), (6, .int y6_11)]) hx hb dX4_leastWeights_118 hl (k := 7) rfl rfl (Nat.le_of_ble_eq_true rfl) rfl (fun ls hl => ?_)
            refine lv_goto (tgt := 31) hx hb dX4_leastWeights_121 (by decide) ?_
            exact ih x0 x1 x2 x3 x4 x5 y6_11 (x7 + (1 : Int32)) I_11 L R a1 a2 H locs ls hP hS hT h0 h1 h2 (lv_sub hl [1, 2, 3, 4, 5, 6, 7, 0] rfl) hf kx
      obtain ⟨y6_12, I_12, e_12, hf⟩ := bd2_o hf
      refine lp31 FU x0 x1 x2 x3 w0_1 w0_2 (-1 : Int32) w0_1 I L R y6_12 I_12 H locs ls hP hS hT h0 h1 h2 (lv_sub hl [3, 4, 5, 6, 7, 2, 1, 0] rfl) e_12 (fun H locs ls hP hS hl => ?_)
      refine lv_iload hx hb dX4_leastWeights_124 (lv_at hl 0 rfl) ?_
      exact hret y6_12 I_12 hf H locs ls _ dX4_leastWeights_126 hP hT hS
    clear ej_2
    refine lv_icmp_ne (tgt := 21) hx hb dX4_leastWeights_14 (by decide) (fun c13 => ?_) (fun c13 => ?_)
    · have hf := ifF hf c13
      refine lv_iconst (v := (2 : Int32)) hx hb dX4_leastWeights_21 (by decide) ?_
      exact hJ22_2 (2 : Int32) H locs ls hP hS  (lv_sub hl [1, 2, 3, 4, 0] rfl) hf
    · have hf := ifT hf c13
      refine lv_iconst (v := (3 : Int32)) hx hb dX4_leastWeights_17 (by decide) ?_
      refine lv_goto (tgt := 22) hx hb dX4_leastWeights_18 (by decide) ?_
      exact hJ22_2 (3 : Int32) H locs ls hP hS  (lv_sub hl [1, 2, 3, 4, 0] rfl) hf
  clear ej_1
  refine lv_icmp_ne (tgt := 9) hx hb dX4_leastWeights_2 (by decide) (fun c14 => ?_) (fun c14 => ?_)
  · have hf := ifF hf c14
    refine lv_iconst (v := (0 : Int32)) hx hb dX4_leastWeights_9 (by decide) ?_
    exact hJ10_1 (0 : Int32) H locs ls hP hS  (lv_sub hl [0, 1, 2, 3] rfl) hf
  · have hf := ifT hf c14
    refine lv_iconst (v := (1 : Int32)) hx hb dX4_leastWeights_5 (by decide) ?_
    refine lv_goto (tgt := 10) hx hb dX4_leastWeights_6 (by decide) ?_
    exact hJ10_1 (1 : Int32) H locs ls hP hS  (lv_sub hl [0, 1, 2, 3] rfl) hf
def rmX10_fall : Room := { frames := 4, cells := 0, slots := 0, locals := 108 }
set_option maxHeartbeats 4000000 in
set_option maxRecDepth 100000 in
theorem k_X10_fall (l : Launch) (D : va_G) (ce : Nat → ClassId) (b : Nat) (I : mI) (L : mL) (R : mR) (hT : WT kdC R) (x0 : Nat) (h0 : kdC x0 = 16) (o1 : Int32) (o2 : mI) (hf : f_X10_fall x0 I R = some (o1, o2)) : Met l yX10_fall (Cond.code yX10_fall cX10_fall 1 (some .int) :: GW) rmX10_fall (va_Pc [.ref (b + x0)] (PW D ce b kdC lnC 272 I L R)) (va_Qi (fun r u => r = o1 ∧ u = (o2, L, R)) (QW D ce b kdC lnC 272) (box b 272)) 0 0 (box b 272) := by
  refine Met.ofW (cc := cX10_fall) (maxL := 1) (ret := (some .int)) (by decide) rfl ?_
  intro p e s m args below meth c s₁ B hml hv
  obtain ⟨rfl, hP, hKK⟩ := hv
  have hx := B.exec
  have hb := B.bytes
  have hr := B.returns
  have hts0 := atoms_spec (ws := Cond.code yX10_fall cX10_fall 1 (some .int) :: GW) B.pre
  have hts : ∀ w ∈ GW, w.before _ s = true := fun w h => hts0 w (List.mem_cons_of_mem _ h)
  clear hts0
  have hown : s.vm.findClass RX10 = some m.cls := findClass_of_methodNamed B.named
  have hlocks := B.notSynchronized
  have hA : ∀ q, box b 272 q → box b 272 q := fun _ h => h
  have hS : va_S (box b 272) s.heap s.heap [] := va_S.rf
  have hl := lv_entry ([.ref (b + x0)]) (n := 1) (Nat.le_of_ble_eq_true rfl)
  rw [lg_entry_eq]
  generalize (lg_sl ([.ref (b + x0)]) ++ List.replicate (1 - (lg_sl ([.ref (b + x0)])).length) Slot.unset).toArray = ls at hl ⊢
  have hl : lv_has ls 1 [(0, .ref (b + x0))] := hl
  generalize ([.ref (b + x0)] : List Value).toArray = av at hts ⊢
  show W p l e rmX10_fall s m av below meth c s.heap [] 0 0 _ _
  obtain ⟨QQ, hQQ⟩ : ∃ z, z = MQ below (va_Qi (fun r u => r = o1 ∧ u = (o2, L, R)) (QW D ce b kdC lnC 272) (box b 272)) av s 0 0 (box b 272) := ⟨_, rfl⟩
  rw [← hQQ]
  have hret : ∀ (r : Int32) (I1 : mI), some (r, I1) = some (o1, o2) → ∀ (H1 : Heap) (locs1 : List Loc) (ls1 : Array Slot) (pc1 : Nat), decode cX10_fall pc1 = .ok (.ireturn, 1) → va_P D vwCl (wd ce b kdC lnC 272 I1 L R) H1 → WT kdC R → va_S (box b 272) s.heap H1 locs1 → W p l e rmX10_fall s m av below meth c H1 locs1 0 0 QQ (F0 m pc1 ls1 [.int r]) := by
    intro r I1 hq H1 locs1 ls1 pc1 hd hP hT hS
    cases hq
    rw [hQQ]
    exact mm_iret hx hb hr hlocks hP hT hS hd
  unfold f_X10_fall at hf
  obtain ⟨H, hH⟩ : ∃ z, z = s.heap := ⟨_, rfl⟩
  obtain ⟨locs, hlo⟩ : ∃ z : List Loc, z = [] := ⟨_, rfl⟩
  have hP : va_P D vwCl (wd ce b kdC lnC 272 I L R) H := by rw [hH]; exact hP
  have hS : va_S (box b 272) s.heap H locs := by rw [hH, hlo]; exact hS
  rw [show W p l e rmX10_fall s m av below meth c s.heap [] 0 0 QQ = W p l e rmX10_fall s m av below meth c H locs 0 0 QQ by rw [hH, hlo]]
  clear hH hlo
  clear hQQ
  show W p l e rmX10_fall s m av below meth c H locs 0 0 QQ (F0 m 0 ls [])
  refine lv_aload_n hx hb dX10_fall_0 rfl (lv_at hl 0 rfl) ?_
  refine mm_geti hx hb hts hown hKK hP fk10_11 (Or.inl rfl) lkX10_71 (kdC_lt h0 (Nat.succ_ne_zero _)) h0 dX10_fall_1 ?_
  refine lv_bipush (v := (-9 : Int32)) hx hb dX10_fall_4 (by decide) ?_
  refine lv_icmp_ne (tgt := 29) hx hb dX10_fall_6 (by decide) (fun c1 => ?_) (fun c1 => ?_)
  · have hf := ifF hf c1
    refine lv_aload_n hx hb dX10_fall_29 rfl (lv_at hl 0 rfl) ?_
    refine mm_geti hx hb hts hown hKK hP fk10_11 (Or.inl rfl) lkX10_71 (kdC_lt h0 (Nat.succ_ne_zero _)) h0 dX10_fall_30 ?_
    exact hret (I x0 11) I hf H locs ls _ dX10_fall_33 hP hT hS
  · have hf := ifT hf c1
    refine lv_aload_n hx hb dX10_fall_9 rfl (lv_at hl 0 rfl) ?_
    refine lv_aload_n hx hb dX10_fall_10 rfl (lv_at hl 0 rfl) ?_
    have t2 : kdC (R x0 5) = 10 := wt hT h0 rfl
    refine mm_getr hx hb hts hown hKK hP fk10_5 (Nat.le_of_ble_eq_true rfl) lkX10_47 (kdC_lt h0 (Nat.succ_ne_zero _)) h0 (nC t2 (Nat.succ_ne_zero _)) dX10_fall_11 ?_
    refine lv_aload_n hx hb dX10_fall_14 rfl (lv_at hl 0 rfl) ?_
    have t3 : kdC (R x0 0) = 13 := wt hT h0 rfl
    refine mm_getr hx hb hts hown hKK hP fk10_0 (Nat.le_of_ble_eq_true rfl) lkX10_10 (kdC_lt h0 (Nat.succ_ne_zero _)) h0 (nC t3 (Nat.succ_ne_zero _)) dX10_fall_15 ?_
    refine lv_aload_n hx hb dX10_fall_18 rfl (lv_at hl 0 rfl) ?_
    have t4 : kdC (R x0 4) = 6 := wt hT h0 rfl
    refine mm_getr hx hb hts hown hKK hP fk10_4 (Nat.le_of_ble_eq_true rfl) lkX10_40 (kdC_lt h0 (Nat.succ_ne_zero _)) h0 (nC t4 (Nat.succ_ne_zero _)) dX10_fall_19 ?_
    refine lv_iconst (v := (-1 : Int32)) hx hb dX10_fall_22 (by decide) ?_
    obtain ⟨r5, I5, e5, hf⟩ := bd2_o hf
    refine mm_Vi (rest := [.ref (b + x0)]) hx hb hml hown hts hKK hP hS hA (kdC_lt t2 (Nat.succ_ne_zero _)) t2 (show vwCl[4]? = some (yX4_leastWeights.cls, TX4, 5) from rfl) vkX10_171 (k_X4_leastWeights l D ce b I L R hT (R x0 5) (R x0 0) (R x0 4) (-1 : Int32) t2 t3 t4 r5 I5 e5) rfl hl.1 rfl (Nat.le_of_ble_eq_true rfl) ⟨rfl, rfl⟩ ⟨Nat.le_of_ble_eq_true rfl, Nat.le_of_ble_eq_true rfl⟩ ⟨Nat.zero_le _, Nat.zero_le _⟩ dX10_fall_23 (fun H locs hP hT hS => ?_)
    refine jnE hf (fun I6 eI6 hf => ?_)
    refine mm_puti hx hb hts hown hKK hP hA hS fk10_11 (Or.inl rfl) fw10_11 lkX10_71 (kdC_lt h0 (Nat.succ_ne_zero _)) h0 rfl rfl dX10_fall_26 (fun H locs hP hS => ?_)
    rw [← eI6] at hP
    refine lv_aload_n hx hb dX10_fall_29 rfl (lv_at hl 0 rfl) ?_
    refine mm_geti hx hb hts hown hKK hP fk10_11 (Or.inl rfl) lkX10_71 (kdC_lt h0 (Nat.succ_ne_zero _)) h0 dX10_fall_30 ?_
    exact hret (I6 x0 11) I6 hf H locs ls _ dX10_fall_33 hP hT hS
def rmX10_splitFigures : Room := { frames := 0, cells := 0, slots := 0, locals := 0 }
set_option maxHeartbeats 4000000 in
set_option maxRecDepth 100000 in
theorem k_X10_splitFigures (l : Launch) (D : va_G) (ce : Nat → ClassId) (b : Nat) (I : mI) (L : mL) (R : mR) (hT : WT kdC R) (x0 : Nat) (x1 : Int32) (h0 : kdC x0 = 16) (o1 : Int32) (o2 : mI) (hf : f_X10_splitFigures x0 x1 I R = some (o1, o2)) : Met l yX10_splitFigures (Cond.code yX10_splitFigures cX10_splitFigures 4 (some .boolean) :: GW) rmX10_splitFigures (va_Pc [.ref (b + x0), .int x1] (PW D ce b kdC lnC 272 I L R)) (va_Qi (fun r u => r = o1 ∧ u = (o2, L, R)) (QW D ce b kdC lnC 272) (box b 272)) 0 0 (box b 272) := by
  refine Met.ofW (cc := cX10_splitFigures) (maxL := 4) (ret := (some .boolean)) (by decide) rfl ?_
  intro p e s m args below meth c s₁ B hml hv
  obtain ⟨rfl, hP, hKK⟩ := hv
  have hx := B.exec
  have hb := B.bytes
  have hr := B.returns
  have hts0 := atoms_spec (ws := Cond.code yX10_splitFigures cX10_splitFigures 4 (some .boolean) :: GW) B.pre
  have hts : ∀ w ∈ GW, w.before _ s = true := fun w h => hts0 w (List.mem_cons_of_mem _ h)
  clear hts0
  have hown : s.vm.findClass RX10 = some m.cls := findClass_of_methodNamed B.named
  have hlocks := B.notSynchronized
  have hA : ∀ q, box b 272 q → box b 272 q := fun _ h => h
  have hS : va_S (box b 272) s.heap s.heap [] := va_S.rf
  have hl := lv_entry ([.ref (b + x0), .int x1]) (n := 4) (Nat.le_of_ble_eq_true rfl)
  rw [lg_entry_eq]
  generalize (lg_sl ([.ref (b + x0), .int x1]) ++ List.replicate (4 - (lg_sl ([.ref (b + x0), .int x1])).length) Slot.unset).toArray = ls at hl ⊢
  have hl : lv_has ls 4 [(0, .ref (b + x0)), (1, .int x1)] := hl
  generalize ([.ref (b + x0), .int x1] : List Value).toArray = av at hts ⊢
  show W p l e rmX10_splitFigures s m av below meth c s.heap [] 0 0 _ _
  obtain ⟨QQ, hQQ⟩ : ∃ z, z = MQ below (va_Qi (fun r u => r = o1 ∧ u = (o2, L, R)) (QW D ce b kdC lnC 272) (box b 272)) av s 0 0 (box b 272) := ⟨_, rfl⟩
  rw [← hQQ]
  have hret : ∀ (r : Int32) (I1 : mI), some (r, I1) = some (o1, o2) → ∀ (H1 : Heap) (locs1 : List Loc) (ls1 : Array Slot) (pc1 : Nat), decode cX10_splitFigures pc1 = .ok (.ireturn, 1) → zb r = true → va_P D vwCl (wd ce b kdC lnC 272 I1 L R) H1 → WT kdC R → va_S (box b 272) s.heap H1 locs1 → W p l e rmX10_splitFigures s m av below meth c H1 locs1 0 0 QQ (F0 m pc1 ls1 [.int r]) := by
    intro r I1 hq H1 locs1 ls1 pc1 hd hz hP hT hS
    cases hq
    rw [hQQ]
    exact mm_zret hx hb hr hlocks hz hP hT hS hd
  unfold f_X10_splitFigures at hf
  obtain ⟨H, hH⟩ : ∃ z, z = s.heap := ⟨_, rfl⟩
  obtain ⟨locs, hlo⟩ : ∃ z : List Loc, z = [] := ⟨_, rfl⟩
  have hP : va_P D vwCl (wd ce b kdC lnC 272 I L R) H := by rw [hH]; exact hP
  have hS : va_S (box b 272) s.heap H locs := by rw [hH, hlo]; exact hS
  rw [show W p l e rmX10_splitFigures s m av below meth c s.heap [] 0 0 QQ = W p l e rmX10_splitFigures s m av below meth c H locs 0 0 QQ by rw [hH, hlo]]
  clear hH hlo
  clear hQQ
  show W p l e rmX10_splitFigures s m av below meth c H locs 0 0 QQ (F0 m 0 ls [])
  refine lv_iload_n hx hb dX10_splitFigures_0 rfl (lv_at hl 1 rfl) ?_
  refine lv_if_ge (tgt := 6) hx hb dX10_splitFigures_1 (by decide) (fun c1 => ?_) (fun c1 => ?_)
  · have hf := ifT hf c1
    refine lv_iload_n hx hb dX10_splitFigures_6 rfl (lv_at hl 1 rfl) ?_
    refine lv_istore_n (lv' := [(2, .int x1), (0, .ref (b + x0)), (1, .int x1)]) hx hb dX10_splitFigures_7 rfl hl (Nat.le_of_ble_eq_true rfl) rfl (fun ls hl => ?_)
    refine lv_bipush (v := (6 : Int32)) hx hb dX10_splitFigures_8 (by decide) ?_
    refine lv_istore_n (lv' := [(3, .int (6 : Int32)), (2, .int x1), (0, .ref (b + x0)), (1, .int x1)]) hx hb dX10_splitFigures_10 rfl hl (Nat.le_of_ble_eq_true rfl) rfl (fun ls hl => ?_)
    have lp11 : ∀ (n : Nat) (x0 : Nat) (x2 : Int32) (x3 : Int32) (I : mI) (L : mL) (R : mR) (q : (Int32 × mI) ⊕ (Int32 × mI)) (H : Heap) (locs : List Loc) (ls : Array Slot), va_P D vwCl (wd ce b kdC lnC 272 I L R) H → va_S (box b 272) s.heap H locs → WT kdC R → kdC x0 = 16 → lv_has ls 4 [(0, .ref (b + x0)), (2, .int x2), (3, .int x3)] → f_X10_splitFigures_L11 n x0 x2 x3 I R = some q → (∀ (y2 : Int32) (I1 : mI), some (Sum.inr (y2, I1)) = some q → ∀ (H1 : Heap) (locs1 : List Loc) (ls1 : Array Slot), va_P D vwCl (wd ce b kdC lnC 272 I1 L R) H1 → va_S (box b 272) s.heap H1 locs1 → lv_has ls1 4 [(2, .int y2)] → W p l e rmX10_splitFigures s m av below meth c H1 locs1 0 0 QQ (F0 m 48 ls1 [])) → (∀ (r : Int32) (I1 : mI), some (Sum.inl (r, I1)) = some q → ∀ (H1 : Heap) (locs1 : List Loc) (ls1 : Array Slot) (pc1 : Nat), decode cX10_splitFigures pc1 = .ok (.ireturn, 1) → zb r = true → va_P D vwCl (wd ce b kdC lnC 272 I1 L R) H1 → WT kdC R → va_S (box b 272) s.heap H1 locs1 → W p l e rmX10_splitFigures s m av below meth c H1 locs1 0 0 QQ (F0 m pc1 ls1 [.int r])) → W p l e rmX10_splitFigures s m av below meth c H locs 0 0 QQ (F0 m 11 ls []) := by
      intro n
      induction n with
      | zero =>
        intro x0 x2 x3 I L R q H locs ls hP hS hT h0 hl hf kx kr
        exact absurd (show (none : Option ((Int32 × mI) ⊕ (Int32 × mI))) = some _ from hf) (by simp)
      | succ n ih =>
        intro x0 x2 x3 I L R q H locs ls hP hS hT h0 hl hf kx kr
        rw [f_X10_splitFigures_L11] at hf
        refine lv_iload_n hx hb dX10_splitFigures_11 rfl (lv_at hl 2 rfl) ?_
        refine lv_if_lt (tgt := 48) hx hb dX10_splitFigures_12 (by decide) (fun c2 => ?_) (fun c2 => ?_)
        · have hf := ifT hf c2
          exact kx x2 I hf H locs ls hP hS (lv_sub hl [1] rfl)
        · have hf := ifF hf c2
          refine lv_aload_n hx hb dX10_splitFigures_15 rfl (lv_at hl 0 rfl) ?_
          have t3 : kdC (R x0 8) = 1 := wt hT h0 rfl
          refine mm_getr hx hb hts hown hKK hP fk10_8 (Nat.le_of_ble_eq_true rfl) lkX10_67 (kdC_lt h0 (Nat.succ_ne_zero _)) h0 (nC t3 (Nat.succ_ne_zero _)) dX10_splitFigures_16 ?_
          refine lv_iload_n hx hb dX10_splitFigures_19 rfl (lv_at hl 2 rfl) ?_
          refine lv_iload_n hx hb dX10_splitFigures_20 rfl (lv_at hl 1 rfl) ?_
          refine lv_bipush (v := (10 : Int32)) hx hb dX10_splitFigures_21 (by decide) ?_
          refine lv_irem hx hb dX10_splitFigures_23 (by decide) ?_
          obtain ⟨g4, hf⟩ := grd hf
          refine jnE hf (fun I5 eI5 hf => ?_)
          refine mm_iast hx hb hKK hP hA hS (kdC_lt t3 (Nat.succ_ne_zero _)) t3 g4 dX10_splitFigures_24 (fun H locs hP hS => ?_)
          rw [← eI5] at hP
          refine lv_iload_n hx hb dX10_splitFigures_25 rfl (lv_at hl 1 rfl) ?_
          refine lv_bipush (v := (10 : Int32)) hx hb dX10_splitFigures_26 (by decide) ?_
          refine lv_idiv hx hb dX10_splitFigures_28 (by decide) ?_
          refine lv_istore_n (lv' := [(2, .int (x2 / (10 : Int32))), (0, .ref (b + x0)), (3, .int x3)]) hx hb dX10_splitFigures_29 rfl hl (Nat.le_of_ble_eq_true rfl) rfl (fun ls hl => ?_)
          refine lv_aload_n hx hb dX10_splitFigures_30 rfl (lv_at hl 1 rfl) ?_
          refine mm_getr hx hb hts hown hKK hP fk10_8 (Nat.le_of_ble_eq_true rfl) lkX10_67 (kdC_lt h0 (Nat.succ_ne_zero _)) h0 (nC t3 (Nat.succ_ne_zero _)) dX10_splitFigures_31 ?_
          refine lv_iload_n hx hb dX10_splitFigures_34 rfl (lv_at hl 2 rfl) ?_
          refine mm_iald hx hb hKK hP (kdC_lt t3 (Nat.succ_ne_zero _)) t3 g4 dX10_splitFigures_35 ?_
          refine lv_iconst (v := (3 : Int32)) hx hb dX10_splitFigures_36 (by decide) ?_
          refine lv_icmp_le (tgt := 42) hx hb dX10_splitFigures_37 (by decide) (fun c6 => ?_) (fun c6 => ?_)
          · have hf := ifT hf c6
            refine lv_iinc (v := (x3 + (-1 : Int32))) (lv' := [(3, .int (x3 + (-1 : Int32))), (2, .int (x2 / (10 : Int32))), (0, .ref (b + x0))]) hx hb dX10_splitFigures_42 hl (k := 2) rfl rfl (Nat.le_of_ble_eq_true rfl) rfl (fun ls hl => ?_)
            refine lv_goto (tgt := 11) hx hb dX10_splitFigures_45 (by decide) ?_
            exact ih x0 (x2 / (10 : Int32)) (x3 + (-1 : Int32)) I5 L R q H locs ls hP hS hT h0 (lv_sub hl [2, 1, 0] rfl) hf kx kr
          · have hf := ifF hf c6
            refine lv_iconst (v := (0 : Int32)) hx hb dX10_splitFigures_40 (by decide) ?_
            exact kr (0 : Int32) I5 hf H locs ls _ dX10_splitFigures_41 rfl hP hT hS
    obtain ⟨q_7, e_7, hf⟩ := bdS_o hf
    refine lp11 FU x0 x1 (6 : Int32) I L R q_7 H locs ls hP hS hT h0 (lv_sub hl [2, 1, 0] rfl) e_7 (fun y2_7 I_7 hq H locs ls hP hS hl => ?_) (fun r_7 I_7 hq H locs ls pc1 hd hz hP hT hS => ?_)
    · have hf := elR2 hf (Option.some.inj hq).symm
      refine lv_iload_n hx hb dX10_splitFigures_48 rfl (lv_at hl 0 rfl) ?_
      refine lv_if_ne (tgt := 56) hx hb dX10_splitFigures_49 (by decide) (fun c8 => ?_) (fun c8 => ?_)
      · have hf := ifF hf c8
        refine lv_iconst (v := (0 : Int32)) hx hb dX10_splitFigures_56 (by decide) ?_
        exact hret (0 : Int32) I_7 hf H locs ls _ dX10_splitFigures_57 rfl hP hT hS
      · have hf := ifT hf c8
        refine lv_iconst (v := (1 : Int32)) hx hb dX10_splitFigures_52 (by decide) ?_
        refine lv_goto (tgt := 57) hx hb dX10_splitFigures_53 (by decide) ?_
        exact hret (1 : Int32) I_7 hf H locs ls _ dX10_splitFigures_57 rfl hP hT hS
    · have hf := elL2 hf (Option.some.inj hq).symm
      exact hret r_7 I_7 hf H locs ls pc1 hd hz hP hT hS
  · have hf := ifF hf c1
    refine lv_iconst (v := (0 : Int32)) hx hb dX10_splitFigures_4 (by decide) ?_
    exact hret (0 : Int32) I hf H locs ls _ dX10_splitFigures_5 rfl hP hT hS
def rmX4_compareSides : Room := { frames := 2, cells := 0, slots := 0, locals := 50 }
set_option maxHeartbeats 4000000 in
set_option maxRecDepth 100000 in
theorem k_X4_compareSides (l : Launch) (D : va_G) (ce : Nat → ClassId) (b : Nat) (I : mI) (L : mL) (R : mR) (hT : WT kdC R) (x0 : Nat) (x1 : Nat) (x2 : Nat) (h0 : kdC x0 = 10) (h1 : kdC x1 = 9) (h2 : kdC x2 = 1) (o1 : Int32) (o2 : mI) (hf : f_X4_compareSides x0 x1 x2 I R = some (o1, o2)) : Met l yX4_compareSides (Cond.code yX4_compareSides cX4_compareSides 4 (some .int) :: GW) rmX4_compareSides (va_Pc [.ref (b + x0), .ref (b + x1), .ref (b + x2)] (PW D ce b kdC lnC 272 I L R)) (va_Qi (fun r u => r = o1 ∧ u = (o2, L, R)) (QW D ce b kdC lnC 272) (box b 272)) 0 0 (box b 272) := by
  refine Met.ofW (cc := cX4_compareSides) (maxL := 4) (ret := (some .int)) (by decide) rfl ?_
  intro p e s m args below meth c s₁ B hml hv
  obtain ⟨rfl, hP, hKK⟩ := hv
  have hx := B.exec
  have hb := B.bytes
  have hr := B.returns
  have hts0 := atoms_spec (ws := Cond.code yX4_compareSides cX4_compareSides 4 (some .int) :: GW) B.pre
  have hts : ∀ w ∈ GW, w.before _ s = true := fun w h => hts0 w (List.mem_cons_of_mem _ h)
  clear hts0
  have hown : s.vm.findClass RX4 = some m.cls := findClass_of_methodNamed B.named
  have hlocks := B.notSynchronized
  have hA : ∀ q, box b 272 q → box b 272 q := fun _ h => h
  have hS : va_S (box b 272) s.heap s.heap [] := va_S.rf
  have hl := lv_entry ([.ref (b + x0), .ref (b + x1), .ref (b + x2)]) (n := 4) (Nat.le_of_ble_eq_true rfl)
  rw [lg_entry_eq]
  generalize (lg_sl ([.ref (b + x0), .ref (b + x1), .ref (b + x2)]) ++ List.replicate (4 - (lg_sl ([.ref (b + x0), .ref (b + x1), .ref (b + x2)])).length) Slot.unset).toArray = ls at hl ⊢
  have hl : lv_has ls 4 [(0, .ref (b + x0)), (1, .ref (b + x1)), (2, .ref (b + x2))] := hl
  generalize ([.ref (b + x0), .ref (b + x1), .ref (b + x2)] : List Value).toArray = av at hts ⊢
  show W p l e rmX4_compareSides s m av below meth c s.heap [] 0 0 _ _
  obtain ⟨QQ, hQQ⟩ : ∃ z, z = MQ below (va_Qi (fun r u => r = o1 ∧ u = (o2, L, R)) (QW D ce b kdC lnC 272) (box b 272)) av s 0 0 (box b 272) := ⟨_, rfl⟩
  rw [← hQQ]
  have hret : ∀ (r : Int32) (I1 : mI), some (r, I1) = some (o1, o2) → ∀ (H1 : Heap) (locs1 : List Loc) (ls1 : Array Slot) (pc1 : Nat), decode cX4_compareSides pc1 = .ok (.ireturn, 1) → va_P D vwCl (wd ce b kdC lnC 272 I1 L R) H1 → WT kdC R → va_S (box b 272) s.heap H1 locs1 → W p l e rmX4_compareSides s m av below meth c H1 locs1 0 0 QQ (F0 m pc1 ls1 [.int r]) := by
    intro r I1 hq H1 locs1 ls1 pc1 hd hP hT hS
    cases hq
    rw [hQQ]
    exact mm_iret hx hb hr hlocks hP hT hS hd
  unfold f_X4_compareSides at hf
  obtain ⟨H, hH⟩ : ∃ z, z = s.heap := ⟨_, rfl⟩
  obtain ⟨locs, hlo⟩ : ∃ z : List Loc, z = [] := ⟨_, rfl⟩
  have hP : va_P D vwCl (wd ce b kdC lnC 272 I L R) H := by rw [hH]; exact hP
  have hS : va_S (box b 272) s.heap H locs := by rw [hH, hlo]; exact hS
  rw [show W p l e rmX4_compareSides s m av below meth c s.heap [] 0 0 QQ = W p l e rmX4_compareSides s m av below meth c H locs 0 0 QQ by rw [hH, hlo]]
  clear hH hlo
  clear hQQ
  show W p l e rmX4_compareSides s m av below meth c H locs 0 0 QQ (F0 m 0 ls [])
  refine lv_aload_n hx hb dX4_compareSides_0 rfl (lv_at hl 0 rfl) ?_
  have t1 : kdC (R x0 0) = 12 := wt hT h0 rfl
  refine mm_getr hx hb hts hown hKK hP fk4_0 (Nat.le_of_ble_eq_true rfl) lkX4_12 (kdC_lt h0 (Nat.succ_ne_zero _)) h0 (nC t1 (Nat.succ_ne_zero _)) dX4_compareSides_1 ?_
  refine lv_aload_n hx hb dX4_compareSides_4 rfl (lv_at hl 1 rfl) ?_
  have t2 : kdC (R x1 0) = 14 := wt hT h1 rfl
  refine mm_getr hx hb hts hown hKK hP fk3_0 (Nat.le_of_ble_eq_true rfl) lkX4_29 (kdC_lt h1 (Nat.succ_ne_zero _)) h1 (nC t2 (Nat.succ_ne_zero _)) dX4_compareSides_5 ?_
  refine lv_aload_n hx hb dX4_compareSides_8 rfl (lv_at hl 2 rfl) ?_
  refine lv_iconst (v := (4 : Int32)) hx hb dX4_compareSides_9 (by decide) ?_
  obtain ⟨g3, hf⟩ := grd hf
  refine mm_iald hx hb hKK hP (kdC_lt h2 (Nat.succ_ne_zero _)) h2 g3 dX4_compareSides_10 ?_
  refine lv_aload_n hx hb dX4_compareSides_11 rfl (lv_at hl 2 rfl) ?_
  refine lv_iconst (v := (5 : Int32)) hx hb dX4_compareSides_12 (by decide) ?_
  obtain ⟨g4, hf⟩ := grd hf
  refine mm_iald hx hb hKK hP (kdC_lt h2 (Nat.succ_ne_zero _)) h2 g4 dX4_compareSides_13 ?_
  refine lv_aload_n hx hb dX4_compareSides_14 rfl (lv_at hl 2 rfl) ?_
  refine lv_bipush (v := (6 : Int32)) hx hb dX4_compareSides_15 (by decide) ?_
  obtain ⟨g5, hf⟩ := grd hf
  refine mm_iald hx hb hKK hP (kdC_lt h2 (Nat.succ_ne_zero _)) h2 g5 dX4_compareSides_17 ?_
  obtain ⟨I6, e6, hf⟩ := bd1_o hf
  refine mm_Vv (rest := []) hx hb hml hown hts hKK hP hS hA (kdC_lt t1 (Nat.succ_ne_zero _)) t1 (show vwCl[6]? = some (yX6_countIn.cls, TX6, 1) from rfl) vkX4_34 (k_X6_countIn l D ce b I L R hT (R x0 0) (R x1 0) (I x2 ((4 : Int32)).toNatClampNeg) (I x2 ((5 : Int32)).toNatClampNeg) (I x2 ((6 : Int32)).toNatClampNeg) t1 t2 I6 e6) rfl hl.1 rfl (Nat.le_of_ble_eq_true rfl) ⟨rfl, rfl⟩ ⟨Nat.le_of_ble_eq_true rfl, Nat.le_of_ble_eq_true rfl⟩ ⟨Nat.zero_le _, Nat.zero_le _⟩ dX4_compareSides_18 (fun H locs hP hT hS => ?_)
  refine lv_aload_n hx hb dX4_compareSides_21 rfl (lv_at hl 0 rfl) ?_
  have t7 : kdC (R x0 1) = 12 := wt hT h0 rfl
  refine mm_getr hx hb hts hown hKK hP fk4_1 (Nat.le_of_ble_eq_true rfl) lkX4_18 (kdC_lt h0 (Nat.succ_ne_zero _)) h0 (nC t7 (Nat.succ_ne_zero _)) dX4_compareSides_22 ?_
  refine lv_aload_n hx hb dX4_compareSides_25 rfl (lv_at hl 1 rfl) ?_
  have t8 : kdC (R x1 1) = 14 := wt hT h1 rfl
  refine mm_getr hx hb hts hown hKK hP fk3_1 (Nat.le_of_ble_eq_true rfl) lkX4_38 (kdC_lt h1 (Nat.succ_ne_zero _)) h1 (nC t8 (Nat.succ_ne_zero _)) dX4_compareSides_26 ?_
  refine lv_aload_n hx hb dX4_compareSides_29 rfl (lv_at hl 2 rfl) ?_
  refine lv_iconst (v := (4 : Int32)) hx hb dX4_compareSides_30 (by decide) ?_
  refine mm_iald hx hb hKK hP (kdC_lt h2 (Nat.succ_ne_zero _)) h2 g3 dX4_compareSides_31 ?_
  refine lv_aload_n hx hb dX4_compareSides_32 rfl (lv_at hl 2 rfl) ?_
  refine lv_iconst (v := (5 : Int32)) hx hb dX4_compareSides_33 (by decide) ?_
  refine mm_iald hx hb hKK hP (kdC_lt h2 (Nat.succ_ne_zero _)) h2 g4 dX4_compareSides_34 ?_
  refine lv_aload_n hx hb dX4_compareSides_35 rfl (lv_at hl 2 rfl) ?_
  refine lv_bipush (v := (6 : Int32)) hx hb dX4_compareSides_36 (by decide) ?_
  refine mm_iald hx hb hKK hP (kdC_lt h2 (Nat.succ_ne_zero _)) h2 g5 dX4_compareSides_38 ?_
  obtain ⟨I9, e9, hf⟩ := bd1_o hf
  refine mm_Vv (rest := []) hx hb hml hown hts hKK hP hS hA (kdC_lt t7 (Nat.succ_ne_zero _)) t7 (show vwCl[6]? = some (yX6_countIn.cls, TX6, 1) from rfl) vkX4_34 (k_X6_countIn l D ce b I6 L R hT (R x0 1) (R x1 1) (I6 x2 ((4 : Int32)).toNatClampNeg) (I6 x2 ((5 : Int32)).toNatClampNeg) (I6 x2 ((6 : Int32)).toNatClampNeg) t7 t8 I9 e9) rfl hl.1 rfl (Nat.le_of_ble_eq_true rfl) ⟨rfl, rfl⟩ ⟨Nat.le_of_ble_eq_true rfl, Nat.le_of_ble_eq_true rfl⟩ ⟨Nat.zero_le _, Nat.zero_le _⟩ dX4_compareSides_39 (fun H locs hP hT hS => ?_)
  refine lv_aload_n hx hb dX4_compareSides_42 rfl (lv_at hl 0 rfl) ?_
  refine lv_iconst (v := (0 : Int32)) hx hb dX4_compareSides_43 (by decide) ?_
  refine jnE hf (fun I10 eI10 hf => ?_)
  refine mm_puti hx hb hts hown hKK hP hA hS fk4_4 (Or.inl rfl) fw4_4 lkX4_40 (kdC_lt h0 (Nat.succ_ne_zero _)) h0 rfl rfl dX4_compareSides_44 (fun H locs hP hS => ?_)
  rw [← eI10] at hP
  refine lv_aload_n hx hb dX4_compareSides_47 rfl (lv_at hl 0 rfl) ?_
  refine lv_iconst (v := (0 : Int32)) hx hb dX4_compareSides_48 (by decide) ?_
  refine lv_iconst (v := (1 : Int32)) hx hb dX4_compareSides_49 (by decide) ?_
  obtain ⟨r11, I11, e11, hf⟩ := bd2_o hf
  refine mm_Vi (rest := []) hx hb hml hown hts hKK hP hS hA (kdC_lt h0 (Nat.succ_ne_zero _)) h0 (show vwCl[4]? = some (yX4_addRow.cls, TX4, 5) from rfl) vkX4_44 (k_X4_addRow l D ce b I10 L R hT x0 (0 : Int32) (1 : Int32) h0 r11 I11 e11) rfl hl.1 rfl (Nat.le_of_ble_eq_true rfl) ⟨rfl, rfl⟩ ⟨Nat.le_of_ble_eq_true rfl, Nat.le_of_ble_eq_true rfl⟩ ⟨Nat.zero_le _, Nat.zero_le _⟩ dX4_compareSides_50 (fun H locs hP hT hS => ?_)
  refine lv_if_ne (tgt := 58) hx hb dX4_compareSides_53 (by decide) (fun c12 => ?_) (fun c12 => ?_)
  · have hf := ifF hf c12
    refine lv_aload_n hx hb dX4_compareSides_58 rfl (lv_at hl 0 rfl) ?_
    refine lv_iconst (v := (0 : Int32)) hx hb dX4_compareSides_59 (by decide) ?_
    refine lv_aload_n hx hb dX4_compareSides_60 rfl (lv_at hl 2 rfl) ?_
    refine lv_iconst (v := (0 : Int32)) hx hb dX4_compareSides_61 (by decide) ?_
    obtain ⟨g13, hf⟩ := grd hf
    refine mm_iald hx hb hKK hP (kdC_lt h2 (Nat.succ_ne_zero _)) h2 g13 dX4_compareSides_62 ?_
    refine lv_aload_n hx hb dX4_compareSides_63 rfl (lv_at hl 2 rfl) ?_
    refine lv_iconst (v := (1 : Int32)) hx hb dX4_compareSides_64 (by decide) ?_
    obtain ⟨g14, hf⟩ := grd hf
    refine mm_iald hx hb hKK hP (kdC_lt h2 (Nat.succ_ne_zero _)) h2 g14 dX4_compareSides_65 ?_
    refine lv_aload_n hx hb dX4_compareSides_66 rfl (lv_at hl 2 rfl) ?_
    refine lv_iconst (v := (2 : Int32)) hx hb dX4_compareSides_67 (by decide) ?_
    obtain ⟨g15, hf⟩ := grd hf
    refine mm_iald hx hb hKK hP (kdC_lt h2 (Nat.succ_ne_zero _)) h2 g15 dX4_compareSides_68 ?_
    refine lv_aload_n hx hb dX4_compareSides_69 rfl (lv_at hl 2 rfl) ?_
    refine lv_iconst (v := (3 : Int32)) hx hb dX4_compareSides_70 (by decide) ?_
    obtain ⟨g16, hf⟩ := grd hf
    refine mm_iald hx hb hKK hP (kdC_lt h2 (Nat.succ_ne_zero _)) h2 g16 dX4_compareSides_71 ?_
    obtain ⟨r17, e17, hf⟩ := bd1_o hf
    refine mm_Vi (rest := []) hx hb hml hown hts hKK hP hS hA (kdC_lt h0 (Nat.succ_ne_zero _)) h0 (show vwCl[4]? = some (yX4_sumOfRow.cls, TX4, 5) from rfl) vkX4_48 (k_X4_sumOfRow l D ce b I11 L R hT x0 (0 : Int32) (I11 x2 ((0 : Int32)).toNatClampNeg) (I11 x2 ((1 : Int32)).toNatClampNeg) (I11 x2 ((2 : Int32)).toNatClampNeg) (I11 x2 ((3 : Int32)).toNatClampNeg) h0 r17 e17) rfl hl.1 rfl (Nat.le_of_ble_eq_true rfl) ⟨rfl, rfl⟩ ⟨Nat.le_of_ble_eq_true rfl, Nat.le_of_ble_eq_true rfl⟩ ⟨Nat.zero_le _, Nat.zero_le _⟩ dX4_compareSides_72 (fun H locs hP hT hS => ?_)
    refine lv_istore_n (lv' := [(3, .int r17), (0, .ref (b + x0)), (1, .ref (b + x1)), (2, .ref (b + x2))]) hx hb dX4_compareSides_75 rfl hl (Nat.le_of_ble_eq_true rfl) rfl (fun ls hl => ?_)
    refine lv_iload_n hx hb dX4_compareSides_76 rfl (lv_at hl 0 rfl) ?_
    refine lv_if_le (tgt := 82) hx hb dX4_compareSides_77 (by decide) (fun c18 => ?_) (fun c18 => ?_)
    · have hf := ifT hf c18
      refine lv_iload_n hx hb dX4_compareSides_82 rfl (lv_at hl 0 rfl) ?_
      refine lv_if_ne (tgt := 90) hx hb dX4_compareSides_83 (by decide) (fun c19 => ?_) (fun c19 => ?_)
      · have hf := ifF hf c19
        refine lv_iconst (v := (0 : Int32)) hx hb dX4_compareSides_90 (by decide) ?_
        exact hret (0 : Int32) I11 hf H locs ls _ dX4_compareSides_91 hP hT hS
      · have hf := ifT hf c19
        refine lv_iconst (v := (1 : Int32)) hx hb dX4_compareSides_86 (by decide) ?_
        refine lv_goto (tgt := 91) hx hb dX4_compareSides_87 (by decide) ?_
        exact hret (1 : Int32) I11 hf H locs ls _ dX4_compareSides_91 hP hT hS
    · have hf := ifF hf c18
      refine lv_iconst (v := (2 : Int32)) hx hb dX4_compareSides_80 (by decide) ?_
      exact hret (2 : Int32) I11 hf H locs ls _ dX4_compareSides_81 hP hT hS
  · have hf := ifT hf c12
    refine lv_iconst (v := (0 : Int32)) hx hb dX4_compareSides_56 (by decide) ?_
    exact hret (0 : Int32) I11 hf H locs ls _ dX4_compareSides_57 hP hT hS
def rmX10_weighs : Room := { frames := 3, cells := 0, slots := 0, locals := 73 }
set_option maxHeartbeats 4000000 in
set_option maxRecDepth 100000 in
theorem k_X10_weighs (l : Launch) (D : va_G) (ce : Nat → ClassId) (b : Nat) (I : mI) (L : mL) (R : mR) (hT : WT kdC R) (x0 : Nat) (x1 : Int32) (x2 : Int32) (h0 : kdC x0 = 16) (o1 : Int32) (o2 : mI) (hf : f_X10_weighs x0 x1 x2 I R = some (o1, o2)) : Met l yX10_weighs (Cond.code yX10_weighs cX10_weighs 3 (some .int) :: GW) rmX10_weighs (va_Pc [.ref (b + x0), .int x1, .int x2] (PW D ce b kdC lnC 272 I L R)) (va_Qi (fun r u => r = o1 ∧ u = (o2, L, R)) (QW D ce b kdC lnC 272) (box b 272)) 0 0 (box b 272) := by
  refine Met.ofW (cc := cX10_weighs) (maxL := 3) (ret := (some .int)) (by decide) rfl ?_
  intro p e s m args below meth c s₁ B hml hv
  obtain ⟨rfl, hP, hKK⟩ := hv
  have hx := B.exec
  have hb := B.bytes
  have hr := B.returns
  have hts0 := atoms_spec (ws := Cond.code yX10_weighs cX10_weighs 3 (some .int) :: GW) B.pre
  have hts : ∀ w ∈ GW, w.before _ s = true := fun w h => hts0 w (List.mem_cons_of_mem _ h)
  clear hts0
  have hown : s.vm.findClass RX10 = some m.cls := findClass_of_methodNamed B.named
  have hlocks := B.notSynchronized
  have hA : ∀ q, box b 272 q → box b 272 q := fun _ h => h
  have hS : va_S (box b 272) s.heap s.heap [] := va_S.rf
  have hl := lv_entry ([.ref (b + x0), .int x1, .int x2]) (n := 3) (Nat.le_of_ble_eq_true rfl)
  rw [lg_entry_eq]
  generalize (lg_sl ([.ref (b + x0), .int x1, .int x2]) ++ List.replicate (3 - (lg_sl ([.ref (b + x0), .int x1, .int x2])).length) Slot.unset).toArray = ls at hl ⊢
  have hl : lv_has ls 3 [(0, .ref (b + x0)), (1, .int x1), (2, .int x2)] := hl
  generalize ([.ref (b + x0), .int x1, .int x2] : List Value).toArray = av at hts ⊢
  show W p l e rmX10_weighs s m av below meth c s.heap [] 0 0 _ _
  obtain ⟨QQ, hQQ⟩ : ∃ z, z = MQ below (va_Qi (fun r u => r = o1 ∧ u = (o2, L, R)) (QW D ce b kdC lnC 272) (box b 272)) av s 0 0 (box b 272) := ⟨_, rfl⟩
  rw [← hQQ]
  have hret : ∀ (r : Int32) (I1 : mI), some (r, I1) = some (o1, o2) → ∀ (H1 : Heap) (locs1 : List Loc) (ls1 : Array Slot) (pc1 : Nat), decode cX10_weighs pc1 = .ok (.ireturn, 1) → va_P D vwCl (wd ce b kdC lnC 272 I1 L R) H1 → WT kdC R → va_S (box b 272) s.heap H1 locs1 → W p l e rmX10_weighs s m av below meth c H1 locs1 0 0 QQ (F0 m pc1 ls1 [.int r]) := by
    intro r I1 hq H1 locs1 ls1 pc1 hd hP hT hS
    cases hq
    rw [hQQ]
    exact mm_iret hx hb hr hlocks hP hT hS hd
  unfold f_X10_weighs at hf
  obtain ⟨H, hH⟩ : ∃ z, z = s.heap := ⟨_, rfl⟩
  obtain ⟨locs, hlo⟩ : ∃ z : List Loc, z = [] := ⟨_, rfl⟩
  have hP : va_P D vwCl (wd ce b kdC lnC 272 I L R) H := by rw [hH]; exact hP
  have hS : va_S (box b 272) s.heap H locs := by rw [hH, hlo]; exact hS
  rw [show W p l e rmX10_weighs s m av below meth c s.heap [] 0 0 QQ = W p l e rmX10_weighs s m av below meth c H locs 0 0 QQ by rw [hH, hlo]]
  clear hH hlo
  clear hQQ
  show W p l e rmX10_weighs s m av below meth c H locs 0 0 QQ (F0 m 0 ls [])
  refine lv_aload_n hx hb dX10_weighs_0 rfl (lv_at hl 0 rfl) ?_
  refine lv_iload_n hx hb dX10_weighs_1 rfl (lv_at hl 1 rfl) ?_
  obtain ⟨r1, I1, e1, hf⟩ := bd2_o hf
  refine mm_Vi (rest := []) hx hb hml hown hts hKK hP hS hA (kdC_lt h0 (Nat.succ_ne_zero _)) h0 (show vwCl[10]? = some (yX10_splitFigures.cls, TX10, 15) from rfl) vkX10_175 (k_X10_splitFigures l D ce b I L R hT x0 x1 h0 r1 I1 e1) rfl hl.1 rfl (Nat.le_of_ble_eq_true rfl) ⟨rfl, rfl⟩ ⟨Nat.le_of_ble_eq_true rfl, Nat.le_of_ble_eq_true rfl⟩ ⟨Nat.zero_le _, Nat.zero_le _⟩ dX10_weighs_2 (fun H locs hP hT hS => ?_)
  refine jnE hf (fun j16_2 ej_2 hf => ?_)
  have hJ16_2 : ∀ (H : Heap) (locs : List Loc) (ls : Array Slot), va_P D vwCl (wd ce b kdC lnC 272 I1 L R) H → va_S (box b 272) s.heap H locs → lv_has ls 3 [(0, .ref (b + x0))] → j16_2  = some (o1, o2) → W p l e rmX10_weighs s m av below meth c H locs 0 0 QQ (F0 m 16 ls []) := by
    intro  H locs ls hP hS  hl hf
    rw [ej_2] at hf
    try dsimp only at hf
    refine lv_aload_n hx hb dX10_weighs_16 rfl (lv_at hl 0 rfl) ?_
    obtain ⟨r3, I3, e3, hf⟩ := bd2_o hf
    refine mm_Vi (rest := []) hx hb hml hown hts hKK hP hS hA (kdC_lt h0 (Nat.succ_ne_zero _)) h0 (show vwCl[10]? = some (yX10_refuseBad.cls, TX10, 15) from rfl) vkX10_81 (k_X10_refuseBad l D ce b I1 L R hT x0 h0 r3 I3 e3) rfl hl.1 rfl (Nat.le_of_ble_eq_true rfl) ⟨rfl, rfl⟩ ⟨Nat.le_of_ble_eq_true rfl, Nat.le_of_ble_eq_true rfl⟩ ⟨Nat.zero_le _, Nat.zero_le _⟩ dX10_weighs_17 (fun H locs hP hT hS => ?_)
    exact hret r3 I3 hf H locs ls _ dX10_weighs_20 hP hT hS
  clear ej_2
  refine lv_if_eq (tgt := 16) hx hb dX10_weighs_5 (by decide) (fun c4 => ?_) (fun c4 => ?_)
  · have hf := ifT hf c4
    exact hJ16_2  H locs ls hP hS  (lv_sub hl [0] rfl) hf
  · have hf := ifF hf c4
    refine lv_aload_n hx hb dX10_weighs_8 rfl (lv_at hl 0 rfl) ?_
    refine lv_iload_n hx hb dX10_weighs_9 rfl (lv_at hl 2 rfl) ?_
    obtain ⟨r5, e5, hf⟩ := bd1_o hf
    refine mm_Vi (rest := []) hx hb hml hown hts hKK hP hS hA (kdC_lt h0 (Nat.succ_ne_zero _)) h0 (show vwCl[10]? = some (yX10_isRule.cls, TX10, 15) from rfl) vkX10_122 (k_X10_isRule l D ce b I1 L R hT x0 x2 h0 r5 e5) rfl hl.1 rfl (Nat.le_of_ble_eq_true rfl) ⟨rfl, rfl⟩ ⟨Nat.le_of_ble_eq_true rfl, Nat.le_of_ble_eq_true rfl⟩ ⟨Nat.zero_le _, Nat.zero_le _⟩ dX10_weighs_10 (fun H locs hP hT hS => ?_)
    refine lv_if_ne (tgt := 21) hx hb dX10_weighs_13 (by decide) (fun c6 => ?_) (fun c6 => ?_)
    · have hf := ifF hf c6
      refine lv_aload_n hx hb dX10_weighs_21 rfl (lv_at hl 0 rfl) ?_
      have t7 : kdC (R x0 5) = 10 := wt hT h0 rfl
      refine mm_getr hx hb hts hown hKK hP fk10_5 (Nat.le_of_ble_eq_true rfl) lkX10_47 (kdC_lt h0 (Nat.succ_ne_zero _)) h0 (nC t7 (Nat.succ_ne_zero _)) dX10_weighs_22 ?_
      refine lv_aload_n hx hb dX10_weighs_25 rfl (lv_at hl 0 rfl) ?_
      have t8 : kdC (R x0 0) = 13 := wt hT h0 rfl
      refine mm_getr hx hb hts hown hKK hP fk10_0 (Nat.le_of_ble_eq_true rfl) lkX10_10 (kdC_lt h0 (Nat.succ_ne_zero _)) h0 (nC t8 (Nat.succ_ne_zero _)) dX10_weighs_26 ?_
      have t9 : kdC (R (R x0 0) 0) = 4 := wt hT t8 rfl
      refine mm_getr hx hb hts hown hKK hP fk7_0 (Nat.le_of_ble_eq_true rfl) lkX10_132 (kdC_lt t8 (Nat.succ_ne_zero _)) t8 (nC t9 (Nat.succ_ne_zero _)) dX10_weighs_29 ?_
      refine lv_iload_n hx hb dX10_weighs_32 rfl (lv_at hl 2 rfl) ?_
      obtain ⟨g10, hf⟩ := grd hf
      have t11 : kdC (R (R (R x0 0) 0) x2.toNatClampNeg) = 9 := wt hT t9 rfl
      refine mm_aald4 hx hb hKK hP (kdC_lt t9 (Nat.succ_ne_zero _)) t9 g10 (nC t11 (Nat.succ_ne_zero _)) dX10_weighs_33 ?_
      refine lv_aload_n hx hb dX10_weighs_34 rfl (lv_at hl 0 rfl) ?_
      have t12 : kdC (R x0 8) = 1 := wt hT h0 rfl
      refine mm_getr hx hb hts hown hKK hP fk10_8 (Nat.le_of_ble_eq_true rfl) lkX10_67 (kdC_lt h0 (Nat.succ_ne_zero _)) h0 (nC t12 (Nat.succ_ne_zero _)) dX10_weighs_35 ?_
      obtain ⟨r13, I13, e13, hf⟩ := bd2_o hf
      refine mm_Vi (rest := []) hx hb hml hown hts hKK hP hS hA (kdC_lt t7 (Nat.succ_ne_zero _)) t7 (show vwCl[4]? = some (yX4_compareSides.cls, TX4, 5) from rfl) vkX10_178 (k_X4_compareSides l D ce b I1 L R hT (R x0 5) (R (R (R x0 0) 0) x2.toNatClampNeg) (R x0 8) t7 t11 t12 r13 I13 e13) rfl hl.1 rfl (Nat.le_of_ble_eq_true rfl) ⟨rfl, rfl⟩ ⟨Nat.le_of_ble_eq_true rfl, Nat.le_of_ble_eq_true rfl⟩ ⟨Nat.zero_le _, Nat.zero_le _⟩ dX10_weighs_38 (fun H locs hP hT hS => ?_)
      exact hret r13 I13 hf H locs ls _ dX10_weighs_41 hP hT hS
    · have hf := ifT hf c6
      exact hJ16_2  H locs ls hP hS  (lv_sub hl [0] rfl) hf
def rmX4_totalAt : Room := { frames := 0, cells := 0, slots := 0, locals := 0 }
set_option maxHeartbeats 4000000 in
set_option maxRecDepth 100000 in
theorem k_X4_totalAt (l : Launch) (D : va_G) (ce : Nat → ClassId) (b : Nat) (I : mI) (L : mL) (R : mR) (hT : WT kdC R) (x0 : Nat) (x1 : Nat) (x2 : Int32) (h0 : kdC x0 = 10) (h1 : kdC x1 = 14) (o1 : Int64) (hf : f_X4_totalAt x0 x1 x2 I L R = some o1) : Met l yX4_totalAt (Cond.code yX4_totalAt cX4_totalAt 3 (some .long) :: GW) rmX4_totalAt (va_Pc [.ref (b + x0), .ref (b + x1), .int x2] (PW D ce b kdC lnC 272 I L R)) (va_Ql (fun r u => r = o1 ∧ u = (I, L, R)) (QW D ce b kdC lnC 272) (box b 272)) 0 0 (box b 272) := by
  refine Met.ofW (cc := cX4_totalAt) (maxL := 3) (ret := (some .long)) (by decide) rfl ?_
  intro p e s m args below meth c s₁ B hml hv
  obtain ⟨rfl, hP, hKK⟩ := hv
  have hx := B.exec
  have hb := B.bytes
  have hr := B.returns
  have hts0 := atoms_spec (ws := Cond.code yX4_totalAt cX4_totalAt 3 (some .long) :: GW) B.pre
  have hts : ∀ w ∈ GW, w.before _ s = true := fun w h => hts0 w (List.mem_cons_of_mem _ h)
  clear hts0
  have hown : s.vm.findClass RX4 = some m.cls := findClass_of_methodNamed B.named
  have hlocks := B.notSynchronized
  have hA : ∀ q, box b 272 q → box b 272 q := fun _ h => h
  have hS : va_S (box b 272) s.heap s.heap [] := va_S.rf
  have hl := lv_entry ([.ref (b + x0), .ref (b + x1), .int x2]) (n := 3) (Nat.le_of_ble_eq_true rfl)
  rw [lg_entry_eq]
  generalize (lg_sl ([.ref (b + x0), .ref (b + x1), .int x2]) ++ List.replicate (3 - (lg_sl ([.ref (b + x0), .ref (b + x1), .int x2])).length) Slot.unset).toArray = ls at hl ⊢
  have hl : lv_has ls 3 [(0, .ref (b + x0)), (1, .ref (b + x1)), (2, .int x2)] := hl
  generalize ([.ref (b + x0), .ref (b + x1), .int x2] : List Value).toArray = av at hts ⊢
  show W p l e rmX4_totalAt s m av below meth c s.heap [] 0 0 _ _
  obtain ⟨QQ, hQQ⟩ : ∃ z, z = MQ below (va_Ql (fun r u => r = o1 ∧ u = (I, L, R)) (QW D ce b kdC lnC 272) (box b 272)) av s 0 0 (box b 272) := ⟨_, rfl⟩
  rw [← hQQ]
  have hret : ∀ (r : Int64), some r = some o1 → ∀ (H1 : Heap) (locs1 : List Loc) (ls1 : Array Slot) (pc1 : Nat), decode cX4_totalAt pc1 = .ok (.lreturn, 1) → va_P D vwCl (wd ce b kdC lnC 272 I L R) H1 → WT kdC R → va_S (box b 272) s.heap H1 locs1 → W p l e rmX4_totalAt s m av below meth c H1 locs1 0 0 QQ (F0 m pc1 ls1 [.long r]) := by
    intro r hq H1 locs1 ls1 pc1 hd hP hT hS
    cases hq
    rw [hQQ]
    exact mm_lret hx hb hr hlocks hP hT hS hd
  unfold f_X4_totalAt at hf
  obtain ⟨H, hH⟩ : ∃ z, z = s.heap := ⟨_, rfl⟩
  obtain ⟨locs, hlo⟩ : ∃ z : List Loc, z = [] := ⟨_, rfl⟩
  have hP : va_P D vwCl (wd ce b kdC lnC 272 I L R) H := by rw [hH]; exact hP
  have hS : va_S (box b 272) s.heap H locs := by rw [hH, hlo]; exact hS
  rw [show W p l e rmX4_totalAt s m av below meth c s.heap [] 0 0 QQ = W p l e rmX4_totalAt s m av below meth c H locs 0 0 QQ by rw [hH, hlo]]
  clear hH hlo
  clear hQQ
  show W p l e rmX4_totalAt s m av below meth c H locs 0 0 QQ (F0 m 0 ls [])
  refine lv_iload_n hx hb dX4_totalAt_0 rfl (lv_at hl 2 rfl) ?_
  refine jnE hf (fun j21_1 ej_1 hf => ?_)
  have hJ21_1 : ∀ (H : Heap) (locs : List Loc) (ls : Array Slot), va_P D vwCl (wd ce b kdC lnC 272 I L R) H → va_S (box b 272) s.heap H locs → lv_has ls 3 [] → j21_1  = some o1 → W p l e rmX4_totalAt s m av below meth c H locs 0 0 QQ (F0 m 21 ls []) := by
    intro  H locs ls hP hS  hl hf
    rw [ej_1] at hf
    try dsimp only at hf
    refine lv_lconst (v := (0 : Int64)) hx hb dX4_totalAt_21 (by decide) ?_
    exact hret (0 : Int64) hf H locs ls _ dX4_totalAt_22 hP hT hS
  clear ej_1
  refine lv_if_lt (tgt := 21) hx hb dX4_totalAt_1 (by decide) (fun c2 => ?_) (fun c2 => ?_)
  · have hf := ifT hf c2
    exact hJ21_1  H locs ls hP hS  (lv_sub hl [] rfl) hf
  · have hf := ifF hf c2
    refine lv_iload_n hx hb dX4_totalAt_4 rfl (lv_at hl 2 rfl) ?_
    refine lv_aload_n hx hb dX4_totalAt_5 rfl (lv_at hl 1 rfl) ?_
    refine mm_geti hx hb hts hown hKK hP fk8_2 (Or.inl rfl) lkX4_52 (kdC_lt h1 (Nat.succ_ne_zero _)) h1 dX4_totalAt_6 ?_
    refine lv_icmp_ge (tgt := 21) hx hb dX4_totalAt_9 (by decide) (fun c3 => ?_) (fun c3 => ?_)
    · have hf := ifT hf c3
      exact hJ21_1  H locs ls hP hS  (lv_sub hl [] rfl) hf
    · have hf := ifF hf c3
      refine lv_aload_n hx hb dX4_totalAt_12 rfl (lv_at hl 0 rfl) ?_
      have t4 : kdC (R x0 3) = 2 := wt hT h0 rfl
      refine mm_getr hx hb hts hown hKK hP fk4_3 (Nat.le_of_ble_eq_true rfl) lkX4_25 (kdC_lt h0 (Nat.succ_ne_zero _)) h0 (nC t4 (Nat.succ_ne_zero _)) dX4_totalAt_13 ?_
      refine lv_iload_n hx hb dX4_totalAt_16 rfl (lv_at hl 2 rfl) ?_
      obtain ⟨g5, hf⟩ := grd hf
      refine mm_lald hx hb hKK hP (kdC_lt t4 (Nat.succ_ne_zero _)) t4 g5 dX4_totalAt_17 ?_
      refine lv_goto (tgt := 22) hx hb dX4_totalAt_18 (by decide) ?_
      exact hret (L (R x0 3) x2.toNatClampNeg) hf H locs ls _ dX4_totalAt_22 hP hT hS
def rmX4_weightLeftOver : Room := { frames := 1, cells := 0, slots := 0, locals := 22 }
set_option maxHeartbeats 4000000 in
set_option maxRecDepth 100000 in
theorem k_X4_weightLeftOver (l : Launch) (D : va_G) (ce : Nat → ClassId) (b : Nat) (I : mI) (L : mL) (R : mR) (hT : WT kdC R) (x0 : Nat) (x1 : Nat) (x2 : Nat) (h0 : kdC x0 = 10) (h1 : kdC x1 = 14) (h2 : kdC x2 = 1) (o1 : Int32) (o2 : mL) (hf : f_X4_weightLeftOver x0 x1 x2 I L R = some (o1, o2)) : Met l yX4_weightLeftOver (Cond.code yX4_weightLeftOver cX4_weightLeftOver 7 (some .int) :: GW) rmX4_weightLeftOver (va_Pc [.ref (b + x0), .ref (b + x1), .ref (b + x2)] (PW D ce b kdC lnC 272 I L R)) (va_Qi (fun r u => r = o1 ∧ u = (I, o2, R)) (QW D ce b kdC lnC 272) (box b 272)) 0 0 (box b 272) := by
  refine Met.ofW (cc := cX4_weightLeftOver) (maxL := 7) (ret := (some .int)) (by decide) rfl ?_
  intro p e s m args below meth c s₁ B hml hv
  obtain ⟨rfl, hP, hKK⟩ := hv
  have hx := B.exec
  have hb := B.bytes
  have hr := B.returns
  have hts0 := atoms_spec (ws := Cond.code yX4_weightLeftOver cX4_weightLeftOver 7 (some .int) :: GW) B.pre
  have hts : ∀ w ∈ GW, w.before _ s = true := fun w h => hts0 w (List.mem_cons_of_mem _ h)
  clear hts0
  have hown : s.vm.findClass RX4 = some m.cls := findClass_of_methodNamed B.named
  have hlocks := B.notSynchronized
  have hA : ∀ q, box b 272 q → box b 272 q := fun _ h => h
  have hS : va_S (box b 272) s.heap s.heap [] := va_S.rf
  have hl := lv_entry ([.ref (b + x0), .ref (b + x1), .ref (b + x2)]) (n := 7) (Nat.le_of_ble_eq_true rfl)
  rw [lg_entry_eq]
  generalize (lg_sl ([.ref (b + x0), .ref (b + x1), .ref (b + x2)]) ++ List.replicate (7 - (lg_sl ([.ref (b + x0), .ref (b + x1), .ref (b + x2)])).length) Slot.unset).toArray = ls at hl ⊢
  have hl : lv_has ls 7 [(0, .ref (b + x0)), (1, .ref (b + x1)), (2, .ref (b + x2))] := hl
  generalize ([.ref (b + x0), .ref (b + x1), .ref (b + x2)] : List Value).toArray = av at hts ⊢
  show W p l e rmX4_weightLeftOver s m av below meth c s.heap [] 0 0 _ _
  obtain ⟨QQ, hQQ⟩ : ∃ z, z = MQ below (va_Qi (fun r u => r = o1 ∧ u = (I, o2, R)) (QW D ce b kdC lnC 272) (box b 272)) av s 0 0 (box b 272) := ⟨_, rfl⟩
  rw [← hQQ]
  have hret : ∀ (r : Int32) (L1 : mL), some (r, L1) = some (o1, o2) → ∀ (H1 : Heap) (locs1 : List Loc) (ls1 : Array Slot) (pc1 : Nat), decode cX4_weightLeftOver pc1 = .ok (.ireturn, 1) → va_P D vwCl (wd ce b kdC lnC 272 I L1 R) H1 → WT kdC R → va_S (box b 272) s.heap H1 locs1 → W p l e rmX4_weightLeftOver s m av below meth c H1 locs1 0 0 QQ (F0 m pc1 ls1 [.int r]) := by
    intro r L1 hq H1 locs1 ls1 pc1 hd hP hT hS
    cases hq
    rw [hQQ]
    exact mm_iret hx hb hr hlocks hP hT hS hd
  unfold f_X4_weightLeftOver at hf
  obtain ⟨H, hH⟩ : ∃ z, z = s.heap := ⟨_, rfl⟩
  obtain ⟨locs, hlo⟩ : ∃ z : List Loc, z = [] := ⟨_, rfl⟩
  have hP : va_P D vwCl (wd ce b kdC lnC 272 I L R) H := by rw [hH]; exact hP
  have hS : va_S (box b 272) s.heap H locs := by rw [hH, hlo]; exact hS
  rw [show W p l e rmX4_weightLeftOver s m av below meth c s.heap [] 0 0 QQ = W p l e rmX4_weightLeftOver s m av below meth c H locs 0 0 QQ by rw [hH, hlo]]
  clear hH hlo
  clear hQQ
  show W p l e rmX4_weightLeftOver s m av below meth c H locs 0 0 QQ (F0 m 0 ls [])
  refine lv_aload_n hx hb dX4_weightLeftOver_0 rfl (lv_at hl 1 rfl) ?_
  refine mm_geti hx hb hts hown hKK hP fk8_2 (Or.inl rfl) lkX4_52 (kdC_lt h1 (Nat.succ_ne_zero _)) h1 dX4_weightLeftOver_1 ?_
  refine lv_iconst (v := (1 : Int32)) hx hb dX4_weightLeftOver_4 (by decide) ?_
  refine lv_isub hx hb dX4_weightLeftOver_5 ?_
  refine lv_istore_n (lv' := [(3, .int ((I x1 2) - (1 : Int32))), (0, .ref (b + x0)), (1, .ref (b + x1)), (2, .ref (b + x2))]) hx hb dX4_weightLeftOver_6 rfl hl (Nat.le_of_ble_eq_true rfl) rfl (fun ls hl => ?_)
  have lp7 : ∀ (n : Nat) (x0 : Nat) (x1 : Nat) (x2 : Nat) (x3 : Int32) (I : mI) (L : mL) (R : mR) (a1 : mL) (H : Heap) (locs : List Loc) (ls : Array Slot), va_P D vwCl (wd ce b kdC lnC 272 I L R) H → va_S (box b 272) s.heap H locs → WT kdC R → kdC x0 = 10 → kdC x1 = 14 → kdC x2 = 1 → lv_has ls 7 [(0, .ref (b + x0)), (1, .ref (b + x1)), (2, .ref (b + x2)), (3, .int x3)] → f_X4_weightLeftOver_L7 n x0 x1 x2 x3 I L R = some a1 → (∀ (H1 : Heap) (locs1 : List Loc) (ls1 : Array Slot), va_P D vwCl (wd ce b kdC lnC 272 I a1 R) H1 → va_S (box b 272) s.heap H1 locs1 → lv_has ls1 7 [(0, .ref (b + x0))] → W p l e rmX4_weightLeftOver s m av below meth c H1 locs1 0 0 QQ (F0 m 157 ls1 [])) → W p l e rmX4_weightLeftOver s m av below meth c H locs 0 0 QQ (F0 m 7 ls []) := by
    intro n
    induction n with
    | zero =>
      intro x0 x1 x2 x3 I L R a1 H locs ls hP hS hT h0 h1 h2 hl hf kx
      exact absurd (show (none : Option (mL)) = some _ from hf) (by simp)
    | succ n ih =>
      intro x0 x1 x2 x3 I L R a1 H locs ls hP hS hT h0 h1 h2 hl hf kx
      rw [f_X4_weightLeftOver_L7] at hf
      refine lv_iload_n hx hb dX4_weightLeftOver_7 rfl (lv_at hl 3 rfl) ?_
      refine lv_if_lt (tgt := 157) hx hb dX4_weightLeftOver_8 (by decide) (fun c1 => ?_) (fun c1 => ?_)
      · have hf := ifT hf c1
        cases hf
        exact kx H locs ls hP hS (lv_sub hl [0] rfl)
      · have hf := ifF hf c1
        refine lv_aload_n hx hb dX4_weightLeftOver_11 rfl (lv_at hl 1 rfl) ?_
        have t2 : kdC (R x1 0) = 1 := wt hT h1 rfl
        refine mm_getr hx hb hts hown hKK hP fk8_0 (Nat.le_of_ble_eq_true rfl) lkX4_57 (kdC_lt h1 (Nat.succ_ne_zero _)) h1 (nC t2 (Nat.succ_ne_zero _)) dX4_weightLeftOver_12 ?_
        refine lv_iload_n hx hb dX4_weightLeftOver_15 rfl (lv_at hl 3 rfl) ?_
        obtain ⟨g3, hf⟩ := grd hf
        refine mm_iald hx hb hKK hP (kdC_lt t2 (Nat.succ_ne_zero _)) t2 g3 dX4_weightLeftOver_16 ?_
        obtain ⟨r4, e4, hf⟩ := bd1_o hf
        refine mm_Ni (rest := []) hx hb hml hown hts hKK hP hS hA nkX4_60 (k_X10_slotOf l D ce b I L R hT (I (R x1 0) x3.toNatClampNeg)  r4 e4) rfl hl.1 rfl (Nat.le_of_ble_eq_true rfl) ⟨rfl, rfl⟩ ⟨Nat.le_of_ble_eq_true rfl, Nat.le_of_ble_eq_true rfl⟩ ⟨Nat.zero_le _, Nat.zero_le _⟩ dX4_weightLeftOver_17 (fun H locs hP hT hS => ?_)
        refine lv_istore (lv' := [(4, .int r4), (0, .ref (b + x0)), (1, .ref (b + x1)), (2, .ref (b + x2)), (3, .int x3)]) hx hb dX4_weightLeftOver_20 hl (Nat.le_of_ble_eq_true rfl) rfl (fun ls hl => ?_)
        refine lv_iload hx hb dX4_weightLeftOver_22 (lv_at hl 0 rfl) ?_
        refine jnE hf (fun j42_5 ej_5 hf => ?_)
        have hJ42_5 : ∀ (w0_5 : Int64) (H : Heap) (locs : List Loc) (ls : Array Slot), va_P D vwCl (wd ce b kdC lnC 272 I L R) H → va_S (box b 272) s.heap H locs → lv_has ls 7 [(0, .ref (b + x0)), (1, .ref (b + x1)), (2, .ref (b + x2)), (3, .int x3)] → j42_5 w0_5 = some a1 → W p l e rmX4_weightLeftOver s m av below meth c H locs 0 0 QQ (F0 m 42 ls [.long w0_5]) := by
          intro w0_5 H locs ls hP hS  hl hf
          rw [ej_5] at hf
          try dsimp only at hf
          refine lv_lstore (lv' := [(5, .long w0_5), (0, .ref (b + x0)), (1, .ref (b + x1)), (2, .ref (b + x2)), (3, .int x3)]) hx hb dX4_weightLeftOver_42 hl (Nat.le_of_ble_eq_true rfl) rfl (fun ls hl => ?_)
          refine lv_aload_n hx hb dX4_weightLeftOver_44 rfl (lv_at hl 2 rfl) ?_
          refine mm_getr hx hb hts hown hKK hP fk8_0 (Nat.le_of_ble_eq_true rfl) lkX4_57 (kdC_lt h1 (Nat.succ_ne_zero _)) h1 (nC t2 (Nat.succ_ne_zero _)) dX4_weightLeftOver_45 ?_
          refine lv_iload_n hx hb dX4_weightLeftOver_48 rfl (lv_at hl 4 rfl) ?_
          refine mm_iald hx hb hKK hP (kdC_lt t2 (Nat.succ_ne_zero _)) t2 g3 dX4_weightLeftOver_49 ?_
          refine lv_bipush (v := (102 : Int32)) hx hb dX4_weightLeftOver_50 (by decide) ?_
          refine jnE hf (fun j139_6 ej_6 hf => ?_)
          have hJ139_6 : ∀ (v5_6 : Int64) (H : Heap) (locs : List Loc) (ls : Array Slot), va_P D vwCl (wd ce b kdC lnC 272 I L R) H → va_S (box b 272) s.heap H locs → lv_has ls 7 [(0, .ref (b + x0)), (1, .ref (b + x1)), (2, .ref (b + x2)), (3, .int x3), (5, .long v5_6)] → j139_6 v5_6 = some a1 → W p l e rmX4_weightLeftOver s m av below meth c H locs 0 0 QQ (F0 m 139 ls []) := by
            intro v5_6 H locs ls hP hS  hl hf
            rw [ej_6] at hf
            try dsimp only at hf
            refine lv_aload_n hx hb dX4_weightLeftOver_139 rfl (lv_at hl 0 rfl) ?_
            have t7 : kdC (R x0 3) = 2 := wt hT h0 rfl
            refine mm_getr hx hb hts hown hKK hP fk4_3 (Nat.le_of_ble_eq_true rfl) lkX4_25 (kdC_lt h0 (Nat.succ_ne_zero _)) h0 (nC t7 (Nat.succ_ne_zero _)) dX4_weightLeftOver_140 ?_
            refine lv_iload_n hx hb dX4_weightLeftOver_143 rfl (lv_at hl 3 rfl) ?_
            refine lv_lload hx hb dX4_weightLeftOver_144 (lv_at hl 4 rfl) ?_
            refine lv_ldc2 (v := (1000000007 : Int64)) hx hb hown (hts _ cwX4_71) dX4_weightLeftOver_146 ?_
            refine lv_lrem hx hb dX4_weightLeftOver_149 (by decide) ?_
            obtain ⟨g8, hf⟩ := grd hf
            refine jnE hf (fun L9 eL9 hf => ?_)
            refine mm_last hx hb hKK hP hA hS (kdC_lt t7 (Nat.succ_ne_zero _)) t7 g8 dX4_weightLeftOver_150 (fun H locs hP hS => ?_)
            rw [← eL9] at hP
            refine lv_iinc (v := (x3 + (-1 : Int32))) (lv' := [(3, .int (x3 + (-1 : Int32))), (0, .ref (b + x0)), (1, .ref (b + x1)), (2, .ref (b + x2)), (5, .long v5_6)]) hx hb dX4_weightLeftOver_151 hl (k := 3) rfl rfl (Nat.le_of_ble_eq_true rfl) rfl (fun ls hl => ?_)
            refine lv_goto (tgt := 7) hx hb dX4_weightLeftOver_154 (by decide) ?_
            exact ih x0 x1 x2 (x3 + (-1 : Int32)) I L9 R a1 H locs ls hP hS hT h0 h1 h2 (lv_sub hl [1, 2, 3, 0] rfl) hf kx
          clear ej_6
          refine lv_icmp_ne (tgt := 76) hx hb dX4_weightLeftOver_52 (by decide) (fun c10 => ?_) (fun c10 => ?_)
          · have hf := ifF hf c10
            refine lv_aload_n hx hb dX4_weightLeftOver_76 rfl (lv_at hl 2 rfl) ?_
            refine mm_getr hx hb hts hown hKK hP fk8_0 (Nat.le_of_ble_eq_true rfl) lkX4_57 (kdC_lt h1 (Nat.succ_ne_zero _)) h1 (nC t2 (Nat.succ_ne_zero _)) dX4_weightLeftOver_77 ?_
            refine lv_iload_n hx hb dX4_weightLeftOver_80 rfl (lv_at hl 4 rfl) ?_
            refine mm_iald hx hb hKK hP (kdC_lt t2 (Nat.succ_ne_zero _)) t2 g3 dX4_weightLeftOver_81 ?_
            refine lv_bipush (v := (103 : Int32)) hx hb dX4_weightLeftOver_82 (by decide) ?_
            refine lv_icmp_ne (tgt := 139) hx hb dX4_weightLeftOver_84 (by decide) (fun c11 => ?_) (fun c11 => ?_)
            · have hf := ifF hf c11
              exact hJ139_6 w0_5 H locs ls hP hS  (lv_sub hl [1, 2, 3, 4, 0] rfl) hf
            · have hf := ifT hf c11
              refine lv_iload_n hx hb dX4_weightLeftOver_87 rfl (lv_at hl 4 rfl) ?_
              refine lv_iconst (v := (1 : Int32)) hx hb dX4_weightLeftOver_88 (by decide) ?_
              refine lv_iadd hx hb dX4_weightLeftOver_89 ?_
              refine lv_aload_n hx hb dX4_weightLeftOver_90 rfl (lv_at hl 2 rfl) ?_
              refine mm_geti hx hb hts hown hKK hP fk8_2 (Or.inl rfl) lkX4_52 (kdC_lt h1 (Nat.succ_ne_zero _)) h1 dX4_weightLeftOver_91 ?_
              refine lv_icmp_ge (tgt := 139) hx hb dX4_weightLeftOver_94 (by decide) (fun c12 => ?_) (fun c12 => ?_)
              · have hf := ifT hf c12
                exact hJ139_6 w0_5 H locs ls hP hS  (lv_sub hl [1, 2, 3, 4, 0] rfl) hf
              · have hf := ifF hf c12
                refine lv_lload hx hb dX4_weightLeftOver_97 (lv_at hl 0 rfl) ?_
                refine lv_aload_n hx hb dX4_weightLeftOver_99 rfl (lv_at hl 3 rfl) ?_
                refine lv_iconst (v := (5 : Int32)) hx hb dX4_weightLeftOver_100 (by decide) ?_
                obtain ⟨g13, hf⟩ := grd hf
                refine mm_iald hx hb hKK hP (kdC_lt h2 (Nat.succ_ne_zero _)) h2 g13 dX4_weightLeftOver_101 ?_
                refine lv_i2l (v := ((I x2 ((5 : Int32)).toNatClampNeg)).toInt64) hx hb dX4_weightLeftOver_102 rfl ?_
                refine lv_aload_n hx hb dX4_weightLeftOver_103 rfl (lv_at hl 1 rfl) ?_
                refine lv_aload_n hx hb dX4_weightLeftOver_104 rfl (lv_at hl 2 rfl) ?_
                refine lv_iload_n hx hb dX4_weightLeftOver_105 rfl (lv_at hl 4 rfl) ?_
                refine lv_iconst (v := (1 : Int32)) hx hb dX4_weightLeftOver_106 (by decide) ?_
                refine lv_iadd hx hb dX4_weightLeftOver_107 ?_
                obtain ⟨r14, e14, hf⟩ := bd1_o hf
                refine mm_Vl (rest := [.long (((I x2 ((5 : Int32)).toNatClampNeg)).toInt64), .long w0_5]) hx hb hml hown hts hKK hP hS hA (kdC_lt h0 (Nat.succ_ne_zero _)) h0 (show vwCl[4]? = some (yX4_totalAt.cls, TX4, 5) from rfl) vkX4_64 (k_X4_totalAt l D ce b I L R hT x0 x1 (x3 + (1 : Int32)) h0 h1 r14 e14) rfl hl.1 rfl (Nat.le_of_ble_eq_true rfl) ⟨rfl, rfl⟩ ⟨Nat.le_of_ble_eq_true rfl, Nat.le_of_ble_eq_true rfl⟩ ⟨Nat.zero_le _, Nat.zero_le _⟩ dX4_weightLeftOver_108 (fun H locs hP hT hS => ?_)
                refine lv_lmul hx hb dX4_weightLeftOver_111 ?_
                refine lv_ladd hx hb dX4_weightLeftOver_112 ?_
                refine lv_lstore (lv' := [(5, .long (w0_5 + ((((I x2 ((5 : Int32)).toNatClampNeg)).toInt64) * r14))), (0, .ref (b + x0)), (1, .ref (b + x1)), (2, .ref (b + x2)), (3, .int x3)]) hx hb dX4_weightLeftOver_113 hl (Nat.le_of_ble_eq_true rfl) rfl (fun ls hl => ?_)
                refine lv_lload hx hb dX4_weightLeftOver_115 (lv_at hl 0 rfl) ?_
                refine lv_aload_n hx hb dX4_weightLeftOver_117 rfl (lv_at hl 3 rfl) ?_
                refine lv_bipush (v := (6 : Int32)) hx hb dX4_weightLeftOver_118 (by decide) ?_
                obtain ⟨g15, hf⟩ := grd hf
                refine mm_iald hx hb hKK hP (kdC_lt h2 (Nat.succ_ne_zero _)) h2 g15 dX4_weightLeftOver_120 ?_
                refine lv_i2l (v := ((I x2 ((6 : Int32)).toNatClampNeg)).toInt64) hx hb dX4_weightLeftOver_121 rfl ?_
                refine lv_aload_n hx hb dX4_weightLeftOver_122 rfl (lv_at hl 1 rfl) ?_
                refine lv_aload_n hx hb dX4_weightLeftOver_123 rfl (lv_at hl 2 rfl) ?_
                refine lv_aload_n hx hb dX4_weightLeftOver_124 rfl (lv_at hl 2 rfl) ?_
                have t16 : kdC (R x1 1) = 1 := wt hT h1 rfl
                refine mm_getr hx hb hts hown hKK hP fk8_1 (Nat.le_of_ble_eq_true rfl) lkX4_68 (kdC_lt h1 (Nat.succ_ne_zero _)) h1 (nC t16 (Nat.succ_ne_zero _)) dX4_weightLeftOver_125 ?_
                refine lv_iload_n hx hb dX4_weightLeftOver_128 rfl (lv_at hl 4 rfl) ?_
                refine lv_iconst (v := (1 : Int32)) hx hb dX4_weightLeftOver_129 (by decide) ?_
                refine lv_iadd hx hb dX4_weightLeftOver_130 ?_
                obtain ⟨g17, hf⟩ := grd hf
                refine mm_iald hx hb hKK hP (kdC_lt t16 (Nat.succ_ne_zero _)) t16 g17 dX4_weightLeftOver_131 ?_
                obtain ⟨r18, e18, hf⟩ := bd1_o hf
                refine mm_Vl (rest := [.long (((I x2 ((6 : Int32)).toNatClampNeg)).toInt64), .long (w0_5 + ((((I x2 ((5 : Int32)).toNatClampNeg)).toInt64) * r14))]) hx hb hml hown hts hKK hP hS hA (kdC_lt h0 (Nat.succ_ne_zero _)) h0 (show vwCl[4]? = some (yX4_totalAt.cls, TX4, 5) from rfl) vkX4_64 (k_X4_totalAt l D ce b I L R hT x0 x1 (I (R x1 1) ((x3 + (1 : Int32))).toNatClampNeg) h0 h1 r18 e18) rfl hl.1 rfl (Nat.le_of_ble_eq_true rfl) ⟨rfl, rfl⟩ ⟨Nat.le_of_ble_eq_true rfl, Nat.le_of_ble_eq_true rfl⟩ ⟨Nat.zero_le _, Nat.zero_le _⟩ dX4_weightLeftOver_132 (fun H locs hP hT hS => ?_)
                refine lv_lmul hx hb dX4_weightLeftOver_135 ?_
                refine lv_ladd hx hb dX4_weightLeftOver_136 ?_
                refine lv_lstore (lv' := [(5, .long ((w0_5 + ((((I x2 ((5 : Int32)).toNatClampNeg)).toInt64) * r14)) + ((((I x2 ((6 : Int32)).toNatClampNeg)).toInt64) * r18))), (0, .ref (b + x0)), (1, .ref (b + x1)), (2, .ref (b + x2)), (3, .int x3)]) hx hb dX4_weightLeftOver_137 hl (Nat.le_of_ble_eq_true rfl) rfl (fun ls hl => ?_)
                exact hJ139_6 ((w0_5 + ((((I x2 ((5 : Int32)).toNatClampNeg)).toInt64) * r14)) + ((((I x2 ((6 : Int32)).toNatClampNeg)).toInt64) * r18)) H locs ls hP hS  (lv_sub hl [1, 2, 3, 4, 0] rfl) hf
          · have hf := ifT hf c10
            refine lv_lload hx hb dX4_weightLeftOver_55 (lv_at hl 0 rfl) ?_
            refine lv_aload_n hx hb dX4_weightLeftOver_57 rfl (lv_at hl 3 rfl) ?_
            refine lv_iconst (v := (4 : Int32)) hx hb dX4_weightLeftOver_58 (by decide) ?_
            obtain ⟨g19, hf⟩ := grd hf
            refine mm_iald hx hb hKK hP (kdC_lt h2 (Nat.succ_ne_zero _)) h2 g19 dX4_weightLeftOver_59 ?_
            refine lv_i2l (v := ((I x2 ((4 : Int32)).toNatClampNeg)).toInt64) hx hb dX4_weightLeftOver_60 rfl ?_
            refine lv_aload_n hx hb dX4_weightLeftOver_61 rfl (lv_at hl 1 rfl) ?_
            refine lv_aload_n hx hb dX4_weightLeftOver_62 rfl (lv_at hl 2 rfl) ?_
            refine lv_iload_n hx hb dX4_weightLeftOver_63 rfl (lv_at hl 4 rfl) ?_
            refine lv_iconst (v := (1 : Int32)) hx hb dX4_weightLeftOver_64 (by decide) ?_
            refine lv_iadd hx hb dX4_weightLeftOver_65 ?_
            obtain ⟨r20, e20, hf⟩ := bd1_o hf
            refine mm_Vl (rest := [.long (((I x2 ((4 : Int32)).toNatClampNeg)).toInt64), .long w0_5]) hx hb hml hown hts hKK hP hS hA (kdC_lt h0 (Nat.succ_ne_zero _)) h0 (show vwCl[4]? = some (yX4_totalAt.cls, TX4, 5) from rfl) vkX4_64 (k_X4_totalAt l D ce b I L R hT x0 x1 (x3 + (1 : Int32)) h0 h1 r20 e20) rfl hl.1 rfl (Nat.le_of_ble_eq_true rfl) ⟨rfl, rfl⟩ ⟨Nat.le_of_ble_eq_true rfl, Nat.le_of_ble_eq_true rfl⟩ ⟨Nat.zero_le _, Nat.zero_le _⟩ dX4_weightLeftOver_66 (fun H locs hP hT hS => ?_)
            refine lv_lmul hx hb dX4_weightLeftOver_69 ?_
            refine lv_ladd hx hb dX4_weightLeftOver_70 ?_
            refine lv_lstore (lv' := [(5, .long (w0_5 + ((((I x2 ((4 : Int32)).toNatClampNeg)).toInt64) * r20))), (0, .ref (b + x0)), (1, .ref (b + x1)), (2, .ref (b + x2)), (3, .int x3)]) hx hb dX4_weightLeftOver_71 hl (Nat.le_of_ble_eq_true rfl) rfl (fun ls hl => ?_)
            refine lv_goto (tgt := 139) hx hb dX4_weightLeftOver_73 (by decide) ?_
            exact hJ139_6 (w0_5 + ((((I x2 ((4 : Int32)).toNatClampNeg)).toInt64) * r20)) H locs ls hP hS  (lv_sub hl [1, 2, 3, 4, 0] rfl) hf
        clear ej_5
        refine jnE hf (fun j41_21 ej_21 hf => ?_)
        have hJ41_21 : ∀ (H : Heap) (locs : List Loc) (ls : Array Slot), va_P D vwCl (wd ce b kdC lnC 272 I L R) H → va_S (box b 272) s.heap H locs → lv_has ls 7 [(0, .ref (b + x0)), (1, .ref (b + x1)), (2, .ref (b + x2)), (3, .int x3)] → j41_21  = some a1 → W p l e rmX4_weightLeftOver s m av below meth c H locs 0 0 QQ (F0 m 41 ls []) := by
          intro  H locs ls hP hS  hl hf
          rw [ej_21] at hf
          try dsimp only at hf
          refine lv_lconst (v := (0 : Int64)) hx hb dX4_weightLeftOver_41 (by decide) ?_
          exact hJ42_5 (0 : Int64) H locs ls hP hS  (lv_sub hl [0, 1, 2, 3] rfl) hf
        clear ej_21
        refine lv_if_lt (tgt := 41) hx hb dX4_weightLeftOver_24 (by decide) (fun c22 => ?_) (fun c22 => ?_)
        · have hf := ifT hf c22
          exact hJ41_21  H locs ls hP hS  (lv_sub hl [1, 2, 3, 4] rfl) hf
        · have hf := ifF hf c22
          refine lv_iload hx hb dX4_weightLeftOver_27 (lv_at hl 0 rfl) ?_
          refine lv_iconst (v := (4 : Int32)) hx hb dX4_weightLeftOver_29 (by decide) ?_
          refine lv_icmp_ge (tgt := 41) hx hb dX4_weightLeftOver_30 (by decide) (fun c23 => ?_) (fun c23 => ?_)
          · have hf := ifT hf c23
            exact hJ41_21  H locs ls hP hS  (lv_sub hl [1, 2, 3, 4] rfl) hf
          · have hf := ifF hf c23
            refine lv_aload_n hx hb dX4_weightLeftOver_33 rfl (lv_at hl 3 rfl) ?_
            refine lv_iload hx hb dX4_weightLeftOver_34 (lv_at hl 0 rfl) ?_
            obtain ⟨g24, hf⟩ := grd hf
            refine mm_iald hx hb hKK hP (kdC_lt h2 (Nat.succ_ne_zero _)) h2 g24 dX4_weightLeftOver_36 ?_
            refine lv_i2l (v := ((I x2 r4.toNatClampNeg)).toInt64) hx hb dX4_weightLeftOver_37 rfl ?_
            refine lv_goto (tgt := 42) hx hb dX4_weightLeftOver_38 (by decide) ?_
            exact hJ42_5 (((I x2 r4.toNatClampNeg)).toInt64) H locs ls hP hS  (lv_sub hl [1, 2, 3, 4] rfl) hf
  obtain ⟨L_25, e_25, hf⟩ := bd1_o hf
  refine lp7 FU x0 x1 x2 ((I x1 2) - (1 : Int32)) I L R L_25 H locs ls hP hS hT h0 h1 h2 (lv_sub hl [1, 2, 3, 0] rfl) e_25 (fun H locs ls hP hS hl => ?_)
  refine lv_aload_n hx hb dX4_weightLeftOver_157 rfl (lv_at hl 0 rfl) ?_
  have t26 : kdC (R x0 3) = 2 := wt hT h0 rfl
  refine mm_getr hx hb hts hown hKK hP fk4_3 (Nat.le_of_ble_eq_true rfl) lkX4_25 (kdC_lt h0 (Nat.succ_ne_zero _)) h0 (nC t26 (Nat.succ_ne_zero _)) dX4_weightLeftOver_158 ?_
  refine lv_iconst (v := (0 : Int32)) hx hb dX4_weightLeftOver_161 (by decide) ?_
  obtain ⟨g27, hf⟩ := grd hf
  refine mm_lald hx hb hKK hP (kdC_lt t26 (Nat.succ_ne_zero _)) t26 g27 dX4_weightLeftOver_162 ?_
  refine lv_l2i (v := ((L_25 (R x0 3) ((0 : Int32)).toNatClampNeg)).toInt32) hx hb dX4_weightLeftOver_163 rfl ?_
  exact hret (((L_25 (R x0 3) ((0 : Int32)).toNatClampNeg)).toInt32) L_25 hf H locs ls _ dX4_weightLeftOver_164 hP hT hS
def rmX10_weight : Room := { frames := 2, cells := 0, slots := 0, locals := 48 }
set_option maxHeartbeats 4000000 in
set_option maxRecDepth 100000 in
theorem k_X10_weight (l : Launch) (D : va_G) (ce : Nat → ClassId) (b : Nat) (I : mI) (L : mL) (R : mR) (hT : WT kdC R) (x0 : Nat) (x1 : Int32) (h0 : kdC x0 = 16) (o1 : Int32) (o2 : mI) (o3 : mL) (hf : f_X10_weight x0 x1 I L R = some (o1, o2, o3)) : Met l yX10_weight (Cond.code yX10_weight cX10_weight 2 (some .int) :: GW) rmX10_weight (va_Pc [.ref (b + x0), .int x1] (PW D ce b kdC lnC 272 I L R)) (va_Qi (fun r u => r = o1 ∧ u = (o2, o3, R)) (QW D ce b kdC lnC 272) (box b 272)) 0 0 (box b 272) := by
  refine Met.ofW (cc := cX10_weight) (maxL := 2) (ret := (some .int)) (by decide) rfl ?_
  intro p e s m args below meth c s₁ B hml hv
  obtain ⟨rfl, hP, hKK⟩ := hv
  have hx := B.exec
  have hb := B.bytes
  have hr := B.returns
  have hts0 := atoms_spec (ws := Cond.code yX10_weight cX10_weight 2 (some .int) :: GW) B.pre
  have hts : ∀ w ∈ GW, w.before _ s = true := fun w h => hts0 w (List.mem_cons_of_mem _ h)
  clear hts0
  have hown : s.vm.findClass RX10 = some m.cls := findClass_of_methodNamed B.named
  have hlocks := B.notSynchronized
  have hA : ∀ q, box b 272 q → box b 272 q := fun _ h => h
  have hS : va_S (box b 272) s.heap s.heap [] := va_S.rf
  have hl := lv_entry ([.ref (b + x0), .int x1]) (n := 2) (Nat.le_of_ble_eq_true rfl)
  rw [lg_entry_eq]
  generalize (lg_sl ([.ref (b + x0), .int x1]) ++ List.replicate (2 - (lg_sl ([.ref (b + x0), .int x1])).length) Slot.unset).toArray = ls at hl ⊢
  have hl : lv_has ls 2 [(0, .ref (b + x0)), (1, .int x1)] := hl
  generalize ([.ref (b + x0), .int x1] : List Value).toArray = av at hts ⊢
  show W p l e rmX10_weight s m av below meth c s.heap [] 0 0 _ _
  obtain ⟨QQ, hQQ⟩ : ∃ z, z = MQ below (va_Qi (fun r u => r = o1 ∧ u = (o2, o3, R)) (QW D ce b kdC lnC 272) (box b 272)) av s 0 0 (box b 272) := ⟨_, rfl⟩
  rw [← hQQ]
  have hret : ∀ (r : Int32) (I1 : mI) (L1 : mL), some (r, I1, L1) = some (o1, o2, o3) → ∀ (H1 : Heap) (locs1 : List Loc) (ls1 : Array Slot) (pc1 : Nat), decode cX10_weight pc1 = .ok (.ireturn, 1) → va_P D vwCl (wd ce b kdC lnC 272 I1 L1 R) H1 → WT kdC R → va_S (box b 272) s.heap H1 locs1 → W p l e rmX10_weight s m av below meth c H1 locs1 0 0 QQ (F0 m pc1 ls1 [.int r]) := by
    intro r I1 L1 hq H1 locs1 ls1 pc1 hd hP hT hS
    cases hq
    rw [hQQ]
    exact mm_iret hx hb hr hlocks hP hT hS hd
  unfold f_X10_weight at hf
  obtain ⟨H, hH⟩ : ∃ z, z = s.heap := ⟨_, rfl⟩
  obtain ⟨locs, hlo⟩ : ∃ z : List Loc, z = [] := ⟨_, rfl⟩
  have hP : va_P D vwCl (wd ce b kdC lnC 272 I L R) H := by rw [hH]; exact hP
  have hS : va_S (box b 272) s.heap H locs := by rw [hH, hlo]; exact hS
  rw [show W p l e rmX10_weight s m av below meth c s.heap [] 0 0 QQ = W p l e rmX10_weight s m av below meth c H locs 0 0 QQ by rw [hH, hlo]]
  clear hH hlo
  clear hQQ
  show W p l e rmX10_weight s m av below meth c H locs 0 0 QQ (F0 m 0 ls [])
  refine lv_aload_n hx hb dX10_weight_0 rfl (lv_at hl 0 rfl) ?_
  refine lv_iload_n hx hb dX10_weight_1 rfl (lv_at hl 1 rfl) ?_
  obtain ⟨r1, I1, e1, hf⟩ := bd2_o hf
  refine mm_Vi (rest := []) hx hb hml hown hts hKK hP hS hA (kdC_lt h0 (Nat.succ_ne_zero _)) h0 (show vwCl[10]? = some (yX10_splitFigures.cls, TX10, 15) from rfl) vkX10_175 (k_X10_splitFigures l D ce b I L R hT x0 x1 h0 r1 I1 e1) rfl hl.1 rfl (Nat.le_of_ble_eq_true rfl) ⟨rfl, rfl⟩ ⟨Nat.le_of_ble_eq_true rfl, Nat.le_of_ble_eq_true rfl⟩ ⟨Nat.zero_le _, Nat.zero_le _⟩ dX10_weight_2 (fun H locs hP hT hS => ?_)
  refine lv_if_ne (tgt := 13) hx hb dX10_weight_5 (by decide) (fun c2 => ?_) (fun c2 => ?_)
  · have hf := ifF hf c2
    refine lv_aload_n hx hb dX10_weight_13 rfl (lv_at hl 0 rfl) ?_
    have t3 : kdC (R x0 5) = 10 := wt hT h0 rfl
    refine mm_getr hx hb hts hown hKK hP fk10_5 (Nat.le_of_ble_eq_true rfl) lkX10_47 (kdC_lt h0 (Nat.succ_ne_zero _)) h0 (nC t3 (Nat.succ_ne_zero _)) dX10_weight_14 ?_
    refine lv_aload_n hx hb dX10_weight_17 rfl (lv_at hl 0 rfl) ?_
    have t4 : kdC (R x0 0) = 13 := wt hT h0 rfl
    refine mm_getr hx hb hts hown hKK hP fk10_0 (Nat.le_of_ble_eq_true rfl) lkX10_10 (kdC_lt h0 (Nat.succ_ne_zero _)) h0 (nC t4 (Nat.succ_ne_zero _)) dX10_weight_18 ?_
    have t5 : kdC (R (R x0 0) 1) = 14 := wt hT t4 rfl
    refine mm_getr hx hb hts hown hKK hP fk7_1 (Nat.le_of_ble_eq_true rfl) lkX10_75 (kdC_lt t4 (Nat.succ_ne_zero _)) t4 (nC t5 (Nat.succ_ne_zero _)) dX10_weight_21 ?_
    refine lv_aload_n hx hb dX10_weight_24 rfl (lv_at hl 0 rfl) ?_
    have t6 : kdC (R x0 8) = 1 := wt hT h0 rfl
    refine mm_getr hx hb hts hown hKK hP fk10_8 (Nat.le_of_ble_eq_true rfl) lkX10_67 (kdC_lt h0 (Nat.succ_ne_zero _)) h0 (nC t6 (Nat.succ_ne_zero _)) dX10_weight_25 ?_
    obtain ⟨r7, L7, e7, hf⟩ := bd2_o hf
    refine mm_Vi (rest := []) hx hb hml hown hts hKK hP hS hA (kdC_lt t3 (Nat.succ_ne_zero _)) t3 (show vwCl[4]? = some (yX4_weightLeftOver.cls, TX4, 5) from rfl) vkX10_182 (k_X4_weightLeftOver l D ce b I1 L R hT (R x0 5) (R (R x0 0) 1) (R x0 8) t3 t5 t6 r7 L7 e7) rfl hl.1 rfl (Nat.le_of_ble_eq_true rfl) ⟨rfl, rfl⟩ ⟨Nat.le_of_ble_eq_true rfl, Nat.le_of_ble_eq_true rfl⟩ ⟨Nat.zero_le _, Nat.zero_le _⟩ dX10_weight_28 (fun H locs hP hT hS => ?_)
    exact hret r7 I1 L7 hf H locs ls _ dX10_weight_31 hP hT hS
  · have hf := ifT hf c2
    refine lv_aload_n hx hb dX10_weight_8 rfl (lv_at hl 0 rfl) ?_
    obtain ⟨r8, I8, e8, hf⟩ := bd2_o hf
    refine mm_Vi (rest := []) hx hb hml hown hts hKK hP hS hA (kdC_lt h0 (Nat.succ_ne_zero _)) h0 (show vwCl[10]? = some (yX10_refuseBad.cls, TX10, 15) from rfl) vkX10_81 (k_X10_refuseBad l D ce b I1 L R hT x0 h0 r8 I8 e8) rfl hl.1 rfl (Nat.le_of_ble_eq_true rfl) ⟨rfl, rfl⟩ ⟨Nat.le_of_ble_eq_true rfl, Nat.le_of_ble_eq_true rfl⟩ ⟨Nat.zero_le _, Nat.zero_le _⟩ dX10_weight_9 (fun H locs hP hT hS => ?_)
    exact hret r8 I8 L hf H locs ls _ dX10_weight_12 hP hT hS
def rmX10_weighRings : Room := { frames := 4, cells := 0, slots := 0, locals := 108 }
set_option maxHeartbeats 4000000 in
set_option maxRecDepth 100000 in
theorem k_X10_weighRings (l : Launch) (D : va_G) (ce : Nat → ClassId) (b : Nat) (I : mI) (L : mL) (R : mR) (hT : WT kdC R) (x0 : Nat) (h0 : kdC x0 = 16) (o1 : mI) (hf : f_X10_weighRings x0 I R = some o1) : Met l yX10_weighRings (Cond.code yX10_weighRings cX10_weighRings 2 none :: GW) rmX10_weighRings (va_Pc [.ref (b + x0)] (PW D ce b kdC lnC 272 I L R)) (va_Qv (fun u => u = (o1, L, R)) (QW D ce b kdC lnC 272) (box b 272)) 0 0 (box b 272) := by
  refine Met.ofW (cc := cX10_weighRings) (maxL := 2) (ret := none) (by decide) rfl ?_
  intro p e s m args below meth c s₁ B hml hv
  obtain ⟨rfl, hP, hKK⟩ := hv
  have hx := B.exec
  have hb := B.bytes
  have hr := B.returns
  have hts0 := atoms_spec (ws := Cond.code yX10_weighRings cX10_weighRings 2 none :: GW) B.pre
  have hts : ∀ w ∈ GW, w.before _ s = true := fun w h => hts0 w (List.mem_cons_of_mem _ h)
  clear hts0
  have hown : s.vm.findClass RX10 = some m.cls := findClass_of_methodNamed B.named
  have hlocks := B.notSynchronized
  have hA : ∀ q, box b 272 q → box b 272 q := fun _ h => h
  have hS : va_S (box b 272) s.heap s.heap [] := va_S.rf
  have hl := lv_entry ([.ref (b + x0)]) (n := 2) (Nat.le_of_ble_eq_true rfl)
  rw [lg_entry_eq]
  generalize (lg_sl ([.ref (b + x0)]) ++ List.replicate (2 - (lg_sl ([.ref (b + x0)])).length) Slot.unset).toArray = ls at hl ⊢
  have hl : lv_has ls 2 [(0, .ref (b + x0))] := hl
  generalize ([.ref (b + x0)] : List Value).toArray = av at hts ⊢
  show W p l e rmX10_weighRings s m av below meth c s.heap [] 0 0 _ _
  obtain ⟨QQ, hQQ⟩ : ∃ z, z = MQ below (va_Qv (fun u => u = (o1, L, R)) (QW D ce b kdC lnC 272) (box b 272)) av s 0 0 (box b 272) := ⟨_, rfl⟩
  rw [← hQQ]
  have hret : ∀ (I1 : mI), some I1 = some o1 → ∀ (H1 : Heap) (locs1 : List Loc) (ls1 : Array Slot) (pc1 : Nat), decode cX10_weighRings pc1 = .ok (.return_, 1) → va_P D vwCl (wd ce b kdC lnC 272 I1 L R) H1 → WT kdC R → va_S (box b 272) s.heap H1 locs1 → W p l e rmX10_weighRings s m av below meth c H1 locs1 0 0 QQ (F0 m pc1 ls1 []) := by
    intro I1 hq H1 locs1 ls1 pc1 hd hP hT hS
    cases hq
    rw [hQQ]
    exact mm_vret hx hb hr hlocks hP hT hS hd
  unfold f_X10_weighRings at hf
  obtain ⟨H, hH⟩ : ∃ z, z = s.heap := ⟨_, rfl⟩
  obtain ⟨locs, hlo⟩ : ∃ z : List Loc, z = [] := ⟨_, rfl⟩
  have hP : va_P D vwCl (wd ce b kdC lnC 272 I L R) H := by rw [hH]; exact hP
  have hS : va_S (box b 272) s.heap H locs := by rw [hH, hlo]; exact hS
  rw [show W p l e rmX10_weighRings s m av below meth c s.heap [] 0 0 QQ = W p l e rmX10_weighRings s m av below meth c H locs 0 0 QQ by rw [hH, hlo]]
  clear hH hlo
  clear hQQ
  show W p l e rmX10_weighRings s m av below meth c H locs 0 0 QQ (F0 m 0 ls [])
  refine lv_aload_n hx hb dX10_weighRings_0 rfl (lv_at hl 0 rfl) ?_
  refine mm_geti hx hb hts hown hKK hP fk10_10 (Or.inr rfl) lkX10_276 (kdC_lt h0 (Nat.succ_ne_zero _)) h0 dX10_weighRings_1 ?_
  refine lv_if_eq (tgt := 8) hx hb dX10_weighRings_4 (by decide) (fun c1 => ?_) (fun c1 => ?_)
  · have hf := ifT hf c1
    refine lv_aload_n hx hb dX10_weighRings_8 rfl (lv_at hl 0 rfl) ?_
    have t2 : kdC (R x0 4) = 6 := wt hT h0 rfl
    refine mm_getr hx hb hts hown hKK hP fk10_4 (Nat.le_of_ble_eq_true rfl) lkX10_40 (kdC_lt h0 (Nat.succ_ne_zero _)) h0 (nC t2 (Nat.succ_ne_zero _)) dX10_weighRings_9 ?_
    refine lv_iconst (v := (1 : Int32)) hx hb dX10_weighRings_12 (by decide) ?_
    refine jnE hf (fun I3 eI3 hf => ?_)
    refine mm_puti hx hb hts hown hKK hP hA hS fk0_10 (Or.inr rfl) fw0_10 lkX10_193 (kdC_lt t2 (Nat.succ_ne_zero _)) t2 rfl rfl dX10_weighRings_13 (fun H locs hP hS => ?_)
    rw [← eI3] at hP
    refine lv_iconst (v := (0 : Int32)) hx hb dX10_weighRings_16 (by decide) ?_
    refine lv_istore_n (lv' := [(1, .int (0 : Int32)), (0, .ref (b + x0))]) hx hb dX10_weighRings_17 rfl hl (Nat.le_of_ble_eq_true rfl) rfl (fun ls hl => ?_)
    have lp18 : ∀ (n : Nat) (x0 : Nat) (x1 : Int32) (I : mI) (L : mL) (R : mR) (a1 : mI) (H : Heap) (locs : List Loc) (ls : Array Slot), va_P D vwCl (wd ce b kdC lnC 272 I L R) H → va_S (box b 272) s.heap H locs → WT kdC R → kdC x0 = 16 → lv_has ls 2 [(0, .ref (b + x0)), (1, .int x1)] → f_X10_weighRings_L18 n x0 x1 I R = some a1 → (∀ (H1 : Heap) (locs1 : List Loc) (ls1 : Array Slot), va_P D vwCl (wd ce b kdC lnC 272 a1 L R) H1 → va_S (box b 272) s.heap H1 locs1 → lv_has ls1 2 [(0, .ref (b + x0))] → W p l e rmX10_weighRings s m av below meth c H1 locs1 0 0 QQ (F0 m 81 ls1 [])) → W p l e rmX10_weighRings s m av below meth c H locs 0 0 QQ (F0 m 18 ls []) := by
      intro n
      induction n with
      | zero =>
        intro x0 x1 I L R a1 H locs ls hP hS hT h0 hl hf kx
        exact absurd (show (none : Option (mI)) = some _ from hf) (by simp)
      | succ n ih =>
        intro x0 x1 I L R a1 H locs ls hP hS hT h0 hl hf kx
        rw [f_X10_weighRings_L18] at hf
        refine lv_iload_n hx hb dX10_weighRings_18 rfl (lv_at hl 1 rfl) ?_
        refine lv_aload_n hx hb dX10_weighRings_19 rfl (lv_at hl 0 rfl) ?_
        have t4 : kdC (R x0 4) = 6 := wt hT h0 rfl
        refine mm_getr hx hb hts hown hKK hP fk10_4 (Nat.le_of_ble_eq_true rfl) lkX10_40 (kdC_lt h0 (Nat.succ_ne_zero _)) h0 (nC t4 (Nat.succ_ne_zero _)) dX10_weighRings_20 ?_
        refine mm_geti hx hb hts hown hKK hP fk0_9 (Or.inl rfl) lkX10_187 (kdC_lt t4 (Nat.succ_ne_zero _)) t4 dX10_weighRings_23 ?_
        refine lv_icmp_ge (tgt := 81) hx hb dX10_weighRings_26 (by decide) (fun c5 => ?_) (fun c5 => ?_)
        · have hf := ifT hf c5
          cases hf
          exact kx H locs ls hP hS (lv_sub hl [0] rfl)
        · have hf := ifF hf c5
          refine lv_aload_n hx hb dX10_weighRings_29 rfl (lv_at hl 0 rfl) ?_
          refine mm_getr hx hb hts hown hKK hP fk10_4 (Nat.le_of_ble_eq_true rfl) lkX10_40 (kdC_lt h0 (Nat.succ_ne_zero _)) h0 (nC t4 (Nat.succ_ne_zero _)) dX10_weighRings_30 ?_
          have t6 : kdC (R (R x0 4) 6) = 1 := wt hT t4 rfl
          refine mm_getr hx hb hts hown hKK hP fk0_6 (Nat.le_of_ble_eq_true rfl) lkX10_217 (kdC_lt t4 (Nat.succ_ne_zero _)) t4 (nC t6 (Nat.succ_ne_zero _)) dX10_weighRings_33 ?_
          refine lv_iload_n hx hb dX10_weighRings_36 rfl (lv_at hl 1 rfl) ?_
          refine lv_aload_n hx hb dX10_weighRings_37 rfl (lv_at hl 0 rfl) ?_
          have t7 : kdC (R x0 5) = 10 := wt hT h0 rfl
          refine mm_getr hx hb hts hown hKK hP fk10_5 (Nat.le_of_ble_eq_true rfl) lkX10_47 (kdC_lt h0 (Nat.succ_ne_zero _)) h0 (nC t7 (Nat.succ_ne_zero _)) dX10_weighRings_38 ?_
          refine lv_aload_n hx hb dX10_weighRings_41 rfl (lv_at hl 0 rfl) ?_
          have t8 : kdC (R x0 0) = 13 := wt hT h0 rfl
          refine mm_getr hx hb hts hown hKK hP fk10_0 (Nat.le_of_ble_eq_true rfl) lkX10_10 (kdC_lt h0 (Nat.succ_ne_zero _)) h0 (nC t8 (Nat.succ_ne_zero _)) dX10_weighRings_42 ?_
          refine lv_aload_n hx hb dX10_weighRings_45 rfl (lv_at hl 0 rfl) ?_
          refine mm_getr hx hb hts hown hKK hP fk10_4 (Nat.le_of_ble_eq_true rfl) lkX10_40 (kdC_lt h0 (Nat.succ_ne_zero _)) h0 (nC t4 (Nat.succ_ne_zero _)) dX10_weighRings_46 ?_
          refine lv_iload_n hx hb dX10_weighRings_49 rfl (lv_at hl 1 rfl) ?_
          obtain ⟨r9, I9, e9, hf⟩ := bd2_o hf
          refine mm_Vi (rest := [.int x1, .ref (b + (R (R x0 4) 6))]) hx hb hml hown hts hKK hP hS hA (kdC_lt t7 (Nat.succ_ne_zero _)) t7 (show vwCl[4]? = some (yX4_leastWeights.cls, TX4, 5) from rfl) vkX10_171 (k_X4_leastWeights l D ce b I L R hT (R x0 5) (R x0 0) (R x0 4) x1 t7 t8 t4 r9 I9 e9) rfl hl.1 rfl (Nat.le_of_ble_eq_true rfl) ⟨rfl, rfl⟩ ⟨Nat.le_of_ble_eq_true rfl, Nat.le_of_ble_eq_true rfl⟩ ⟨Nat.zero_le _, Nat.zero_le _⟩ dX10_weighRings_50 (fun H locs hP hT hS => ?_)
          obtain ⟨g10, hf⟩ := grd hf
          refine jnE hf (fun I11 eI11 hf => ?_)
          refine mm_iast hx hb hKK hP hA hS (kdC_lt t6 (Nat.succ_ne_zero _)) t6 g10 dX10_weighRings_53 (fun H locs hP hS => ?_)
          rw [← eI11] at hP
          refine lv_aload_n hx hb dX10_weighRings_54 rfl (lv_at hl 0 rfl) ?_
          refine mm_getr hx hb hts hown hKK hP fk10_4 (Nat.le_of_ble_eq_true rfl) lkX10_40 (kdC_lt h0 (Nat.succ_ne_zero _)) h0 (nC t4 (Nat.succ_ne_zero _)) dX10_weighRings_55 ?_
          refine mm_getr hx hb hts hown hKK hP fk0_6 (Nat.le_of_ble_eq_true rfl) lkX10_217 (kdC_lt t4 (Nat.succ_ne_zero _)) t4 (nC t6 (Nat.succ_ne_zero _)) dX10_weighRings_58 ?_
          refine lv_iload_n hx hb dX10_weighRings_61 rfl (lv_at hl 1 rfl) ?_
          refine mm_iald hx hb hKK hP (kdC_lt t6 (Nat.succ_ne_zero _)) t6 g10 dX10_weighRings_62 ?_
          refine lv_iconst (v := (-1 : Int32)) hx hb dX10_weighRings_63 (by decide) ?_
          refine jnE hf (fun j75_12 ej_12 hf => ?_)
          have hJ75_12 : ∀ (I_12 : mI) (H : Heap) (locs : List Loc) (ls : Array Slot), va_P D vwCl (wd ce b kdC lnC 272 I_12 L R) H → va_S (box b 272) s.heap H locs → lv_has ls 2 [(0, .ref (b + x0)), (1, .int x1)] → j75_12 I_12 = some a1 → W p l e rmX10_weighRings s m av below meth c H locs 0 0 QQ (F0 m 75 ls []) := by
            intro I_12 H locs ls hP hS  hl hf
            rw [ej_12] at hf
            try dsimp only at hf
            refine lv_iinc (v := (x1 + (1 : Int32))) (lv' := [(1, .int (x1 + (1 : Int32))), (0, .ref (b + x0))]) hx hb dX10_weighRings_75 hl (k := 1) rfl rfl (Nat.le_of_ble_eq_true rfl) rfl (fun ls hl => ?_)
            refine lv_goto (tgt := 18) hx hb dX10_weighRings_78 (by decide) ?_
            exact ih x0 (x1 + (1 : Int32)) I_12 L R a1 H locs ls hP hS hT h0 (lv_sub hl [1, 0] rfl) hf kx
          clear ej_12
          refine lv_icmp_ne (tgt := 75) hx hb dX10_weighRings_64 (by decide) (fun c13 => ?_) (fun c13 => ?_)
          · have hf := ifF hf c13
            exact hJ75_12 I11 H locs ls hP hS  (lv_sub hl [0, 1] rfl) hf
          · have hf := ifT hf c13
            refine lv_aload_n hx hb dX10_weighRings_67 rfl (lv_at hl 0 rfl) ?_
            refine mm_getr hx hb hts hown hKK hP fk10_4 (Nat.le_of_ble_eq_true rfl) lkX10_40 (kdC_lt h0 (Nat.succ_ne_zero _)) h0 (nC t4 (Nat.succ_ne_zero _)) dX10_weighRings_68 ?_
            refine lv_iconst (v := (0 : Int32)) hx hb dX10_weighRings_71 (by decide) ?_
            refine jnE hf (fun I14 eI14 hf => ?_)
            refine mm_puti hx hb hts hown hKK hP hA hS fk0_10 (Or.inr rfl) fw0_10 lkX10_193 (kdC_lt t4 (Nat.succ_ne_zero _)) t4 rfl rfl dX10_weighRings_72 (fun H locs hP hS => ?_)
            rw [← eI14] at hP
            exact hJ75_12 I14 H locs ls hP hS  (lv_sub hl [0, 1] rfl) hf
    obtain ⟨I_15, e_15, hf⟩ := bd1_o hf
    refine lp18 FU x0 (0 : Int32) I3 L R I_15 H locs ls hP hS hT h0 (lv_sub hl [1, 0] rfl) e_15 (fun H locs ls hP hS hl => ?_)
    refine lv_aload_n hx hb dX10_weighRings_81 rfl (lv_at hl 0 rfl) ?_
    refine lv_iconst (v := (1 : Int32)) hx hb dX10_weighRings_82 (by decide) ?_
    refine jnE hf (fun I16 eI16 hf => ?_)
    refine mm_puti hx hb hts hown hKK hP hA hS fk10_10 (Or.inr rfl) fw10_10 lkX10_276 (kdC_lt h0 (Nat.succ_ne_zero _)) h0 rfl rfl dX10_weighRings_83 (fun H locs hP hS => ?_)
    rw [← eI16] at hP
    exact hret I16 hf H locs ls _ dX10_weighRings_86 hP hT hS
  · have hf := ifF hf c1
    exact hret I hf H locs ls _ dX10_weighRings_7 hP hT hS
