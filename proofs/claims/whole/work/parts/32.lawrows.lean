/-! ===== rows of the law: two worlds side by side ===== -/
section LR
variable {p : Program} {l : Launch} {e : Env} {Rm : Room} {s : State} {m : MethodId} {args : Array Value} {below : List Frame} {meth : Method} {c : Code} {H H0 : Heap} {locs : List Loc} {cells slots : Nat} {Q : State → Prop}
variable {cc : ByteArray} {pc : Nat} {ls : Array Slot} {rest : List Value} {D : va_G} {ce : Nat → ClassId} {b : Nat} {kd ln : Nat → Nat} {n : Nat} {I : mI} {L : mL} {R : mR} {A : Nat → Prop}
variable {own C : String} {T : u_T} {N ci k index a : Nat}
theorem keepW {b2 n2 : Nat} {kd2 ln2 : Nat → Nat} {I2 : mI} {L2 : mL} {R2 : mR} {X : Nat → Prop} {H1 : Heap} (hP2 : va_P D vwCl (wd ce b2 kd2 ln2 n2 I2 L2 R2) H) (hk : ∀ q, q < H.size → ¬ X q → H1[q]? = H[q]?) (hdis : ∀ q, box b2 n2 q → ¬ X q) : va_P D vwCl (wd ce b2 kd2 ln2 n2 I2 L2 R2) H1 := by
  intro j q hq
  have h1 := hP2 j q hq
  by_cases hj : j < n2
  · refine h1.kept (hk _ h1.lt (hdis _ ?_))
    rw [wd_at hj] at hq
    cases hq
    exact ⟨by show b2 ≤ b2 + j; omega, by show b2 + j < b2 + n2; omega⟩
  · have hlen : (wd ce b2 kd2 ln2 n2 I2 L2 R2).length ≤ j := by simp [wd]; omega
    rw [List.getElem?_eq_none hlen] at hq
    cases hq
theorem mm_newF {ty : Nat → FieldType} (hx : p.tables.exec = Jvm.exec) (hb : c.code = cc) (hts : ∀ w ∈ GW, w.before args s = true) (hown : s.vm.findClass own = some m.cls) (hin : ∀ w ∈ u_ws C T N, w ∈ GW) (hc : vwCl[ci]? = some (C, T, N)) (hty : ∀ k, k < N → parseFieldDescriptor (T k).2.2.1 = some (ty k)) (hw : Cond.classLink own index C ∈ GW ∧ Cond.instantiable C N ∈ GW ∧ Cond.initialized C ∈ GW) (hKK : KK D ce s) (hP : va_P D vwCl (wd ce b kd ln n I L R) H) (hz : H.size = b + n) (hS : va_S A H0 H locs) (hk : kd n = ci + 6) (hF : Fr n I L R) (hfs : ∀ j, j < N → defaultValue (ty j) = vp_V (fvs b (fun _ _ => 0) (fun _ _ => 0) (fun _ _ => NUL) n 0 (fd ci)) j) (hcells : cells + 1 ≤ Rm.cells) (hslots : slots + N ≤ Rm.slots) (hdg : decode cc pc = .ok (.new index, 3))
    (kk : ∀ H1 : Heap, va_P D vwCl (wd ce b kd ln (n + 1) I L R) H1 → H1.size = b + (n + 1) → va_S A H0 H1 locs → (∀ q, q < H.size → H1[q]? = H[q]?) → W p l e Rm s m args below meth c H1 locs (cells + 1) (slots + N) Q (F0 m (pc + 3) ls (.ref (b + n) :: rest))) : W p l e Rm s m args below meth c H locs cells slots Q (F0 m pc ls rest) := by
  have hKn := hKK.1.1 ci _ hc
  refine W.newcK hx hb hown (hts _ hw.1) (hts _ hw.2.1) (hts _ hw.2.2) rfl hdg hcells hslots hKn.2.1 hz fun H1 kC hkC e1 z1 o1 => ?_
  refine kk H1 (wd_push hP hz o1 ?_) z1 (va_S.push hS hz z1 o1) (by rw [hz]; exact o1)
  rw [en_o hk, fvs_congr (I' := fun _ _ => 0) (L' := fun _ _ => 0) (R' := fun _ _ => NUL) (funext fun j => (hF n (Nat.le_refl n) j).1) (funext fun j => (hF n (Nat.le_refl n) j).2.1) (funext fun j => (hF n (Nat.le_refl n) j).2.2)]
  exact ⟨_, hc, (u_born ty hts hin hKn hkC e1 hty).to hfs⟩
variable {y : MethodName} {bytes : ByteArray} {maxL nL q mc ms n1 : Nat} {ret : Option FieldType} {rm : Room} {As st : List Value} {I' : mI} {L' : mL} {R' : mR}
theorem mm_IF (hx : p.tables.exec = Jvm.exec) (hb : c.code = cc) (hml : c.maxLocals = nL) (hown : s.vm.findClass own = some m.cls) (hts : ∀ w ∈ GW, w.before args s = true) (hKK : KK D ce s) (hAO : AO2 s) (hP : va_P D vwCl (wd ce b kd ln n I L R) H) (hz : H.size = b + n) (hS : va_S A s.heap H locs) (hA : ∀ q, upA b q → A q) (V : IOK own index y bytes maxL q)
    (hM : Met l y (Cond.code y bytes maxL none :: GW) rm (va_Pc (.ref (b + a) :: As) (PN D ce b kd ln n I L R)) (va_Qv (fun u => u = (I', L', R')) (QW D ce b kd ln n1) (upA b)) mc ms (upA b)) (hn : As.length = q) (hsz : ls.size = nL) (hst : st = As.reverse ++ .ref (b + a) :: rest) (hW : (rest.map fun v => v.category).sum ≤ 8) (hrm : rm.cells = mc ∧ rm.slots = ms) (hR : rm.frames + 1 ≤ Rm.frames ∧ 8 + (maxL + 11) + rm.locals ≤ Rm.locals) (hcs : cells + mc ≤ Rm.cells ∧ slots + ms ≤ Rm.slots) (hdg : decode cc pc = .ok (.invokespecial index, 3))
    (kk : ∀ (H1 : Heap) (locs1 : List Loc), va_P D vwCl (wd ce b kd ln n1 I' L' R') H1 → va_S A s.heap H1 locs1 → (∀ q, q < H.size → ¬ upA b q → H1[q]? = H[q]?) → W p l e Rm s m args below meth c H1 locs1 (cells + mc) (slots + ms) Q (F0 m (pc + 3) ls rest)) : W p l e Rm s m args below meth c H locs cells slots Q (F0 m pc ls st) := by
  subst hst
  have hpre : PreS s H (va_Pc (.ref (b + a) :: As) (PN D ce b kd ln n I L R)) (.ref (b + a) :: As) := ⟨PN.blind, fun U hU hW => ⟨rfl, by rw [hU]; exact hP, KK.warm hW hKK, by rw [hU]; exact hz, va_AO.moved hW.alike hAO.1, va_AO.moved hW.alike hAO.2⟩⟩
  have hrun : va_Run p l e Rm s m args below meth c H locs cells slots mc ms (F0 m pc ls (As.reverse ++ .ref (b + a) :: rest)) rest (va_Qv (fun u => u = (I', L', R')) (QW D ce b kd ln n1) (upA b) (Value.ref (b + a) :: As).toArray) (upA b) := by
    rcases V.1 with h | h
    · exact va_runI (As := As) (rest := rest) ⟨hx, hb, hml, hown, hts⟩ hM ⟨callB_of q hts (good_code V.2.2.2.1) rfl hrm.1 hrm.2 (hts _ V.2.2.1) (hts _ h) V.2.2.2.2.2 hR, V.2.2.2.2.1, hts _ V.2.1⟩ hpre rfl hn hsz rfl (lv_room hW) hdg hcs
    · exact va_runIN (host := "FallingRules") (As := As) (rest := rest) ⟨hx, hb, hml, hown, hts⟩ hM ⟨va_cnB q hts (good_code V.2.2.2.1) rfl hrm.1 hrm.2 (hKK.2 _ h) (hts _ V.2.2.1) V.2.2.2.2.2 hR, V.2.2.2.2.1, hts _ V.2.1⟩ hpre rfl hn hsz rfl (lv_room hW) hdg hcs
  refine va_callv hrun hS (fun q _ h => hA q h) hA (fun u t H1 locs1 ht hvm hw hB hz1 hk1 hS1 => ?_)
  subst hw
  exact kk H1 locs1 (by rw [← ht]; exact hB.1) hS1 hk1
theorem mm_LVi {r0 : Int32} (hx : p.tables.exec = Jvm.exec) (hb : c.code = cc) (hml : c.maxLocals = nL) (hown : s.vm.findClass own = some m.cls) (hts : ∀ w ∈ GW, w.before args s = true) (hKK : KK D ce s) (hP : va_P D vwCl (wd ce b kd ln n I L R) H) (hS : va_S A s.heap H locs) (hA : ∀ q, box b n q → A q) (ha : a < n) (hka : kd a = ci + 6) (hc : vwCl[ci]? = some (y.cls, T, N)) (V : VOK own index y bytes maxL ret q)
    (hM : Met l y (Cond.code y bytes maxL ret :: GW) rm (va_Pc (.ref (b + a) :: As) (PW D ce b kd ln n I L R)) (va_Qi (fun r u => r = r0 ∧ u = (I', L', R')) (QW D ce b kd ln n) (box b n)) 0 0 (box b n)) (hn : As.length = q) (hsz : ls.size = nL) (hst : st = As.reverse ++ .ref (b + a) :: rest) (hW : (rest.map fun v => v.category).sum ≤ 8) (hrm : rm.cells = 0 ∧ rm.slots = 0) (hR : rm.frames + 1 ≤ Rm.frames ∧ 8 + (maxL + 11) + rm.locals ≤ Rm.locals) (hcs : cells ≤ Rm.cells ∧ slots ≤ Rm.slots) (hdg : decode cc pc = .ok (.invokevirtual index, 3))
    (kk : ∀ (H1 : Heap) (locs1 : List Loc), va_P D vwCl (wd ce b kd ln n I' L' R') H1 → WT kd R' → va_S A s.heap H1 locs1 → (∀ q, q < H.size → ¬ box b n q → H1[q]? = H[q]?) → W p l e Rm s m args below meth c H1 locs1 cells slots Q (F0 m (pc + 3) ls (.int r0 :: rest))) : W p l e Rm s m args below meth c H locs cells slots Q (F0 m pc ls st) := by
  subst hst
  refine va_calli (va_runV (As := As) (rest := rest) ⟨hx, hb, hml, hown, hts⟩ hM (cwV q hts V.1 rfl hrm.1 hrm.2 V.2 hR) ⟨PW.blind, va_recv hKK.1 hP hc (q0 := a) (fs := fvs b I L R a 0 (fd ci)) (by rw [wd_at ha, en_o hka]), fun U hU hW => ⟨rfl, by rw [hU]; exact hP, KK.warm hW hKK⟩⟩ rfl hn hsz rfl (lv_room hW) hdg ⟨hcs.1, hcs.2⟩) hS (fun q _ h => hA q h) hA (fun r u t H1 locs1 ht hvm hw hB hz hk1 hS1 => ?_)
  obtain ⟨rfl, rfl⟩ := hw
  exact kk H1 locs1 (by rw [← ht]; exact hB.1) hB.2 hS1 hk1
theorem mm_LVl {r0 : Int64} (hx : p.tables.exec = Jvm.exec) (hb : c.code = cc) (hml : c.maxLocals = nL) (hown : s.vm.findClass own = some m.cls) (hts : ∀ w ∈ GW, w.before args s = true) (hKK : KK D ce s) (hP : va_P D vwCl (wd ce b kd ln n I L R) H) (hS : va_S A s.heap H locs) (hA : ∀ q, box b n q → A q) (ha : a < n) (hka : kd a = ci + 6) (hc : vwCl[ci]? = some (y.cls, T, N)) (V : VOK own index y bytes maxL ret q)
    (hM : Met l y (Cond.code y bytes maxL ret :: GW) rm (va_Pc (.ref (b + a) :: As) (PW D ce b kd ln n I L R)) (va_Ql (fun r u => r = r0 ∧ u = (I', L', R')) (QW D ce b kd ln n) (box b n)) 0 0 (box b n)) (hn : As.length = q) (hsz : ls.size = nL) (hst : st = As.reverse ++ .ref (b + a) :: rest) (hW : (rest.map fun v => v.category).sum ≤ 8) (hrm : rm.cells = 0 ∧ rm.slots = 0) (hR : rm.frames + 1 ≤ Rm.frames ∧ 8 + (maxL + 11) + rm.locals ≤ Rm.locals) (hcs : cells ≤ Rm.cells ∧ slots ≤ Rm.slots) (hdg : decode cc pc = .ok (.invokevirtual index, 3))
    (kk : ∀ (H1 : Heap) (locs1 : List Loc), va_P D vwCl (wd ce b kd ln n I' L' R') H1 → WT kd R' → va_S A s.heap H1 locs1 → (∀ q, q < H.size → ¬ box b n q → H1[q]? = H[q]?) → W p l e Rm s m args below meth c H1 locs1 cells slots Q (F0 m (pc + 3) ls (.long r0 :: rest))) : W p l e Rm s m args below meth c H locs cells slots Q (F0 m pc ls st) := by
  subst hst
  refine va_calll (va_runV (As := As) (rest := rest) ⟨hx, hb, hml, hown, hts⟩ hM (cwV q hts V.1 rfl hrm.1 hrm.2 V.2 hR) ⟨PW.blind, va_recv hKK.1 hP hc (q0 := a) (fs := fvs b I L R a 0 (fd ci)) (by rw [wd_at ha, en_o hka]), fun U hU hW => ⟨rfl, by rw [hU]; exact hP, KK.warm hW hKK⟩⟩ rfl hn hsz rfl (lv_room hW) hdg ⟨hcs.1, hcs.2⟩) hS (fun q _ h => hA q h) hA (fun r u t H1 locs1 ht hvm hw hB hz hk1 hS1 => ?_)
  obtain ⟨rfl, rfl⟩ := hw
  exact kk H1 locs1 (by rw [← ht]; exact hB.1) hB.2 hS1 hk1
end LR
