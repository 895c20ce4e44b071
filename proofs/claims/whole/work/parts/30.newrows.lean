/-! ===== cells that are made: the world grows by one cell ===== -/
def AO2 (U : State) : Prop := va_AO "FallingRules$Rule" U ∧ va_AO "FallingRules$State" U
def PN (D : va_G) (ce : Nat → ClassId) (b : Nat) (kd ln : Nat → Nat) (n : Nat) (I : mI) (L : mL) (R : mR) (U : State) : Prop := va_P D vwCl (wd ce b kd ln n I L R) U.heap ∧ KK D ce U ∧ U.heap.size = b + n ∧ AO2 U
def QN (D : va_G) (ce : Nat → ClassId) (b : Nat) (kd ln : Nat → Nat) (n : Nat) (u : mI × mL × mR) (t : State) : Prop := va_P D vwCl (wd ce b kd ln n u.1 u.2.1 u.2.2) t.heap ∧ t.heap.size = b + n
def upA (b : Nat) : Nat → Prop := fun q => b ≤ q
def Fr (n : Nat) (I : mI) (L : mL) (R : mR) : Prop := ∀ x, n ≤ x → ∀ k, I x k = 0 ∧ L x k = 0 ∧ R x k = NUL
theorem Fr.mono {n n' : Nat} {I : mI} {L : mL} {R : mR} (h : Fr n I L R) (hn : n ≤ n') : Fr n' I L R := fun x hx => h x (Nat.le_trans hn hx)
theorem Fr.upR {n a k v : Nat} {I : mI} {L : mL} {R : mR} (h : Fr n I L R) (ha : a < n) : Fr n I L (u2 R a k v) := fun x hx j => by
  rw [u2_n _ _ _ (by omega)]
  exact h x hx j
theorem Fr.upI {n a k : Nat} {v : Int32} {I : mI} {L : mL} {R : mR} (h : Fr n I L R) (ha : a < n) : Fr n (u2 I a k v) L R := fun x hx j => by
  rw [u2_n _ _ _ (by omega)]
  exact h x hx j
theorem PN.blind {D : va_G} {ce : Nat → ClassId} {b : Nat} {kd ln : Nat → Nat} {n : Nat} {I : mI} {L : mL} {R : mR} {av : List Value} : FrameBlind (va_Pc av (PN D ce b kd ln n I L R)) := by
  intro a U g mk h
  obtain ⟨h1, h2, h3, h4, h5⟩ := h
  exact ⟨h1, h2, ⟨va_K.moved (u := U) (U := U.calling g mk a) (Vm.Alike.refl U.vm) h3.1, NW.same (u := U) (U := U.calling g mk a) rfl h3.2⟩, h4, va_AO.moved (u := U) (U := U.calling g mk a) (Vm.Alike.refl U.vm) h5.1, va_AO.moved (u := U) (U := U.calling g mk a) (Vm.Alike.refl U.vm) h5.2⟩
section NR
variable {p : Program} {l : Launch} {e : Env} {Rm : Room} {s : State} {m : MethodId} {args : Array Value} {below : List Frame} {meth : Method} {c : Code} {H H0 : Heap} {locs : List Loc} {cells slots : Nat} {Q : State → Prop}
variable {cc : ByteArray} {pc : Nat} {ls : Array Slot} {rest : List Value} {D : va_G} {ce : Nat → ClassId} {b : Nat} {kd ln : Nat → Nat} {n : Nat} {I : mI} {L : mL} {R : mR} {A : Nat → Prop}
variable {own C : String} {T : u_T} {N ci k index a : Nat}
theorem wd_push {H1 : Heap} (hP : va_P D vwCl (wd ce b kd ln n I L R) H) (hz : H.size = b + n) (ho : ∀ q, q < b + n → H1[q]? = H[q]?) (hn : va_at D vwCl (b + n, en ce b kd ln I L R n) H1) : va_P D vwCl (wd ce b kd ln (n + 1) I L R) H1 := by
  intro j q hq
  by_cases hj : j < n
  · rw [wd_at (by omega)] at hq
    cases hq
    exact (hP j _ (wd_at hj)).kept (ho _ (by show b + j < b + n; omega))
  · by_cases hj2 : j = n
    · subst hj2
      rw [wd_at (by omega)] at hq
      cases hq
      exact hn
    · have hlen : (wd ce b kd ln (n + 1) I L R).length ≤ j := by simp [wd]; omega
      rw [List.getElem?_eq_none hlen] at hq
      cases hq
theorem va_S.push {H1 : Heap} (hS : va_S A H0 H locs) (hz : H.size = b + n) (z1 : H1.size = b + n + 1) (ho : ∀ q, q < b + n → H1[q]? = H[q]?) : va_S A H0 H1 locs :=
  ⟨Nat.le_trans hS.1 (by omega), fun q h1 h2 => (ho q (by have := hS.1; omega)).trans (hS.2.1 q h1 h2), hS.2.2⟩
theorem arrV_congr {cA : ClassId} {N : Nat} {f g : Nat → Value} (h : ∀ j, f j = g j) : arrV cA N f = arrV cA N g := by
  rw [show f = g from funext h]
theorem mm_newi (hx : p.tables.exec = Jvm.exec) (hb : c.code = cc) (hts : ∀ w ∈ GW, w.before args s = true) (harr : Cond.arrayClass .int ∈ GW) (hKK : KK D ce s) (hP : va_P D vwCl (wd ce b kd ln n I L R) H) (hz : H.size = b + n) (hS : va_S A H0 H locs) (hk : kd n = 1) {x : Int32} (hx0 : ¬ x < 0) (hN : x.toNatClampNeg = ln n) (hbytes : ln n * 4 ≤ 536870912) (hF : Fr n I L R) (hcells : cells + 1 ≤ Rm.cells) (hslots : slots + ln n ≤ Rm.slots) (hdg : decode cc pc = .ok (.newarray .int, 2))
    (kk : ∀ H1 : Heap, va_P D vwCl (wd ce b kd ln (n + 1) I L R) H1 → H1.size = b + (n + 1) → va_S A H0 H1 locs → W p l e Rm s m args below meth c H1 locs (cells + 1) (slots + ln n) Q (F0 m (pc + 2) ls (.ref (b + n) :: rest))) : W p l e Rm s m args below meth c H locs cells slots Q (F0 m pc ls (.int x :: rest)) := by
  refine va_newaK (atype := .int) hx hb (hts _ harr) rfl hdg rfl hx0 hN hbytes hcells hslots hz fun H1 cA e1 z1 o1 hAr hNm => ?_
  have hce : cA = ce 0 := by
    have h := (hKK.1.2 0 (ce 0, .int) rfl).2
    exact Option.some.inj (hNm.symm.trans h)
  subst hce
  refine kk H1 (wd_push hP hz o1 ?_) z1 (va_S.push hS hz z1 o1)
  rw [en_1 hk]
  show H1[b + n]? = some (vp_cell _ _)
  rw [e1, vp_cell_i]
  exact congrArg some (arrV_congr fun j => by rw [(hF n (Nat.le_refl n) j).1]; rfl)
theorem mm_newz (hx : p.tables.exec = Jvm.exec) (hb : c.code = cc) (hts : ∀ w ∈ GW, w.before args s = true) (harr : Cond.arrayClass .boolean ∈ GW) (hKK : KK D ce s) (hP : va_P D vwCl (wd ce b kd ln n I L R) H) (hz : H.size = b + n) (hS : va_S A H0 H locs) (hk : kd n = 3) {x : Int32} (hx0 : ¬ x < 0) (hN : x.toNatClampNeg = ln n) (hbytes : ln n * 1 ≤ 536870912) (hF : Fr n I L R) (hcells : cells + 1 ≤ Rm.cells) (hslots : slots + ln n ≤ Rm.slots) (hdg : decode cc pc = .ok (.newarray .boolean, 2))
    (kk : ∀ H1 : Heap, va_P D vwCl (wd ce b kd ln (n + 1) I L R) H1 → H1.size = b + (n + 1) → va_S A H0 H1 locs → W p l e Rm s m args below meth c H1 locs (cells + 1) (slots + ln n) Q (F0 m (pc + 2) ls (.ref (b + n) :: rest))) : W p l e Rm s m args below meth c H locs cells slots Q (F0 m pc ls (.int x :: rest)) := by
  refine va_newaK (atype := .boolean) hx hb (hts _ harr) rfl hdg rfl hx0 hN hbytes hcells hslots hz fun H1 cA e1 z1 o1 hAr hNm => ?_
  have hce : cA = ce 2 := by
    have h := (hKK.1.2 2 (ce 2, .boolean) rfl).2
    exact Option.some.inj (hNm.symm.trans h)
  subst hce
  refine kk H1 (wd_push hP hz o1 ?_) z1 (va_S.push hS hz z1 o1)
  rw [en_3 hk]
  show H1[b + n]? = some (vp_cell _ _)
  rw [e1, vp_cell_i]
  exact congrArg some (arrV_congr fun j => by rw [(hF n (Nat.le_refl n) j).1]; rfl)
theorem mm_newl (hx : p.tables.exec = Jvm.exec) (hb : c.code = cc) (hts : ∀ w ∈ GW, w.before args s = true) (harr : Cond.arrayClass .long ∈ GW) (hKK : KK D ce s) (hP : va_P D vwCl (wd ce b kd ln n I L R) H) (hz : H.size = b + n) (hS : va_S A H0 H locs) (hk : kd n = 2) {x : Int32} (hx0 : ¬ x < 0) (hN : x.toNatClampNeg = ln n) (hbytes : ln n * 8 ≤ 536870912) (hF : Fr n I L R) (hcells : cells + 1 ≤ Rm.cells) (hslots : slots + ln n ≤ Rm.slots) (hdg : decode cc pc = .ok (.newarray .long, 2))
    (kk : ∀ H1 : Heap, va_P D vwCl (wd ce b kd ln (n + 1) I L R) H1 → H1.size = b + (n + 1) → va_S A H0 H1 locs → W p l e Rm s m args below meth c H1 locs (cells + 1) (slots + ln n) Q (F0 m (pc + 2) ls (.ref (b + n) :: rest))) : W p l e Rm s m args below meth c H locs cells slots Q (F0 m pc ls (.int x :: rest)) := by
  refine va_newaK (atype := .long) hx hb (hts _ harr) rfl hdg rfl hx0 hN hbytes hcells hslots hz fun H1 cA e1 z1 o1 hAr hNm => ?_
  have hce : cA = ce 1 := by
    have h := (hKK.1.2 1 (ce 1, .long) rfl).2
    exact Option.some.inj (hNm.symm.trans h)
  subst hce
  refine kk H1 (wd_push hP hz o1 ?_) z1 (va_S.push hS hz z1 o1)
  rw [en_2 hk]
  show H1[b + n]? = some (vp_cell _ _)
  rw [e1, vp_cell_l]
  exact congrArg some (arrV_congr fun j => by rw [(hF n (Nat.le_refl n) j).2.1]; rfl)
theorem mm_newr {C : String} {t0 : Nat} (hx : p.tables.exec = Jvm.exec) (hb : c.code = cc) (hts : ∀ w ∈ GW, w.before args s = true) (hown : s.vm.findClass own = some m.cls) (hcl : Cond.classLink own index C ∈ GW) (hao : va_AO C s) (hKK : KK D ce s) (hP : va_P D vwCl (wd ce b kd ln n I L R) H) (hz : H.size = b + n) (hS : va_S A H0 H locs) (ht0 : (tyA ce)[t0]? = some (ce t0, .object C)) (hen : en ce b kd ln I L R n = .inl (ce t0, ln n, .inr (.inr (.inr (.inr (fun j => rv b (R n j))))))) {x : Int32} (hx0 : ¬ x < 0) (hN : x.toNatClampNeg = ln n) (hbytes : ln n * 4 ≤ 536870912) (hF : Fr n I L R) (hcells : cells + 1 ≤ Rm.cells) (hslots : slots + ln n ≤ Rm.slots) (hdg : decode cc pc = .ok (.anewarray index, 3))
    (kk : ∀ H1 : Heap, va_P D vwCl (wd ce b kd ln (n + 1) I L R) H1 → H1.size = b + (n + 1) → va_S A H0 H1 locs → W p l e Rm s m args below meth c H1 locs (cells + 1) (slots + ln n) Q (F0 m (pc + 3) ls (.ref (b + n) :: rest))) : W p l e Rm s m args below meth c H locs cells slots Q (F0 m pc ls (.int x :: rest)) := by
  rw [← hN] at hbytes hslots kk
  refine W.anew hx hb hown (hts _ hcl) (va_AO.use hao) rfl hdg rfl hx0 hbytes hcells hslots fun cA kA comp f1 f2 f3 f4 => ?_
  have hce : cA = ce t0 := by
    obtain ⟨kA', comp', -, -, -, h⟩ := (hKK.1.2 t0 (ce t0, .object C) ht0).2
    exact Option.some.inj (f1.symm.trans h)
  subst hce
  generalize hH1 : H.push ({ cls := ce t0, slots := Array.replicate x.toNatClampNeg .null, vm := .none } : Cell) = H1
  have z1 : H1.size = b + n + 1 := by rw [← hH1, Array.size_push, hz]
  have e1 : H1[b + n]? = some (arrV (ce t0) x.toNatClampNeg (fun _ => .null)) := by rw [← hH1, ← hz, Array.getElem?_push_size, ← arrV_new]
  have o1 : ∀ q : Nat, q < b + n → H1[q]? = H[q]? := fun q hq => by rw [← hH1, Array.getElem?_push, if_neg (by omega)]
  have hzz : F0 m (pc + 3) ls (.ref H.size :: rest) = F0 m (pc + 3) ls (.ref (b + n) :: rest) := by rw [hz]
  refine W.eq hzz (kk H1 (wd_push hP hz o1 ?_) z1 (va_S.push hS hz z1 o1))
  rw [hen]
  show H1[b + n]? = some (vp_cell _ _)
  rw [e1, vp_cell_q, hN]
  exact congrArg some (arrV_congr fun j => by rw [(hF n (Nat.le_refl n) j).2.2]; rfl)
theorem mm_new {ty : Nat → FieldType} (hx : p.tables.exec = Jvm.exec) (hb : c.code = cc) (hts : ∀ w ∈ GW, w.before args s = true) (hown : s.vm.findClass own = some m.cls) (hin : ∀ w ∈ u_ws C T N, w ∈ GW) (hc : vwCl[ci]? = some (C, T, N)) (hty : ∀ k, k < N → parseFieldDescriptor (T k).2.2.1 = some (ty k)) (hw : Cond.classLink own index C ∈ GW ∧ Cond.instantiable C N ∈ GW ∧ Cond.initialized C ∈ GW) (hKK : KK D ce s) (hP : va_P D vwCl (wd ce b kd ln n I L R) H) (hz : H.size = b + n) (hS : va_S A H0 H locs) (hk : kd n = ci + 6) (hF : Fr n I L R) (hfs : ∀ j, j < N → defaultValue (ty j) = vp_V (fvs b (fun _ _ => 0) (fun _ _ => 0) (fun _ _ => NUL) n 0 (fd ci)) j) (hcells : cells + 1 ≤ Rm.cells) (hslots : slots + N ≤ Rm.slots) (hdg : decode cc pc = .ok (.new index, 3))
    (kk : ∀ H1 : Heap, va_P D vwCl (wd ce b kd ln (n + 1) I L R) H1 → H1.size = b + (n + 1) → va_S A H0 H1 locs → W p l e Rm s m args below meth c H1 locs (cells + 1) (slots + N) Q (F0 m (pc + 3) ls (.ref (b + n) :: rest))) : W p l e Rm s m args below meth c H locs cells slots Q (F0 m pc ls rest) := by
  have hKn := hKK.1.1 ci _ hc
  refine W.newcK hx hb hown (hts _ hw.1) (hts _ hw.2.1) (hts _ hw.2.2) rfl hdg hcells hslots hKn.2.1 hz fun H1 kC hkC e1 z1 o1 => ?_
  refine kk H1 (wd_push hP hz o1 ?_) z1 (va_S.push hS hz z1 o1)
  rw [en_o hk, fvs_congr (I' := fun _ _ => 0) (L' := fun _ _ => 0) (R' := fun _ _ => NUL) (funext fun j => (hF n (Nat.le_refl n) j).1) (funext fun j => (hF n (Nat.le_refl n) j).2.1) (funext fun j => (hF n (Nat.le_refl n) j).2.2)]
  exact ⟨_, hc, (u_born ty hts hin hKn hkC e1 hty).to hfs⟩
theorem mm_putF (hx : p.tables.exec = Jvm.exec) (hb : c.code = cc) (hts : ∀ w ∈ GW, w.before args s = true) (hown : s.vm.findClass own = some m.cls) (hKK : KK D ce s) (hP : va_P D vwCl (wd ce b kd ln n I L R) H) (hA : ∀ q, box b n q → A q) (hS : va_S A H0 H locs) {t : Nat} (hFI : FI ci k t C T N) (ht : t < 100) {ty0 : Nat → FieldType} {ty : FieldType} (hw : (∀ k, k < N → parseFieldDescriptor (T k).2.2.1 = some (ty0 k)) ∧ (∀ a, a < N → ∀ b, b < N → a ≠ b → (T a).2.1 ≠ (T b).2.1) ∧ (T k).2.2.2 = true ∧ parseFieldDescriptor (T k).2.2.1 = some ty) (hl : Cond.fieldLink own index (T k).1 (T k).2.1 (T k).2.2.1 ∈ GW) (hin2 : meth.name = "<init>") (hdecl : (T k).1 = own) (ha : a < n) (hk : kd a = ci + 6) {v : Nat} (hv : v ≠ NUL) (hn : narrow ty (.ref (b + v)) = .ref (b + v)) (hfit : fits ty (.ref (b + v)) = true) (hdg : decode cc pc = .ok (.putfield index, 3))
    (kk : ∀ (H1 : Heap) (locs1 : List Loc), va_P D vwCl (wd ce b kd ln n I L (u2 R a k v)) H1 → H1.size = H.size → va_S A H0 H1 locs1 → W p l e Rm s m args below meth c H1 locs1 cells slots Q (F0 m (pc + 3) ls rest)) : W p l e Rm s m args below meth c H locs cells slots Q (F0 m pc ls (.ref (b + v) :: .ref (b + a) :: rest)) := by
  have he : (wd ce b kd ln n I L R)[a]? = some (b + a, .inr (ci, fvs b I L R a 0 (fd ci))) := by rw [wd_at ha, en_o hk]
  have hlk : k < (fvs b I L R a 0 (fd ci)).length := by rw [fvs_len]; exact (List.getElem?_eq_some_iff.mp hFI.2.2.1).1
  have hap := va_apart (own := own) hts hFI.1 ty0 hw.1 hw.2.1 hKK.1 hFI.2.1
  obtain ⟨r, h1, cell, q1, q2, q3, q4⟩ := hP a _ he
  have hr : r = (C, T, N) := Option.some.inj (h1.symm.trans hFI.2.1)
  subst hr
  obtain ⟨hS2, hfc, kC, hkC, hkind⟩ := hKK.1.1 ci _ hFI.2.1
  obtain ⟨cf, kf, fi, f, hi, hsl⟩ := hS2 k hFI.2.2.2
  have hlay := hts _ (hFI.1 _ (u_in_lay hFI.2.2.2))
  unfold u_lay at hlay
  rw [if_pos hw.2.2.1] at hlay
  have hst := (u_facts hfc hkC (u_lays hts hFI.1 hFI.2.2.2) hi).1
  have hcf : m.cls = cf := by
    obtain ⟨_, _, c', _, _, _, -, -, hf', -, -, -, hown2, -⟩ := Cond.laysFinal_spec hlay
    have e1 : c' = cf := by have := hi.symm.trans hf'; simp at this; exact this.1.symm
    rw [hdecl] at hown2
    rw [← e1]; exact Option.some.inj (hown.symm.trans hown2)
  have h6 := u_fits hfc hkC hkind (Or.inr hlay) hi hw.2.2.2 hn hfit
  refine W.putFinK hx hb hown (hts _ hl) hi hst hcf hin2 (by rw [q2]; exact h6) q1 q3 (by rw [hsl]; exact k2_hasslot (q4 k hFI.2.2.2)) rfl rfl hdg fun H' e1 e2 e3 => ?_
  rw [hsl] at e1 ⊢
  have hD : va_D A (wd ce b kd ln n I L R) := wd_D hA
  have hP1 := hP.set hD he (e := .inr (ci, (fvs b I L R a 0 (fd ci)).set k (.ref (b + v)))) ⟨_, hFI.2.1, t_OB.to (V := updV (vp_V (fvs b I L R a 0 (fd ci))) k (.ref (b + v))) ⟨_, e1, q2, q3, t_set q4 hap hFI.2.2.2 _⟩ (fun j _ => vp_updV_set hlk _ j)⟩ e3
  rw [wd_set (I' := I) (L' := L) (R' := u2 R a k v) ha (fun j hj => ⟨rfl, rfl, u2_n _ _ _ hj⟩) (by rw [en_o hk, fvs_setR v hFI.2.2.1 ht hv])] at hP1
  exact kk H' _ hP1 e2 (hS.put e2 e3 (hD.2 a _ he))
theorem mm_aastN {t0 cv : Nat} {rr : vw_C} (hx : p.tables.exec = Jvm.exec) (hb : c.code = cc) (hKK : KK D ce s) (hP : va_P D vwCl (wd ce b kd ln n I L R) H) (hz : H.size = b + n) (hA : ∀ q, box b n q → A q) (hS : va_S A H0 H locs) (ha : a < n) (ht0 : (tyA ce)[t0]? = some (ce t0, .object rr.1)) (hc : vwCl[cv]? = some rr) (hen : ∀ R : mR, en ce b kd ln I L R a = .inl (ce t0, ln a, .inr (.inr (.inr (.inr (fun j => rv b (R a j))))))) {i : Int32} {v : Nat} (hv : v < n) (hkv : kd v = cv + 6) (hnv : v ≠ NUL) (hin : inb i (ln a) = true) (hdg : decode cc pc = .ok (.aastore, 1))
    (kk : ∀ (H1 : Heap) (locs1 : List Loc), va_P D vwCl (wd ce b kd ln n I L (u2 R a i.toNatClampNeg v)) H1 → H1.size = b + n → va_S A H0 H1 locs1 → W p l e Rm s m args below meth c H1 locs1 cells slots Q (F0 m (pc + 1) ls rest)) : W p l e Rm s m args below meth c H locs cells slots Q (F0 m pc ls (.ref (b + v) :: .int i :: .ref (b + a) :: rest)) := by
  have hD : va_D A (wd ce b kd ln n I L R) := wd_D hA
  have hin := inb_in hin
  have hlt : i.toNatClampNeg < ln a := Nat.not_le.mp fun q => hin (Or.inr q)
  have h0 : ¬ i < 0 := fun q => hin (Or.inl q)
  have hwa : (wd ce b kd ln n I L R)[a]? = some (b + a, .inl (ce t0, ln a, .inr (.inr (.inr (.inr (fun j => rv b (R a j))))))) := by rw [wd_at ha, hen]
  have hwv : (wd ce b kd ln n I L R)[v]? = some (b + v, .inr (cv, fvs b I L R v 0 (fd cv))) := by rw [wd_at hv, en_o hkv]
  obtain ⟨r', hr', cellV, g1, g2, g3, -⟩ := hP v _ hwv
  have hcls := (hKK.1.1 cv rr hc).2
  obtain ⟨kA, comp, k1, k2, k3, -⟩ := (hKK.1.2 t0 _ ht0).2
  have hcomp : comp = D.1 cv := Option.some.inj (k3.symm.trans hcls.1)
  subst hcomp
  obtain ⟨kC, hkC, -⟩ := hcls.2
  refine W.aast hx hb (hP a _ hwa) (fun q h => by cases h) (fun h => by cases h) k1 k2 rfl hkC ⟨h0, by show _ < (arrV _ _ _).slots.size; rw [arrV_size]; exact hlt⟩ g1 (fun q h => by rw [g3] at h; cases h) (by rw [g2]; exact hkC) (by rw [g2]; exact va_assign hcls) rfl rfl hdg fun H1 e z oq => ?_
  have hP1 := hP.set hD hwa (e := .inl (ce t0, ln a, .inr (.inr (.inr (.inr (va_up (fun j => rv b (R a j)) i.toNatClampNeg (some (b + v)))))))) (by
    show H1[b + a]? = some (vp_cell _ _)
    rw [e]
    rw [vp_cell_q, vp_cell_q, arrV_store]
    congr 2
    funext q
    by_cases hq : q = i.toNatClampNeg
    · subst hq
      simp [updV, va_up, va_rf]
    · simp [updV, va_up, hq]) oq
  rw [wd_set (I' := I) (L' := L) (R' := u2 R a i.toNatClampNeg v) ha (fun j hj => ⟨rfl, rfl, u2_n _ _ _ hj⟩) (by rw [hen, rv_up hnv])] at hP1
  exact kk H1 _ hP1 (by rw [z, hz]) (hS.put z oq (hD.2 a _ hwa))
/-- a constructor is called -/
def IOK (own : String) (idx : Nat) (y : MethodName) (bytes : ByteArray) (maxL : Nat) (q : Nat) : Prop := (Cond.methodLink own idx y ∈ GW ∨ Cond.methodLinkNest own idx y "FallingRules" ∈ nestL) ∧ Cond.instanceMethod y ∈ GW ∧ Cond.initialized y.cls ∈ GW ∧ Cond.code y bytes maxL none ∈ GW ∧ y.name = "<init>" ∧ (y.cls ≠ "java/lang/invoke/MethodHandle" ∧ y.cls ≠ "java/lang/invoke/VarHandle" ∧ (parseMethodDescriptor y.desc).map (fun d => d.parameters.length) = some q)
variable {y : MethodName} {bytes : ByteArray} {maxL nL q mc ms n1 : Nat} {rm : Room} {As st : List Value} {I' : mI} {L' : mL} {R' : mR}
theorem mm_I (hx : p.tables.exec = Jvm.exec) (hb : c.code = cc) (hml : c.maxLocals = nL) (hown : s.vm.findClass own = some m.cls) (hts : ∀ w ∈ GW, w.before args s = true) (hKK : KK D ce s) (hAO : AO2 s) (hP : va_P D vwCl (wd ce b kd ln n I L R) H) (hz : H.size = b + n) (hS : va_S A s.heap H locs) (hA : ∀ q, upA b q → A q) (V : IOK own index y bytes maxL q)
    (hM : Met l y (Cond.code y bytes maxL none :: GW) rm (va_Pc (.ref (b + a) :: As) (PN D ce b kd ln n I L R)) (va_Qv (fun u => u = (I', L', R')) (QN D ce b kd ln n1) (upA b)) mc ms (upA b)) (hn : As.length = q) (hsz : ls.size = nL) (hst : st = As.reverse ++ .ref (b + a) :: rest) (hW : (rest.map fun v => v.category).sum ≤ 8) (hrm : rm.cells = mc ∧ rm.slots = ms) (hR : rm.frames + 1 ≤ Rm.frames ∧ 8 + (maxL + 11) + rm.locals ≤ Rm.locals) (hcs : cells + mc ≤ Rm.cells ∧ slots + ms ≤ Rm.slots) (hdg : decode cc pc = .ok (.invokespecial index, 3))
    (kk : ∀ (H1 : Heap) (locs1 : List Loc), va_P D vwCl (wd ce b kd ln n1 I' L' R') H1 → H1.size = b + n1 → va_S A s.heap H1 locs1 → W p l e Rm s m args below meth c H1 locs1 (cells + mc) (slots + ms) Q (F0 m (pc + 3) ls rest)) : W p l e Rm s m args below meth c H locs cells slots Q (F0 m pc ls st) := by
  subst hst
  have hpre : PreS s H (va_Pc (.ref (b + a) :: As) (PN D ce b kd ln n I L R)) (.ref (b + a) :: As) := ⟨PN.blind, fun U hU hW => ⟨rfl, by rw [hU]; exact hP, KK.warm hW hKK, by rw [hU]; exact hz, va_AO.moved hW.alike hAO.1, va_AO.moved hW.alike hAO.2⟩⟩
  have hrun : va_Run p l e Rm s m args below meth c H locs cells slots mc ms (F0 m pc ls (As.reverse ++ .ref (b + a) :: rest)) rest (va_Qv (fun u => u = (I', L', R')) (QN D ce b kd ln n1) (upA b) (Value.ref (b + a) :: As).toArray) (upA b) := by
    rcases V.1 with h | h
    · exact va_runI (As := As) (rest := rest) ⟨hx, hb, hml, hown, hts⟩ hM ⟨callB_of q hts (good_code V.2.2.2.1) rfl hrm.1 hrm.2 (hts _ V.2.2.1) (hts _ h) V.2.2.2.2.2 hR, V.2.2.2.2.1, hts _ V.2.1⟩ hpre rfl hn hsz rfl (lv_room hW) hdg hcs
    · exact va_runIN (host := "FallingRules") (As := As) (rest := rest) ⟨hx, hb, hml, hown, hts⟩ hM ⟨va_cnB q hts (good_code V.2.2.2.1) rfl hrm.1 hrm.2 (hKK.2 _ h) (hts _ V.2.2.1) V.2.2.2.2.2 hR, V.2.2.2.2.1, hts _ V.2.1⟩ hpre rfl hn hsz rfl (lv_room hW) hdg hcs
  refine va_callv hrun hS (fun q _ h => hA q h) hA (fun u t H1 locs1 ht hvm hw hB hz1 hk1 hS1 => ?_)
  subst hw
  exact kk H1 locs1 (by rw [← ht]; exact hB.1) (by rw [← ht]; exact hB.2) hS1
theorem mm_vretN (hx : p.tables.exec = Jvm.exec) (hb : c.code = cc) (hr : meth.sig.returnType = none) (hlocks : meth.locks = false) (hP : va_P D vwCl (wd ce b kd ln n I L R) H) (hz : H.size = b + n) (hS : va_S (upA b) s.heap H locs) (hdg : decode cc pc = .ok (.return_, 1)) :
    W p l e Rm s m args below meth c H locs cells slots (MQ below (va_Qv (fun u => u = (I, L, R)) (QN D ce b kd ln n) (upA b)) args s cells slots (upA b)) (F0 m pc ls []) :=
  W.vret hx hb hr (fun t ht hW => ⟨⟨(I, L, R), rfl, rfl, by rw [ht]; exact hP, by rw [ht]; exact hz⟩, hS.F ht⟩) hS.2.2 hdg hlocks
end NR
