/-! ===== what holds between calls ===== -/
def sureP (rs : List Ru) : Prop := ∀ g, g < (rgS rs).2 → lstS rs (nI g) ≠ none
def SuC (v : Int32) (P : Prop) : Prop := (v = 0 ∧ ¬ P) ∨ (v = 1 ∧ P)
def WgC (I : mI) (rs : List Ru) : Prop := (∀ g, g < (rgS rs).2 → I 255 g = bv (lstS rs (nI g))) ∧ SuC (I 248 10) (sureP rs)
def CaC (I : mI) (L : mL) (rs : List Ru) : Prop := (I 0 9 = 0 ∨ (I 0 9 = 1 ∧ BookC I L rs)) ∧ (I 0 10 = 0 ∨ (I 0 10 = 1 ∧ I 0 9 = 1 ∧ WgC I rs)) ∧ (I 0 11 = -9 ∨ I 0 11 = bv (lstS rs (-1)))
def CI (I : mI) (L : mL) (R : mR) (now : Sn) (past : List Sn) (T : List Int32) (b n f : Int32) : Prop := RO R ∧ SnC I R 1 now ∧ HsC I R past ∧ TxC I T ∧ (I 0 12 = b ∧ I 0 13 = n ∧ I 0 14 = f) ∧ CaC I L now.1
def MI (I : mI) (now : Sn) (past : List Sn) (T : List Int32) (b n f : Int32) : Prop := SnM (I 1) now ∧ HsM I past ∧ TxM I T ∧ I 4 0 = b ∧ I 4 1 = n ∧ I 4 2 = f
def OKS (now : Sn) (past : List Sn) (T : List Int32) : Prop := SnOK now ∧ HOK past ∧ T.length ≤ 120
def Inv (IC : mI) (LC : mL) (RC : mR) (IM : mI) (_LM : mL) (RM : mR) : Prop := RM = R1M ∧ ∃ now past T b n f, OKS now past T ∧ CI IC LC RC now past T b n f ∧ MI IM now past T b n f
def FrC (I' I : mI) : Prop := (∀ a, a ≠ 243 → a ≠ 245 → a ≠ 246 → a ≠ 247 → a < 256 → I' a = I a) ∧ I' 243 2 = I 243 2
def FrLc (L' L : mL) : Prop := L' 252 = L 252 ∧ L' 254 = L 254
theorem FrC.rfl' (I : mI) : FrC I I := ⟨fun _ _ _ _ _ _ => rfl, rfl⟩
theorem FrLc.rfl' (L : mL) : FrLc L L := ⟨rfl, rfl⟩
theorem FrC.trans {I I' I'' : mI} (h : FrC I'' I') (h' : FrC I' I) : FrC I'' I := ⟨fun a x y z u v => (h.1 a x y z u v).trans (h'.1 a x y z u v), h.2.trans h'.2⟩
theorem BookC.cong {I I' : mI} {L L' : mL} {rs : List Ru} (h : BookC I L rs) (h0 : I' 248 = I 248) (h1 : I' 249 = I 249) (h2 : I' 250 = I 250) (h3 : I' 251 = I 251) (hL : FrLc L' L) : BookC I' L' rs := by
  unfold BookC CkC MxC
  rw [h0, h1, h2, h3, hL.1, hL.2]
  exact h
theorem CaC.cong {I I' : mI} {L L' : mL} {rs : List Ru} (h : CaC I L rs) (h9 : I' 0 9 = I 0 9) (h10 : I' 0 10 = I 0 10) (h11 : I' 0 11 = I 0 11) (hI : ∀ a, (a = 248 ∨ a = 249 ∨ a = 250 ∨ a = 251 ∨ a = 255) → I' a = I a) (hL : FrLc L' L) : CaC I' L' rs := by
  refine ⟨?_, ?_, by rw [h11]; exact h.2.2⟩
  · rw [h9]
    exact h.1.imp id (fun w => ⟨w.1, w.2.cong (hI _ (by omega)) (hI _ (by omega)) (hI _ (by omega)) (hI _ (by omega)) hL⟩)
  · rw [h9, h10]
    refine h.2.1.imp id (fun w => ⟨w.1, w.2.1, ?_⟩)
    unfold WgC
    rw [hI 255 (by omega), hI 248 (by omega)]
    exact w.2.2
theorem HsC.fr {I I' : mI} {R : mR} {ps : List Sn} (hR : RO R) (hO : HOK ps) (h : HsC I R ps) (he : ∀ a, 41 ≤ a → a ≤ 242 → I' a = I a) : HsC I' R ps := by
  refine ⟨by rw [he 41 (by omega) (by omega)]; exact h.1, fun i hi => ?_⟩
  have h5 := hO.1
  obtain ⟨j, j1, j2⟩ := hR.2.2.2.1 i (by omega)
  refine (h.2 i hi).cong (by rw [j2]; exact hR.2.2.1 j j1) (hO.2 i hi).1.1 (fun a x y => he a (by omega) (by omega)) rfl
theorem CI.fr {I I' : mI} {L L' : mL} {R : mR} {now : Sn} {past : List Sn} {T : List Int32} {b n f : Int32} (hs : OKS now past T) (h : CI I L R now past T b n f) (hI : FrC I' I) (hL : FrLc L' L) : CI I' L' R now past T b n f := by
  obtain ⟨k1, k2, k3, k4, k5, k6⟩ := h
  have hc : ∀ a, a < 243 → I' a = I a := fun a ha => hI.1 a (by omega) (by omega) (by omega) (by omega) (by omega)
  refine ⟨k1, k2.cong k1.2.1 hs.1.1.1 (fun a x y => hc a (by omega)) rfl, k3.fr k1 hs.2.1 (fun a x y => hc a (by omega)), ?_, by rw [hc 0 (by omega)]; exact k5, k6.cong (by rw [hc 0 (by omega)]) (by rw [hc 0 (by omega)]) (by rw [hc 0 (by omega)]) (fun a ha => hI.1 a (by omega) (by omega) (by omega) (by omega) (by omega)) hL⟩
  unfold TxC
  rw [hI.2, hI.1 244 (by decide) (by decide) (by decide) (by decide) (by decide)]
  exact k4
/-- a counter, or another place of the object itself, has changed -/
theorem CI.c0 {I I' : mI} {L : mL} {R : mR} {now : Sn} {past : List Sn} {T : List Int32} {b n f : Int32} (hs : OKS now past T) (h : CI I L R now past T b n f) (hI : ∀ a, a ≠ 0 → I' a = I a) {b' n' f' : Int32} (hb : I' 0 12 = b' ∧ I' 0 13 = n' ∧ I' 0 14 = f') (hc : CaC I' L now.1) : CI I' L R now past T b' n' f' := by
  obtain ⟨k1, k2, k3, k4, k5, k6⟩ := h
  refine ⟨k1, k2.cong k1.2.1 hs.1.1.1 (fun a x y => hI a (by omega)) rfl, k3.fr k1 hs.2.1 (fun a x y => hI a (by omega)), ?_, hb, hc⟩
  unfold TxC
  rw [hI 243 (by decide), hI 244 (by decide)]
  exact k4
theorem CI.ct {I : mI} {L : mL} {R : mR} {now : Sn} {past : List Sn} {T : List Int32} {b n f : Int32} (hs : OKS now past T) (h : CI I L R now past T b n f) {k : Nat} (hk : 12 ≤ k) (v : Int32) : CaC (u2 I 0 k v) L now.1 := h.2.2.2.2.2.cong (by rw [u2_o _ _ _ (by omega)]) (by rw [u2_o _ _ _ (by omega)]) (by rw [u2_o _ _ _ (by omega)]) (fun a ha => by rw [u2_n _ _ _ (by omega)]) (FrLc.rfl' L)
theorem refC {I : mI} {L : mL} {R : mR} {now : Sn} {past : List Sn} {T : List Int32} {b n f : Int32} (hs : OKS now past T) (h : CI I L R now past T b n f) : ∃ I', f_X10_refuseBad 0 I = some (-2, I') ∧ CI I' L R now past T (b + 1) n f := by
  refine ⟨u2 I 0 12 (I 0 12 + 1), rfl, h.c0 hs (fun a ha => by rw [u2_n _ _ _ ha]) ⟨by rw [u2_e, h.2.2.2.2.1.1], by rw [u2_o _ _ _ (by decide)]; exact h.2.2.2.2.1.2.1, by rw [u2_o _ _ _ (by decide)]; exact h.2.2.2.2.1.2.2⟩ (h.ct hs (by decide) _)⟩
def FrMi (I' I : mI) : Prop := I' 1 = I 1 ∧ I' 3 = I 3 ∧ I' 4 = I 4 ∧ I' 5 = I 5 ∧ I' 0 3 = I 0 3 ∧ I' 0 6 = I 0 6
theorem MI.fr {I I' : mI} {now : Sn} {past : List Sn} {T : List Int32} {b n f : Int32} (h : MI I now past T b n f) (hf : FrMi I' I) : MI I' now past T b n f := by
  obtain ⟨f1, f2, f3, f4, f5, f6⟩ := hf
  unfold MI HsM TxM
  rw [f1, f2, f3, f4, f5, f6]
  exact h
theorem MI.r4 {I I' : mI} {now : Sn} {past : List Sn} {T : List Int32} {b n f b' n' f' : Int32} (h : MI I now past T b n f) (hf : ∀ a, a ≠ 4 → I' a = I a) (h4 : I' 4 0 = b' ∧ I' 4 1 = n' ∧ I' 4 2 = f') : MI I' now past T b' n' f' := by
  unfold MI HsM TxM
  rw [hf 0 (by decide), hf 1 (by decide), hf 3 (by decide), hf 5 (by decide)]
  exact ⟨h.1, h.2.1, h.2.2.1, h4⟩
theorem refM2 {I : mI} {now : Sn} {past : List Sn} {T : List Int32} {b n f : Int32} (h : MI I now past T b n f) : ∃ I', f_X11_refuses 0 (-2) I R1M = some (-2, I') ∧ MI I' now past T (b + 1) n f := by
  obtain ⟨h1, h2, h3, h4, h5, h6⟩ := id h
  refine ⟨u2 I 4 0 (b + 1), ?_, h.r4 (fun a ha => by rw [u2_n _ _ _ ha]) ⟨by rw [u2_e], by rw [u2_o _ _ _ (by decide)]; exact h5, by rw [u2_o _ _ _ (by decide)]; exact h6⟩⟩
  unfold f_X11_refuses
  rw [mr4, lm4, show (-2 : Int32) - -2 = 0 from rfl, if_pos (show inb 0 3 = true from rfl), i0, h4]
  rfl
theorem refM3 {I : mI} {now : Sn} {past : List Sn} {T : List Int32} {b n f : Int32} (h : MI I now past T b n f) : ∃ I', f_X11_refuses 0 (-3) I R1M = some (-3, I') ∧ MI I' now past T b (n + 1) f := by
  obtain ⟨h1, h2, h3, h4, h5, h6⟩ := id h
  refine ⟨u2 I 4 1 (n + 1), ?_, h.r4 (fun a ha => by rw [u2_n _ _ _ ha]) ⟨by rw [u2_o _ _ _ (by decide)]; exact h4, by rw [u2_e], by rw [u2_o _ _ _ (by decide)]; exact h6⟩⟩
  unfold f_X11_refuses
  rw [mr4, lm4, show (-2 : Int32) - -3 = 1 from rfl, if_pos (show inb 1 3 = true from rfl), t1, h5]
  rfl
theorem refM4 {I : mI} {now : Sn} {past : List Sn} {T : List Int32} {b n f : Int32} (h : MI I now past T b n f) : ∃ I', f_X11_refuses 0 (-4) I R1M = some (-4, I') ∧ MI I' now past T b n (f + 1) := by
  obtain ⟨h1, h2, h3, h4, h5, h6⟩ := id h
  refine ⟨u2 I 4 2 (f + 1), ?_, h.r4 (fun a ha => by rw [u2_n _ _ _ ha]) ⟨by rw [u2_o _ _ _ (by decide)]; exact h4, by rw [u2_o _ _ _ (by decide)]; exact h5, by rw [u2_e]⟩⟩
  unfold f_X11_refuses
  rw [mr4, lm4, show (-2 : Int32) - -4 = 2 from rfl, if_pos (show inb 2 3 = true from rfl), t2, h6]
  rfl
