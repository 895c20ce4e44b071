/-! ===== rings: the class weighs them all, the model asks whether all can be weighed ===== -/
theorem lc255' : lnC 255 = 60 := rfl
def FrWg (I' I : mI) : Prop := (∀ a, a < 256 → a ≠ 248 → a ≠ 255 → I' a = I a) ∧ ∀ k, k ≠ 10 → I' 248 k = I 248 k
theorem FrWg.rfl' (I : mI) : FrWg I I := ⟨fun _ _ _ _ => rfl, fun _ _ => rfl⟩
theorem FrWg.trans {I I' I'' : mI} (h : FrWg I'' I') (h' : FrWg I' I) : FrWg I'' I := ⟨fun a x y z => (h.1 a x y z).trans (h'.1 a x y z), fun k x => (h.2 k x).trans (h'.2 k x)⟩
theorem FrWg.sc {I I' : mI} (h : FrSc I' I) : FrWg I' I := ⟨fun a x _ _ => h.1 a (by omega) (by omega) (by omega) (by omega), fun k _ => by rw [h.1 248 (by decide) (by decide) (by decide) (by decide)]⟩
theorem BookC.wg {I I' : mI} {L : mL} {rs : List Ru} (h : BookC I L rs) (hf : FrWg I' I) : BookC I' L rs := by
  unfold BookC CkC
  rw [hf.2 7 (by decide), hf.2 8 (by decide), hf.2 9 (by decide), hf.1 249 (by decide) (by decide) (by decide), hf.1 250 (by decide) (by decide) (by decide), hf.1 251 (by decide) (by decide) (by decide)]
  exact h
theorem SuC.uniq {v v' : Int32} {P : Prop} (h : SuC v P) (h' : SuC v' P) : v = v' := by
  rcases h with ⟨a, b⟩ | ⟨a, b⟩
  · rcases h' with ⟨c, d⟩ | ⟨c, d⟩
    · rw [a, c]
    · exact absurd d b
  · rcases h' with ⟨c, d⟩ | ⟨c, d⟩
    · exact absurd b d
    · rw [a, c]
theorem SuC.cong {v : Int32} {P Q : Prop} (h : SuC v P) (e : P ↔ Q) : SuC v Q := h.imp (fun w => ⟨w.1, fun q => w.2 (e.mpr q)⟩) (fun w => ⟨w.1, e.mp w.2⟩)
noncomputable def sureV (rs : List Ru) : Int32 := by
  classical
  exact if sureP rs then 1 else 0
theorem sureV_e {rs : List Ru} {v : Int32} (h : SuC v (sureP rs)) : v = sureV rs := by
  refine h.uniq ?_
  unfold sureV
  by_cases w : sureP rs
  · rw [if_pos w]; exact Or.inr ⟨rfl, w⟩
  · rw [if_neg w]; exact Or.inl ⟨rfl, w⟩
theorem wrC_L {R : mR} {rs : List Ru} {L : mL} (hR : RO R) (hr : RsOK rs) :
    ∀ (z n g : Nat) (I : mI), (rgS rs).2 - g = z → z < n → g ≤ (rgS rs).2 → NoC I R rs → BookC I L rs → (∀ j, j < g → I 255 j = bv (lstS rs (nI j))) → SuC (I 248 10) (∀ j, j < g → lstS rs (nI j) ≠ none) →
      ∃ I', f_X10_weighRings_L18 n 0 (nI g) I R = some I' ∧ WgC I' rs ∧ FrWg I' I := by
  have h60 : nCl rs ≤ 60 := callsS_len hr
  have hle := rgS_le rs
  have hr5 := hr.1
  have r6 : R 248 6 = 255 := hR.bk.2.2.2.2.2.2
  intro z
  induction z with
  | zero =>
    intro n g I g1 g2 g3 g4 g5 g6 g7
    obtain ⟨n, rfl⟩ : ∃ x, n = x + 1 := ⟨n - 1, by omega⟩
    rw [f_X10_weighRings_L18, hR.r4, g5.2.2.2.2.2, if_pos (nI_le (by omega) (by omega))]
    have e : g = (rgS rs).2 := by omega
    subst e
    exact ⟨I, rfl, ⟨g6, g7⟩, FrWg.rfl' I⟩
  | succ z ih =>
    intro n g I g1 g2 g3 g4 g5 g6 g7
    obtain ⟨n, rfl⟩ : ∃ x, n = x + 1 := ⟨n - 1, by omega⟩
    obtain ⟨w, I1, e1, e2, e3⟩ := lwC_ok (x := nI g) hR hr g4 (fun _ => ⟨g5.2.1, g5.2.2.2.2.1⟩)
    have hw := lstS_e e3
    have c : ∀ a, a < 256 → I1 a = I a := fun a ha => e2.1 a (by omega) (by omega) (by omega) (by omega)
    rw [f_X10_weighRings_L18, hR.r4, g5.2.2.2.2.2, if_neg (nI_ge (by omega) (by omega)), hR.r5, hR.r0, e1, bd2_s, r6, lc255', if_pos (inb_nI (by omega) (by omega))]
    simp only [bnd_e]
    rw [nI_clamp (by omega), u2_e, nI_1 g]
    have F1 : FrWg (u2 I1 255 g (bv w)) I := ⟨fun a x y z => by rw [u2_n _ _ _ z, c a x], fun k _ => by rw [u2_n _ _ _ (by decide), c 248 (by decide)]⟩
    have nx : ∀ I2, FrWg I2 I → (∀ j, j < g + 1 → I2 255 j = bv (lstS rs (nI j))) → SuC (I2 248 10) (∀ j, j < g + 1 → lstS rs (nI j) ≠ none) → ∃ I', f_X10_weighRings_L18 n 0 (nI (g + 1)) I2 R = some I' ∧ WgC I' rs ∧ FrWg I' I := by
      intro I2 F2 q1 q2
      obtain ⟨I3, a1, a2, a3⟩ := ih n (g + 1) I2 (by omega) (by omega) (by omega) (g4.cong hR hr5 (fun a ha => F2.1 a (by omega) (by omega) (by omega))) (g5.wg F2) q1 q2
      exact ⟨I3, a1, a2, a3.trans F2⟩
    have q1 : ∀ j, j < g + 1 → u2 I1 255 g (bv w) 255 j = bv (lstS rs (nI j)) := fun j hj => by
      by_cases e : j = g
      · rw [e, u2_e, hw]
      · rw [u2_o _ _ _ e, c 255 (by decide)]
        exact g6 j (by omega)
    by_cases hn : w = none
    · rw [if_pos (show bv w = -1 by rw [hn]; rfl)]
      refine nx _ ⟨fun a x y z => by rw [u2_n _ _ _ y]; exact F1.1 a x y z, fun k hk => by rw [u2_o _ _ _ hk]; exact F1.2 k hk⟩ (fun j hj => by rw [u2_n _ _ _ (by decide)]; exact q1 j hj) (Or.inl ⟨by rw [u2_e], fun q => q g (by omega) (by rw [← hw]; exact hn)⟩)
    · have hb : ¬ bv w = -1 := by
        cases w with
        | none => exact absurd rfl hn
        | some N =>
          obtain ⟨low, top, k, l, m, h1, h2, h3, h4, h5, h6, h7, h8⟩ := e3.1
          exact bv_ne (Nat.lt_trans (Blk.lt (by omega) (by omega) (by omega) (by omega) h8) (by decide))
      rw [if_neg hb]
      refine nx _ F1 q1 ?_
      rw [u2_n _ _ _ (by decide), c 248 (by decide)]
      refine g7.cong ⟨fun q j hj => ?_, fun q j hj => q j (by omega)⟩
      by_cases e : j = g
      · rw [e, ← hw]; exact hn
      · exact q j (by omega)
theorem wrC {I : mI} {L : mL} {R : mR} {now : Sn} {past : List Sn} {T : List Int32} {b n f : Int32} (hs : OKS now past T) (h : CI I L R now past T b n f) (h9 : I 0 9 = 1) (hB : BookC I L now.1) : ∃ I', f_X10_weighRings 0 I R = some I' ∧ CI I' L R now past T b n f ∧ WgC I' now.1 := by
  obtain ⟨hR, k2, k3, k4, k5, k6⟩ := id h
  unfold f_X10_weighRings
  rcases k6.2.1 with w | ⟨w1, w2, w3⟩
  · have F0 : FrWg (u2 I 248 10 1) I := ⟨fun a _ y _ => by rw [u2_n _ _ _ y], fun k hk => by rw [u2_o _ _ _ hk]⟩
    have h60 : nCl now.1 ≤ 60 := callsS_len hs.1.1
    have hle := rgS_le now.1
    obtain ⟨I1, e1, e2, e3⟩ := wrC_L (L := L) hR hs.1.1 (rgS now.1).2 FU 0 (u2 I 248 10 1) (by omega) (by rw [FU_eq]; omega) (by omega) (NoC.cong hR hs.1.1.1 k2.1 (fun a ha => F0.1 a (by omega) (by omega) (by omega))) (hB.wg F0) (fun j hj => by omega) (Or.inr ⟨by rw [u2_e], fun j hj => by omega⟩)
    have F1 := e3.trans F0
    rw [nI0] at e1
    rw [if_pos w, hR.r4]
    simp only [bnd_e]
    rw [e1, bd1_s]
    have hu : ∀ a, a ≠ 0 → u2 I1 0 10 1 a = I1 a := fun a ha => by rw [u2_n _ _ _ ha]
    have cc : ∀ a, a < 248 → I1 a = I a := fun a ha => F1.1 a (by omega) (by omega) (by omega)
    have w3 : WgC (u2 I1 0 10 1) now.1 := by
      unfold WgC
      rw [hu 255 (by decide), hu 248 (by decide)]
      exact e2
    refine ⟨_, rfl, ⟨hR, k2.cong hR.2.1 hs.1.1.1 (fun a x y => by rw [hu a (by omega), cc a (by omega)]) rfl, k3.fr hR hs.2.1 (fun a x y => by rw [hu a (by omega), cc a (by omega)]), k4.cong (by rw [hu 243 (by decide), cc 243 (by decide)]) (by rw [hu 244 (by decide), cc 244 (by decide)]), ?_, Or.inr ⟨by rw [u2_o _ _ _ (by decide), cc 0 (by decide)]; exact h9, ?_⟩, Or.inr ⟨by rw [u2_e], by rw [u2_o _ _ _ (by decide), cc 0 (by decide)]; exact h9, w3⟩, by rw [u2_o _ _ _ (by decide), cc 0 (by decide)]; exact k6.2.2⟩, w3⟩
    · rw [u2_o _ _ _ (by decide), u2_o _ _ _ (by decide), u2_o _ _ _ (by decide), cc 0 (by decide)]
      exact k5
    · exact (hB.wg F1).cong (hu _ (by decide)) (hu _ (by decide)) (hu _ (by decide)) (hu _ (by decide)) (FrLc.rfl' _)
  · rw [if_neg (by rw [w1]; decide)]
    exact ⟨I, rfl, h, w3⟩
theorem BookM.bk {I : mI} {rs : List Ru} (h : BookM I rs) : BkM I rs := ⟨h.1, h.2.2.1⟩
theorem BookM.e8 {I I' : mI} {rs : List Ru} (h : BookM I rs) (hf : ∀ a, a ≠ 8 → I' a = I a) : BookM I' rs := by
  unfold BookM CkM MxM
  rw [hf 0 (by decide), hf 12 (by decide), hf 13 (by decide), hf 14 (by decide), hf 16 (by decide)]
  exact h
theorem ltM' {rs : List Ru} {g : Nat} (hg : g < 60) (hr : RsOK rs) {I : mI} {L : mL} (g4 : RsM (I 1) rs) (gB : BookM I rs) : ∃ I' L', f_X11_lighterOf 0 (nI g) I L R1M = some (bv (lstS rs (nI g)), I', L') ∧ (∀ a, a ≠ 8 → I' a = I a) ∧ FrLw L' L := by
  obtain ⟨I1, L1, w, e1, e2, e3, e4⟩ := ltM_ok (x := nI g) (L := L) (bv_ne (by omega)) hr g4 gB.bk
  exact ⟨I1, L1, by rw [e1, lstS_e e4], e2, e3⟩
theorem lst_ne {rs : List Ru} {x : Int32} {N : Nat} {w : Option Nat} (h : Min (Goodw rs x) w) (hw : w = some N) : N < 10000000 := by
  subst hw
  obtain ⟨low, top, k, l, m, h1, h2, h3, h4, h5, h6, h7, h8⟩ := h.1
  exact Blk.lt (by omega) (by omega) (by omega) (by omega) h8
theorem ctM_L {rs : List Ru} (hr : RsOK rs) :
    ∀ (z n g : Nat) (I : mI) (L : mL) (v : Int32), (rgS rs).2 - g = z → z < n → g ≤ (rgS rs).2 → RsM (I 1) rs → BookM I rs → SuC v (∀ j, j < g → lstS rs (nI j) ≠ none) →
      ∃ I' L' v', f_X11_callsTold_L25 n 0 v (nI g) I L R1M = some (v', I', L') ∧ SuC v' (sureP rs) ∧ (∀ a, a ≠ 8 → I' a = I a) ∧ FrLw L' L := by
  have h60 : nCl rs ≤ 60 := callsS_len hr
  have hle := rgS_le rs
  intro z
  induction z with
  | zero =>
    intro n g I L v g1 g2 g3 g4 g5 g6
    obtain ⟨n, rfl⟩ : ∃ x, n = x + 1 := ⟨n - 1, by omega⟩
    rw [f_X11_callsTold_L25, g5.2.2.2, if_pos (nI_le (by omega) (by omega))]
    have e : g = (rgS rs).2 := by omega
    subst e
    exact ⟨I, L, v, rfl, g6, fun _ _ => rfl, FrLw.rfl' L⟩
  | succ z ih =>
    intro n g I L v g1 g2 g3 g4 g5 g6
    obtain ⟨n, rfl⟩ : ∃ x, n = x + 1 := ⟨n - 1, by omega⟩
    rw [f_X11_callsTold_L25, g5.2.2.2, if_neg (nI_ge (by omega) (by omega))]
    rcases g6 with ⟨w1, w2⟩ | ⟨w1, w2⟩
    · rw [if_pos w1]
      exact ⟨I, L, v, rfl, Or.inl ⟨w1, fun q => w2 (fun j hj => q j (by omega))⟩, fun _ _ => rfl, FrLw.rfl' L⟩
    · obtain ⟨I1, L1, w, e1, e2, e3, e4⟩ := ltM_ok (x := nI g) (L := L) (bv_ne (by omega)) hr g4 g5.bk
      have hw := lstS_e e4
      rw [if_neg (by rw [w1]; decide), e1, bd3_s]
      simp only [bnd_e]
      rw [nI_1 g]
      by_cases hn : w = none
      · rw [if_pos (show bv w = -1 by rw [hn]; rfl)]
        obtain ⟨I2, L2, v2, y1, y2, y3, y4⟩ := ih n (g + 1) I1 L1 0 (by omega) (by omega) (by omega) (by rw [e2 1 (by decide)]; exact g4) (g5.e8 e2) (Or.inl ⟨rfl, fun q => q g (by omega) (by rw [← hw]; exact hn)⟩)
        exact ⟨I2, L2, v2, y1, y2, fun a ha => (y3 a ha).trans (e2 a ha), y4.trans e3⟩
      · have hb : ¬ bv w = -1 := by
          cases w with
          | none => exact absurd rfl hn
          | some N => exact bv_ne (Nat.lt_trans (lst_ne e4 rfl) (by decide))
        rw [if_neg hb]
        obtain ⟨I2, L2, v2, y1, y2, y3, y4⟩ := ih n (g + 1) I1 L1 1 (by omega) (by omega) (by omega) (by rw [e2 1 (by decide)]; exact g4) (g5.e8 e2) (Or.inr ⟨rfl, fun j hj => by
          by_cases e : j = g
          · rw [e, ← hw]; exact hn
          · exact w2 j (by omega)⟩)
        exact ⟨I2, L2, v2, y1, y2, fun a ha => (y3 a ha).trans (e2 a ha), y4.trans e3⟩
