/-! ===== writing: the class ===== -/
def WrC (I : mI) (w : List Int32) : Prop := I 246 1 = nI w.length ∧ ∀ k, k < w.length → I 247 k = w.getD k 0
def FrW (I' I : mI) : Prop := ∀ a, a ≠ 246 → a ≠ 247 → I' a = I a
theorem FrW.trans {I I' I'' : mI} (h : FrW I'' I') (h' : FrW I' I) : FrW I'' I := fun a x y => (h a x y).trans (h' a x y)
theorem lc247 : lnC 247 = 97 := rfl
theorem putC_ok {R : mR} (hR : R 246 0 = 247) {I : mI} {w : List Int32} (h : WrC I w) (hl : w.length < 97) (c : Int32) : ∃ I', f_X5_put 246 c I R = some I' ∧ WrC I' (w ++ [c]) ∧ FrW I' I := by
  refine ⟨u2 (u2 I 247 w.length c) 246 1 (nI (w.length + 1)), ?_, ⟨by rw [u2_e, List.length_append]; rfl, fun k hk => ?_⟩, fun a x y => by rw [u2_n _ _ _ x, u2_n _ _ _ y]⟩
  · unfold f_X5_put
    simp only [bnd]
    rw [hR, lc247, h.1, if_neg (nI_ge hl (by omega)), if_pos (inb_nI hl (by omega)), nI_clamp (by omega), u2_n _ _ _ (show (246 : Nat) ≠ 247 by decide), h.1, nI_1]
  · rw [u2_n _ _ _ (by decide)]
    rw [List.length_append, List.length_singleton] at hk
    by_cases hk2 : k = w.length
    · rw [hk2, u2_e, show w.length = w.length + 0 by rfl, getD_app_r]
      rfl
    · rw [u2_o _ _ _ hk2, getD_app_l (by omega)]
      exact h.2 k (by omega)
def ShO (t : Nat) : Prop := t + 2 < 246 ∨ 247 < t
theorem TmC.frW {t : Nat} {I I' : mI} {l : List Int32} (ht : ShO t) (h : TmC I t l) (hf : FrW I' I) : TmC I' t l := by
  unfold ShO at ht
  exact h.cong (hf _ (by omega) (by omega)) (hf _ (by omega) (by omega)) (hf _ (by omega) (by omega))
theorem rep_c (w : List Int32) (c : Int32) (n : Nat) : w ++ List.replicate (1 + n) c = (w ++ [c]) ++ List.replicate n c := by
  rw [Nat.add_comm, List.replicate_succ, List.append_assoc]
  rfl
theorem wb4_L {R : mR} {t c : Nat} {l : List Int32} (hR : R 246 0 = 247) (hT : TO R t c) (ht : ShO t) (hc : l.length ≤ c) {p : Nat} (hp : p < 1000) :
    ∀ (k n : Nat) (I : mI) (w : List Int32), k < n → k ≤ l.length → TmC I t l → WrC I w → w.length + clF l p k ≤ 97 → ∃ I', f_X5_writeBehind_L4 n 246 t (nI p) (nI k + (-1)) I R = some I' ∧ WrC I' (w ++ List.replicate (clF l p k) 41) ∧ FrW I' I := by
  obtain ⟨r0, r1, l0, l1, lc⟩ := id hT
  intro k
  induction k with
  | zero =>
    intro n I w h1 h2 h3 h4 h5
    obtain ⟨n, rfl⟩ : ∃ q, n = q + 1 := ⟨n - 1, by omega⟩
    refine ⟨I, ?_, by rw [show clF l p 0 = 0 from rfl, List.replicate_zero, List.append_nil]; exact h4, fun _ _ _ => rfl⟩
    rw [f_X5_writeBehind_L4, if_pos (show nI 0 + (-1) < 0 by decide)]
  | succ k ih =>
    intro n I w h1 h2 h3 h4 h5
    obtain ⟨n, rfl⟩ : ∃ q, n = q + 1 := ⟨n - 1, by omega⟩
    have hel := ep_le (l := l) (k := k) (by omega)
    rw [f_X5_writeBehind_L4]
    simp only [bnd]
    rw [pk_m1, if_neg (nI_pos (by omega)), r1, l1, if_pos (inb_nI (by omega) (by omega)), nI_clamp (by omega), h3.2.2 k (by omega)]
    rw [show clF l p (k + 1) = (if ep l k = p then 1 else 0) + clF l p k from rfl] at h5 ⊢
    by_cases he : ep l k = p
    · rw [if_pos he] at h5 ⊢
      obtain ⟨I1, e1, e2, e3⟩ := putC_ok hR h4 (by omega) 41
      rw [if_pos (by rw [he]), e1, bd1_s]
      obtain ⟨I2, f1, f2, f3⟩ := ih n I1 (w ++ [41]) (by omega) (by omega) (h3.frW ht e3) e2 (by rw [List.length_append, List.length_singleton]; omega)
      exact ⟨I2, f1, by rw [rep_c]; exact f2, f3.trans e3⟩
    · rw [if_neg he, Nat.zero_add] at h5 ⊢
      rw [if_neg (fun q => he (nI_inj (by omega) (by omega) q))]
      exact ih n I w (by omega) (by omega) h3 h4 h5
theorem wb34_L {R : mR} {t c : Nat} {l : List Int32} (hR : R 246 0 = 247) (hT : TO R t c) (ht : ShO t) (hc : l.length ≤ c) {p : Nat} (hp : p < 1000) :
    ∀ (k n : Nat) (I : mI) (w : List Int32), k < n → k < l.length → TmC I t l → WrC I w → w.length + cmF l p k ≤ 97 → ∃ I', f_X5_writeBehind_L34 n 246 t (nI p) (nI k + (-1)) I R = some I' ∧ WrC I' (w ++ List.replicate (cmF l p k) 44) ∧ FrW I' I := by
  obtain ⟨r0, r1, l0, l1, lc⟩ := id hT
  intro k
  induction k with
  | zero =>
    intro n I w h1 h2 h3 h4 h5
    obtain ⟨n, rfl⟩ : ∃ q, n = q + 1 := ⟨n - 1, by omega⟩
    refine ⟨I, ?_, by rw [show cmF l p 0 = 0 from rfl, List.replicate_zero, List.append_nil]; exact h4, fun _ _ _ => rfl⟩
    rw [f_X5_writeBehind_L34, if_pos (show nI 0 + (-1) < 0 by decide)]
  | succ k ih =>
    intro n I w h1 h2 h3 h4 h5
    obtain ⟨n, rfl⟩ : ∃ q, n = q + 1 := ⟨n - 1, by omega⟩
    have hel := ep_le (l := l) (k := k + 1) (by omega)
    rw [f_X5_writeBehind_L34]
    simp only [bnd]
    rw [pk_m1, if_neg (nI_pos (by omega)), r0, l0, if_pos (inb_nI (by omega) (by omega)), nI_clamp (show k < 2 ^ 31 by omega), h3.2.1 k (by omega), nI_1 k, r1, l1, if_pos (inb_nI (by omega) (by omega)), nI_clamp (show k + 1 < 2 ^ 31 by omega), h3.2.2 (k + 1) (by omega)]
    have hcm : cmF l p (k + 1) = (if l.getD k 0 = 103 ∧ ep l (k + 1) = p then 1 else 0) + cmF l p k := rfl
    by_cases hg : l.getD k 0 = 103
    · rw [if_pos hg]
      by_cases he : ep l (k + 1) = p
      · rw [if_pos ⟨hg, he⟩] at hcm
        rw [hcm] at h5 ⊢
        obtain ⟨I1, e1, e2, e3⟩ := putC_ok hR h4 (by omega) 44
        rw [if_pos (show nI (ep l (k + 1)) = nI p by rw [he]), e1, bd1_s]
        obtain ⟨I2, f1, f2, f3⟩ := ih n I1 (w ++ [44]) (by omega) (by omega) (h3.frW ht e3) e2 (by rw [List.length_append, List.length_singleton]; omega)
        exact ⟨I2, f1, by rw [rep_c]; exact f2, f3.trans e3⟩
      · rw [if_neg (fun q => he q.2), Nat.zero_add] at hcm
        rw [hcm] at h5 ⊢
        rw [if_neg (fun q => he (nI_inj (by omega) (by omega) q))]
        exact ih n I w (by omega) (by omega) h3 h4 h5
    · rw [if_neg hg]
      rw [if_neg (fun q => hg q.1), Nat.zero_add] at hcm
      rw [hcm] at h5 ⊢
      exact ih n I w (by omega) (by omega) h3 h4 h5
theorem nI_m2 (i : Nat) : nI (i + 1) - 2 = nI i + (-1) := by
  rw [← nI_1 i]
  grind
theorem wsC_L {R : mR} {t c : Nat} {l : List Int32} (hR : R 246 0 = 247) (hT : TO R t c) (ht : ShO t) (hc : l.length ≤ c) :
    ∀ (q n i : Nat) (I : mI) (w : List Int32), l.length - i = q → q < n → i ≤ l.length → TmC I t l → WrC I w → w.length + (wrF l q i).length ≤ 97 → ∃ I', f_X5_writeSide_L2 n 246 t (nI i) I R = some I' ∧ WrC I' (w ++ wrF l q i) ∧ FrW I' I := by
  obtain ⟨r0, r1, l0, l1, lc⟩ := id hT
  intro q
  induction q with
  | zero =>
    intro n i I w h1 h2 h3 h4 h5 h6
    obtain ⟨n, rfl⟩ : ∃ q, n = q + 1 := ⟨n - 1, by omega⟩
    refine ⟨I, ?_, by rw [show wrF l 0 i = [] from rfl, List.append_nil]; exact h5, fun _ _ _ => rfl⟩
    rw [f_X5_writeSide_L2, h4.1, if_pos (nI_le (by omega) (by omega))]
  | succ q ih =>
    intro n i I w h1 h2 h3 h4 h5 h6
    obtain ⟨n, rfl⟩ : ∃ q, n = q + 1 := ⟨n - 1, by omega⟩
    rw [show wrF l (q + 1) i = l.getD i 0 :: (bh l i ++ wrF l q (i + 1)) from rfl] at h6 ⊢
    rw [List.length_cons, List.length_append] at h6
    obtain ⟨I1, e1, e2, e3⟩ := putC_ok hR h5 (by omega) (l.getD i 0)
    have h4' := h4.frW ht e3
    rw [f_X5_writeSide_L2]
    simp only [bnd]
    rw [h4.1, if_neg (nI_ge (by omega) (by omega)), r0, l0, if_pos (inb_nI (by omega) (by omega)), nI_clamp (by omega), h4.2.1 i (by omega), e1, bd1_s, h4'.2.1 i (by omega), pB, bd1_s, nI_1 i]
    have fin : ∀ I2, WrC I2 ((w ++ [l.getD i 0]) ++ bh l i) → FrW I2 I1 → ∃ I', f_X5_writeSide_L2 n 246 t (nI (i + 1)) I2 R = some I' ∧ WrC I' (w ++ l.getD i 0 :: (bh l i ++ wrF l q (i + 1))) ∧ FrW I' I := by
      intro I2 f2 f3
      obtain ⟨I3, g1, g2, g3⟩ := ih n (i + 1) I2 _ (by omega) (by omega) (by omega) (h4'.frW ht f3) f2 (by rw [List.length_append, List.length_append, List.length_singleton]; omega)
      refine ⟨I3, g1, ?_, g3.trans (f3.trans e3)⟩
      rw [List.append_assoc, List.append_assoc] at g2
      exact g2
    by_cases hw : wn (l.getD i 0) = 0
    · have hb : bh l i = List.replicate (clF l (i + 1) i) 41 ++ List.replicate (cmF l (i + 1) i) 44 := by unfold bh; rw [if_pos hw]
      have hbl : (bh l i).length = clF l (i + 1) i + cmF l (i + 1) i := by rw [hb, List.length_append, List.length_replicate, List.length_replicate]
      rw [hw, if_pos (show nI 0 ≤ 0 by decide)]
      obtain ⟨I2, f1, f2, f3⟩ := wb4_L hR hT ht hc (p := i + 1) (by omega) i FU I1 (w ++ [l.getD i 0]) (by rw [FU_eq]; omega) (by omega) h4' e2 (by rw [List.length_append, List.length_singleton]; omega)
      obtain ⟨I3, g1, g2, g3⟩ := wb34_L hR hT ht hc (p := i + 1) (by omega) i FU I2 _ (by rw [FU_eq]; omega) (by omega) (h4'.frW ht f3) f2 (by rw [List.length_append, List.length_append, List.length_singleton, List.length_replicate]; omega)
      have hwb : f_X5_writeBehind 246 t (nI (i + 1)) I1 R = some I3 := by
        unfold f_X5_writeBehind
        rw [nI_m2, f1, bd1_s, g1]
        rfl
      rw [hwb, bd1_s]
      refine fin I3 ?_ (g3.trans f3)
      rw [hb, ← List.append_assoc]
      exact g2
    · have hw2 := wn_le (l.getD i 0)
      have hb : bh l i = [40] := by unfold bh; rw [if_neg hw]
      rw [hb, List.length_singleton] at h6
      obtain ⟨I2, f1, f2, f3⟩ := putC_ok hR e2 (by rw [List.length_append, List.length_singleton]; omega) 40
      rw [if_neg (nI_nle (by omega) (by omega)), f1, bd1_s]
      exact fin I2 (by rw [hb]; exact f2) f3
def shS (u : Ru) : List Int32 := wrS u.1 ++ [62] ++ wrS u.2
theorem shS_len {u : Ru} (h : RuOK u) : (shS u).length ≤ 97 ∧ (wrS u.1).length ≤ 48 ∧ (wrS u.2).length ≤ 48 := by
  have h1 := wrS_len h.1
  have h2 := wrS_len h.2.1
  have h3 := h.2.2.1
  have h4 := h.2.2.2.1
  unfold shS
  rw [List.length_append, List.length_append, List.length_singleton]
  omega
theorem wrRC_ok {R : mR} {q0 : Nat} (hR : R 246 0 = 247) (hQ : QO R q0) {I : mI} {u : Ru} (h : RuC I q0 u) (hu : RuOK u) : ∃ I', f_X5_writeRule 246 q0 I R = some I' ∧ WrC I' (shS u) ∧ FrW I' I := by
  obtain ⟨q1, q2, q3, q4, q5⟩ := hQ
  obtain ⟨l1, l2, l3⟩ := shS_len hu
  have F0 : FrW (u2 I 246 1 0) I := fun a x _ => by rw [u2_n _ _ _ x]
  have s1 : ShO (q0 + 1) := Or.inl (by omega)
  have s2 : ShO (q0 + 4) := Or.inl (by omega)
  obtain ⟨I1, e1, e2, e3⟩ := wsC_L hR q3 s1 hu.2.2.1 u.1.length FU 0 (u2 I 246 1 0) [] (by omega) (by have := hu.2.2.1; rw [FU_eq]; omega) (by omega) (h.1.frW s1 F0) ⟨by rw [u2_e]; rfl, fun k hk => by cases hk⟩ (by show 0 + (wrS u.1).length ≤ 97; omega)
  rw [List.nil_append] at e2
  obtain ⟨I2, f1, f2, f3⟩ := putC_ok hR e2 (show (wrS u.1).length < 97 by omega) 62
  have F2 : FrW I2 I := f3.trans (e3.trans F0)
  obtain ⟨I3, g1, g2, g3⟩ := wsC_L hR q4 s2 hu.2.2.2.1 u.2.length FU 0 I2 _ (by omega) (by have := hu.2.2.2.1; rw [FU_eq]; omega) (by omega) (h.2.frW s2 F2) f2 (by rw [List.length_append, List.length_singleton]; show (wrS u.1).length + 1 + (wrS u.2).length ≤ 97; omega)
  refine ⟨I3, ?_, g2, g3.trans F2⟩
  unfold f_X5_writeRule f_X5_writeSide
  simp only [bnd]
  rw [nI0] at e1 g1
  rw [q1, q2, e1, bd1_s, bd1_s, f1, bd1_s, g1]
  rfl
