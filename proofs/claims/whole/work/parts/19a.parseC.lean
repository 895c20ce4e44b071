/-! ===== reading: the class ===== -/
def TxC (I : mI) (T : List Int32) : Prop := I 243 2 = nI T.length ∧ ∀ k, k < T.length → I 244 k = T.getD k 0
def RdO (R : mR) : Prop := R 243 0 = 244 ∧ R 243 1 = 245
theorem lc244 : lnC 244 = 120 := rfl
theorem lc245 : lnC 245 = 60 := rfl
/-- only the place has changed -/
def FrA (I' I : mI) : Prop := (∀ a, a ≠ 243 → I' a = I a) ∧ ∀ k, k ≠ 3 → I' 243 k = I 243 k
theorem FrA.rfl' (I : mI) : FrA I I := ⟨fun _ _ => rfl, fun _ _ => rfl⟩
theorem FrA.trans {I I' I'' : mI} (h : FrA I'' I') (h' : FrA I' I) : FrA I'' I := ⟨fun a x => (h.1 a x).trans (h'.1 a x), fun k x => (h.2 k x).trans (h'.2 k x)⟩
theorem FrA.set {I I' : mI} (h : FrA I' I) (v : Int32) : FrA (u2 I' 243 3 v) I := ⟨fun a x => by rw [u2_n _ _ _ x]; exact h.1 a x, fun k x => by rw [u2_o _ _ _ x]; exact h.2 k x⟩
theorem TxC.fr {I I' : mI} {T : List Int32} (h : TxC I T) (hf : FrA I' I) : TxC I' T := by
  unfold TxC
  rw [hf.2 2 (by decide), hf.1 244 (by decide)]
  exact h
theorem skipC_L {T : List Int32} {R : mR} (hR : RdO R) (hT : T.length ≤ 120) :
    ∀ (q n p : Nat) (I : mI), T.length - p = q → q < n → p ≤ T.length → TxC I T → I 243 3 = nI p → ∃ I', f_X2_skipBlanks_L0 n 243 I R = some I' ∧ I' 243 3 = nI (sk T p) ∧ FrA I' I := by
  intro q
  induction q with
  | zero =>
    intro n p I h1 h2 h3 h4 h5
    obtain ⟨n, rfl⟩ : ∃ q, n = q + 1 := ⟨n - 1, by omega⟩
    refine ⟨I, ?_, by rw [sk_end (by omega)]; exact h5, FrA.rfl' I⟩
    rw [f_X2_skipBlanks_L0, h4.1, h5, if_pos (nI_le (by omega) (by omega))]
  | succ q ih =>
    intro n p I h1 h2 h3 h4 h5
    obtain ⟨n, rfl⟩ : ∃ q, n = q + 1 := ⟨n - 1, by omega⟩
    rw [f_X2_skipBlanks_L0]
    simp only [bnd]
    rw [h4.1, h5, if_neg (nI_ge (by omega) (by omega)), hR.1, lc244, if_pos (inb_nI (by omega) (by omega)), nI_clamp (by omega), h4.2 p (by omega), nI_1 p]
    by_cases hb : T.getD p 0 = 32
    · rw [if_pos hb, sk_b (by omega) hb]
      have F := (FrA.rfl' I).set (nI (p + 1))
      obtain ⟨I', e1, e2, e3⟩ := ih n (p + 1) (u2 I 243 3 (nI (p + 1))) (by omega) (by omega) (by omega) (h4.fr F) (by rw [u2_e])
      exact ⟨I', e1, e2, e3.trans F⟩
    · rw [if_neg hb, sk_n (by omega) hb]
      exact ⟨I, rfl, h5, FrA.rfl' I⟩
theorem skipC_ok {T : List Int32} {R : mR} (hR : RdO R) (hT : T.length ≤ 120) {p : Nat} {I : mI} (h3 : p ≤ T.length) (h4 : TxC I T) (h5 : I 243 3 = nI p) : ∃ I', f_X2_skipBlanks 243 I R = some I' ∧ I' 243 3 = nI (sk T p) ∧ FrA I' I := by
  obtain ⟨I', e1, e2⟩ := skipC_L hR hT (T.length - p) FU p I rfl (by rw [FU_eq]; omega) h3 h4 h5
  refine ⟨I', ?_, e2⟩
  unfold f_X2_skipBlanks
  rw [e1]
  rfl
theorem takesC_ok {T : List Int32} {R : mR} (hR : RdO R) (hT : T.length ≤ 120) {p : Nat} {I : mI} (h3 : p ≤ T.length) (h4 : TxC I T) (h5 : I 243 3 = nI p) (c : Int32) :
    ∃ I', FrA I' I ∧ ((tks T p c = true ∧ f_X2_takes 243 c I R = some (1, I') ∧ I' 243 3 = nI (sk T p + 1) ∧ sk T p < T.length) ∨ (tks T p c = false ∧ f_X2_takes 243 c I R = some (0, I') ∧ I' 243 3 = nI (sk T p))) := by
  obtain ⟨I1, e1, e2, e3⟩ := skipC_ok hR hT h3 h4 h5
  have hs := sk_le h3
  unfold f_X2_takes
  rw [e1, bd1_s, (h4.fr e3).1, e2]
  by_cases hl : sk T p < T.length
  · rw [if_neg (nI_ge hl (by omega)), hR.1, lc244, if_pos (inb_nI (by omega) (by omega)), nI_clamp (by omega), (h4.fr e3).2 _ hl, nI_1]
    by_cases hc : T.getD (sk T p) 0 = c
    · rw [if_pos hc]
      exact ⟨_, e3.set (nI (sk T p + 1)), Or.inl ⟨decide_eq_true ⟨hl, hc⟩, rfl, by rw [u2_e], hl⟩⟩
    · rw [if_neg hc]
      exact ⟨I1, e3, Or.inr ⟨decide_eq_false (fun q => hc q.2), rfl, e2⟩⟩
  · rw [if_pos (nI_le (by omega) (by omega))]
    exact ⟨I1, e3, Or.inr ⟨decide_eq_false (fun q => hl q.1), rfl, e2⟩⟩
theorem slot_iff (c : Int32) : ∃ s, f_X10_slotOf c = some s ∧ (s = -1 ↔ vlb c = false) := by
  unfold f_X10_slotOf vlb
  by_cases h1 : c = 97
  · exact ⟨0, by rw [if_pos h1], by subst h1; decide⟩
  · rw [if_neg h1]
    by_cases h2 : c = 98
    · exact ⟨1, by rw [if_pos h2], by subst h2; decide⟩
    · rw [if_neg h2]
      by_cases h3 : c = 102
      · exact ⟨2, by rw [if_pos h3], by subst h3; decide⟩
      · rw [if_neg h3]
        by_cases h4 : c = 103
        · exact ⟨3, by rw [if_pos h4], by subst h4; decide⟩
        · rw [if_neg h4]
          by_cases h5 : c = 120
          · exact ⟨4, by rw [if_pos h5], by subst h5; decide⟩
          · rw [if_neg h5]
            by_cases h6 : c = 121
            · exact ⟨5, by rw [if_pos h6], by subst h6; decide⟩
            · exact ⟨-1, by rw [if_neg h6], by simp [h1, h2, h3, h4, h5, h6]⟩
/-- a term, the place, what is missing -/
def FrB (t : Nat) (I' I : mI) : Prop := (∀ x, x ≠ t → x ≠ t + 1 → x ≠ t + 2 → x ≠ 243 → x ≠ 245 → I' x = I x) ∧ ∀ k, k ≠ 3 → k ≠ 4 → I' 243 k = I 243 k
theorem FrB.rfl' (t : Nat) (I : mI) : FrB t I I := ⟨fun _ _ _ _ _ _ => rfl, fun _ _ _ => rfl⟩
theorem FrB.trans {t : Nat} {I I' I'' : mI} (h : FrB t I'' I') (h' : FrB t I' I) : FrB t I'' I := ⟨fun a x y z u v => (h.1 a x y z u v).trans (h'.1 a x y z u v), fun k x y => (h.2 k x y).trans (h'.2 k x y)⟩
theorem FrA.b {I I' : mI} (t : Nat) (h : FrA I' I) : FrB t I' I := ⟨fun x _ _ _ h4 _ => h.1 x h4, fun k x _ => h.2 k x⟩
/-- where a term may lie that is read -/
def RtO (t : Nat) : Prop := t + 2 < 243 ∨ 245 < t
theorem TxC.frB {t : Nat} {I I' : mI} {T : List Int32} (ht : RtO t) (h : TxC I T) (hf : FrB t I' I) : TxC I' T := by
  unfold RtO at ht
  unfold TxC
  rw [hf.2 2 (by decide) (by decide), hf.1 244 (by omega) (by omega) (by omega) (by decide) (by decide)]
  exact h
theorem readL_ok {T : List Int32} {R : mR} {t c : Nat} (hR : RdO R) (hT : T.length ≤ 120) (hO : TO R t c) (ht : RtO t) {p : Nat} {I : mI} (h3 : p ≤ T.length) (h4 : TxC I T) (h5 : I 243 3 = nI p) {w : List Int32} (hw : TmW I t w) (hwc : w.length < c) (m : Int32) :
    ∃ I', FrB t I' I ∧ I' 245 = I 245 ∧ I' 243 4 = I 243 4 ∧ (((sk T p < T.length ∧ vlb (T.getD (sk T p) 0) = true ∧ alw m (T.getD (sk T p) 0) = true) ∧ f_X2_readLetter 243 t m I R = some (1, I') ∧ I' 243 3 = nI (sk T p + 1) ∧ TmW I' t (w ++ [T.getD (sk T p) 0])) ∨ (¬ (sk T p < T.length ∧ vlb (T.getD (sk T p) 0) = true ∧ alw m (T.getD (sk T p) 0) = true) ∧ f_X2_readLetter 243 t m I R = some (0, I') ∧ I' 243 3 = nI (sk T p))) := by
  obtain ⟨I1, e1, e2, e3⟩ := skipC_ok hR hT h3 h4 h5
  have hs := sk_le h3
  have ht' := ht
  unfold RtO at ht'
  unfold f_X2_readLetter
  rw [e1, bd1_s, (h4.fr e3).1, e2]
  have bad : ∀ hn : ¬ (sk T p < T.length ∧ vlb (T.getD (sk T p) 0) = true ∧ alw m (T.getD (sk T p) 0) = true), ∃ I', FrB t I' I ∧ I' 245 = I 245 ∧ I' 243 4 = I 243 4 ∧ (((sk T p < T.length ∧ vlb (T.getD (sk T p) 0) = true ∧ alw m (T.getD (sk T p) 0) = true) ∧ some ((0 : Int32), I1) = some (1, I') ∧ I' 243 3 = nI (sk T p + 1) ∧ TmW I' t (w ++ [T.getD (sk T p) 0])) ∨ (¬ (sk T p < T.length ∧ vlb (T.getD (sk T p) 0) = true ∧ alw m (T.getD (sk T p) 0) = true) ∧ some ((0 : Int32), I1) = some (0, I') ∧ I' 243 3 = nI (sk T p))) := fun hn => ⟨I1, e3.b t, e3.1 245 (by decide), e3.2 4 (by decide), Or.inr ⟨hn, rfl, e2⟩⟩
  by_cases hl : sk T p < T.length
  · obtain ⟨s, s1, s2⟩ := slot_iff (T.getD (sk T p) 0)
    rw [if_neg (nI_ge hl (by omega)), hR.1, lc244, if_pos (inb_nI (by omega) (by omega)), nI_clamp (by omega), (h4.fr e3).2 _ hl, s1, bd1_s]
    by_cases hv : vlb (T.getD (sk T p) 0) = true
    · rw [if_neg (fun q => by rw [s2.mp q] at hv; cases hv), uB, bd1_s]
      by_cases ha : ub (T.getD (sk T p) 0) &&& m = ub (T.getD (sk T p) 0)
      · rw [if_pos ha]
        have hw' : TmW I1 t w := by
          unfold TmW
          rw [e3.1 t (by omega), e3.1 (t + 1) (by omega)]
          exact hw
        obtain ⟨I2, f1, f2, f3⟩ := addLetter_w hO hw' hwc (T.getD (sk T p) 0)
        rw [f1, bd1_s, f3 243 (by omega) (by omega), e2, nI_1]
        refine ⟨u2 I2 243 3 (nI (sk T p + 1)), ⟨fun x x1 x2 x3 x4 x5 => by rw [u2_n _ _ _ x4, f3 x x1 x2, e3.1 x x4], fun k x1 x2 => by rw [u2_o _ _ _ x1, f3 243 (by omega) (by omega), e3.2 k x1]⟩, by rw [u2_n _ _ _ (by decide), f3 245 (by omega) (by omega), e3.1 245 (by decide)], by rw [u2_o _ _ _ (by decide), f3 243 (by omega) (by omega), e3.2 4 (by decide)], Or.inl ⟨⟨hl, hv, decide_eq_true ha⟩, rfl, by rw [u2_e], ?_⟩⟩
        unfold TmW
        rw [u2_n _ _ _ (by omega), u2_n _ _ _ (by omega)]
        exact f2
      · rw [if_neg ha]
        exact bad (fun q => ha (of_decide_eq_true q.2.2))
    · rw [if_pos (s2.mpr (by cases hh : vlb (T.getD (sk T p) 0) with | true => exact absurd hh hv | false => rfl))]
      exact bad (fun q => hv q.2.1)
  · rw [if_pos (nI_le (by omega) (by omega))]
    exact bad (fun q => hl q.1)
/-- what is missing, the innermost first -/
def MsC (I : mI) (ms : List Nat) : Prop := I 243 4 = nI ms.length ∧ ∀ k, k < ms.length → I 245 (ms.length - 1 - k) = nI (ms.getD k 0)
def M12 (ms : List Nat) : Prop := ∀ m ∈ ms, m = 1 ∨ m = 2
def enc : List Nat → List Int32
  | [] => []
  | m :: ms => (if m = 2 then [44, 84, 41] else [41]) ++ enc ms
theorem MsC.tl {I I' : mI} {m : Nat} {ms : List Nat} (h : MsC I (m :: ms)) (h4 : I' 243 4 = nI ms.length) (h5 : ∀ k, k < ms.length → I' 245 k = I 245 k) : MsC I' ms := by
  refine ⟨h4, fun k hk => ?_⟩
  have := h.2 (k + 1) (by rw [List.length_cons]; omega)
  rw [List.length_cons, List.getD_cons_succ, show ms.length + 1 - 1 - (k + 1) = ms.length - 1 - k by omega] at this
  rw [h5 _ (by omega)]
  exact this
theorem MsC.cons {I I' : mI} {m : Nat} {ms : List Nat} (h : MsC I ms) (h4 : I' 243 4 = nI (ms.length + 1)) (h5 : I' 245 ms.length = nI m) (h6 : ∀ k, k < ms.length → I' 245 k = I 245 k) : MsC I' (m :: ms) := by
  refine ⟨by rw [List.length_cons]; exact h4, fun k hk => ?_⟩
  rw [List.length_cons] at hk ⊢
  cases k with
  | zero =>
    rw [show ms.length + 1 - 1 - 0 = ms.length by omega, h5]
    rfl
  | succ k =>
    rw [show ms.length + 1 - 1 - (k + 1) = ms.length - 1 - k by omega, h6 _ (by omega), List.getD_cons_succ]
    exact h.2 k (by omega)
def FrD (I' I : mI) : Prop := (∀ x, x ≠ 243 → x ≠ 245 → I' x = I x) ∧ ∀ k, k ≠ 3 → k ≠ 4 → I' 243 k = I 243 k
theorem FrD.rfl' (I : mI) : FrD I I := ⟨fun _ _ _ => rfl, fun _ _ _ => rfl⟩
theorem FrD.trans {I I' I'' : mI} (h : FrD I'' I') (h' : FrD I' I) : FrD I'' I := ⟨fun a x y => (h.1 a x y).trans (h'.1 a x y), fun k x y => (h.2 k x y).trans (h'.2 k x y)⟩
theorem FrA.d {I I' : mI} (h : FrA I' I) : FrD I' I := ⟨fun x h4 _ => h.1 x h4, fun k x _ => h.2 k x⟩
theorem FrD.b {I I' : mI} (t : Nat) (h : FrD I' I) : FrB t I' I := ⟨fun x _ _ _ h4 h5 => h.1 x h4 h5, h.2⟩
theorem TxC.frD {I I' : mI} {T : List Int32} (h : TxC I T) (hf : FrD I' I) : TxC I' T := by
  unfold TxC
  rw [hf.2 2 (by decide) (by decide), hf.1 244 (by decide) (by decide)]
  exact h
theorem runT_no {T : List Int32} {most : Nat} {a b : Int32} {n p : Nat} {d : Int32} {ds w : List Int32} (hd : ¬ d = 84) (h : tks T p d = false) : runT T most a b (n + 1) p (d :: ds) w = Sum.inl (sk T p) := by
  by_cases hl : sk T p < T.length
  · exact runT_sn hl hd (fun q => by rw [show tks T p d = true from decide_eq_true ⟨hl, q⟩] at h; cases h)
  · exact runT_end hl
theorem runT_yes {T : List Int32} {most : Nat} {a b : Int32} {n p : Nat} {d : Int32} {ds w : List Int32} (hd : ¬ d = 84) (h : tks T p d = true) : runT T most a b (n + 1) p (d :: ds) w = runT T most a b n (sk T p + 1) ds w := by
  have := of_decide_eq_true h
  exact runT_s this.1 hd this.2
theorem closesC_L {T : List Int32} {R : mR} (hR : RdO R) (hT : T.length ≤ 120) {most : Nat} {a b : Int32} {w : List Int32} :
    ∀ (ms : List Nat) (f n p : Nat) (I : mI), ms.length < f → T.length - p < n → p ≤ T.length → M12 ms → ms.length ≤ 60 → TxC I T → I 243 3 = nI p → MsC I ms →
      ∃ I', FrD I' I ∧ ((∃ q, runT T most a b n p (enc ms) w = Sum.inl q ∧ f_X2_closes_L0 f 243 I R = some (Sum.inl (0, I')) ∧ I' 243 3 = nI q) ∨ (∃ q, q ≤ T.length ∧ runT T most a b n p (enc ms) w = Sum.inr (q, w) ∧ f_X2_closes_L0 f 243 I R = some (Sum.inr I') ∧ I' 243 3 = nI q ∧ I' 243 4 = 0) ∨ (∃ q ms' n', runT T most a b n p (enc ms) w = runT T most a b n' q (84 :: enc ms') w ∧ T.length - q < n' ∧ q ≤ T.length ∧ f_X2_closes_L0 f 243 I R = some (Sum.inl (1, I')) ∧ I' 243 3 = nI q ∧ MsC I' ms' ∧ M12 ms' ∧ 0 < ms'.length ∧ ms'.length ≤ ms.length)) := by
  intro ms
  induction ms with
  | nil =>
    intro f n p I h1 h2 h3 h4 h5 h6 h7 h8
    obtain ⟨f, rfl⟩ : ∃ q, f = q + 1 := ⟨f - 1, by omega⟩
    obtain ⟨n, rfl⟩ : ∃ q, n = q + 1 := ⟨n - 1, by omega⟩
    refine ⟨I, FrD.rfl' I, Or.inr (Or.inl ⟨p, h3, rfl, ?_, h7, h8.1⟩)⟩
    rw [f_X2_closes_L0, h8.1, if_pos (by decide)]
  | cons m ms ih =>
    intro f n p I h1 h2 h3 h4 h5 h6 h7 h8
    obtain ⟨f, rfl⟩ : ∃ q, f = q + 1 := ⟨f - 1, by omega⟩
    obtain ⟨n, rfl⟩ : ∃ q, n = q + 1 := ⟨n - 1, by omega⟩
    rw [List.length_cons] at h1 h5
    have hm := h4 m List.mem_cons_self
    have htop : I 245 ms.length = nI m := by
      have := h8.2 0 (by rw [List.length_cons]; omega)
      rw [List.length_cons, show ms.length + 1 - 1 - 0 = ms.length by omega] at this
      exact this
    have h84 : I 243 4 = nI (ms.length + 1) := by rw [h8.1, List.length_cons]
    have F1 : FrD (u2 I 245 ms.length (nI (m - 1))) I := ⟨fun x _ h => by rw [u2_n _ _ _ h], fun k _ _ => by rw [u2_n _ _ _ (by decide)]⟩
    have a3 : u2 I 245 ms.length (nI (m - 1)) 243 3 = nI p := by rw [u2_n _ _ _ (by decide)]; exact h7
    rw [f_X2_closes_L0]
    simp only [bnd]
    rw [h84, if_neg (nI_nle (by omega) (by omega)), show (1 : Int32) = nI 1 from rfl, nI_sub (by omega), show ms.length + 1 - 1 = ms.length by omega, hR.2, lc245, if_pos (inb_nI (by omega) (by omega)), nI_clamp (by omega), htop, nI_sub (by omega), u2_n _ _ _ (show (243 : Nat) ≠ 245 by decide), h84, nI_sub (by omega), show ms.length + 1 - 1 = ms.length by omega, if_pos (inb_nI (by omega) (by omega)), nI_clamp (by omega), u2_e]
    rcases hm with rfl | rfl
    · rw [if_pos (show nI (1 - 1) ≤ 0 by decide)]
      obtain ⟨I1, G1, e1⟩ := takesC_ok hR hT h3 (h6.frD F1) a3 41
      have F2 : FrD I1 I := G1.d.trans F1
      rcases e1 with ⟨t1, t2, t3, t4⟩ | ⟨t1, t2, t3⟩
      · rw [t2, bd2_s, if_neg n10, G1.2 4 (by decide), u2_n _ _ _ (show (243 : Nat) ≠ 245 by decide), h84, nI_sub (by omega), show ms.length + 1 - 1 = ms.length by omega]
        have F3 : FrD (u2 I1 243 4 (nI ms.length)) I := ⟨fun x h h' => by rw [u2_n _ _ _ h]; exact F2.1 x h h', fun k h h' => by rw [u2_o _ _ _ h']; exact F2.2 k h h'⟩
        obtain ⟨I2, G2, e2⟩ := ih f n (sk T p + 1) (u2 I1 243 4 (nI ms.length)) (by omega) (by have := sk_ge T p; omega) (by omega) (fun x hx => h4 x (List.mem_cons_of_mem _ hx)) (by omega) (h6.frD F3) (by rw [u2_o _ _ _ (by decide)]; exact t3) (h8.tl (by rw [u2_e]) (fun k hk => by rw [u2_n _ _ _ (by decide), G1.1 245 (by decide), u2_o _ _ _ (by omega)]))
        refine ⟨I2, G2.trans F3, ?_⟩
        have hrun : runT T most a b (n + 1) p (enc (1 :: ms)) w = runT T most a b n (sk T p + 1) (enc ms) w := runT_yes (by decide) t1
        rw [hrun]
        rcases e2 with g | g | ⟨q, ms', n', g1, g2, g3, g4, g5, g6, g7, g8, g9⟩
        · exact Or.inl g
        · exact Or.inr (Or.inl g)
        · exact Or.inr (Or.inr ⟨q, ms', n', g1, g2, g3, g4, g5, g6, g7, g8, by rw [List.length_cons]; omega⟩)
      · rw [t2, bd2_s, if_pos rfl]
        exact ⟨I1, F2, Or.inl ⟨sk T p, runT_no (by decide) t1, rfl, t3⟩⟩
    · rw [if_neg (show ¬ nI (2 - 1) ≤ 0 by decide)]
      obtain ⟨I1, G1, e1⟩ := takesC_ok hR hT h3 (h6.frD F1) a3 44
      have F2 : FrD I1 I := G1.d.trans F1
      rcases e1 with ⟨t1, t2, t3, t4⟩ | ⟨t1, t2, t3⟩
      · rw [t2, bd2_s, if_pos (show zb 1 = true from rfl)]
        have hrun : runT T most a b (n + 1) p (enc (2 :: ms)) w = runT T most a b n (sk T p + 1) (84 :: enc (1 :: ms)) w := runT_yes (by decide) t1
        refine ⟨I1, F2, Or.inr (Or.inr ⟨sk T p + 1, 1 :: ms, n, hrun, by have := sk_ge T p; omega, by omega, rfl, t3, ?_, ?_, by rw [List.length_cons]; omega, by rw [List.length_cons, List.length_cons]; omega⟩)⟩
        · have hb : MsC I1 ms ∨ True := Or.inr trivial
          refine ⟨by rw [List.length_cons, G1.2 4 (by decide), u2_n _ _ _ (by decide)]; exact h84, fun k hk => ?_⟩
          rw [List.length_cons] at hk ⊢
          rw [G1.1 245 (by decide)]
          cases k with
          | zero =>
            rw [show ms.length + 1 - 1 - 0 = ms.length by omega, u2_e]
            rfl
          | succ k =>
            rw [u2_o _ _ _ (by omega), List.getD_cons_succ]
            have := h8.2 (k + 1) (by rw [List.length_cons]; omega)
            rw [List.length_cons, List.getD_cons_succ] at this
            exact this
        · intro x hx
          rcases List.mem_cons.mp hx with hx | hx
          · exact Or.inl hx
          · exact h4 x (List.mem_cons_of_mem _ hx)
      · rw [t2, bd2_s, if_pos (show zb 0 = true from rfl)]
        exact ⟨I1, F2, Or.inl ⟨sk T p, runT_no (by decide) t1, rfl, t3⟩⟩
