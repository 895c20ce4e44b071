/-! ===== reading: the class, terms and rules ===== -/
theorem wn_vl {c : Int32} (h : wn c = 0) : opS c = [] := by
  unfold wn at h
  unfold opS
  by_cases h1 : c = 103
  · rw [if_pos h1] at h; cases h
  · rw [if_neg h1] at h ⊢
    by_cases h2 : c = 102
    · rw [if_pos h2] at h; cases h
    · rw [if_neg h2]
theorem wn_op {c : Int32} (h : ¬ wn c = 0) (ms : List Nat) : (wn c = 1 ∨ wn c = 2) ∧ opS c ++ enc ms = 40 :: 84 :: enc (wn c :: ms) := by
  unfold wn at h ⊢
  unfold opS
  by_cases h1 : c = 103
  · rw [if_pos h1]
    exact ⟨Or.inr rfl, by rw [if_pos h1]; rfl⟩
  · rw [if_neg h1, if_neg h1]
    rw [if_neg h1] at h
    by_cases h2 : c = 102
    · rw [if_pos h2]
      exact ⟨Or.inl rfl, by rw [if_pos h2]; rfl⟩
    · rw [if_neg h2] at h; exact absurd rfl h
theorem opensC_ok {T : List Int32} {R : mR} (hR : RdO R) (hT : T.length ≤ 120) {p : Nat} {I : mI} (h3 : p ≤ T.length) (h4 : TxC I T) (h5 : I 243 3 = nI p) {ms : List Nat} (h6 : MsC I ms) (h7 : ms.length < 60) (m : Nat) :
    ∃ I', FrD I' I ∧ ((tks T p 40 = true ∧ f_X2_opens 243 (nI m) I R = some (1, I') ∧ I' 243 3 = nI (sk T p + 1) ∧ sk T p < T.length ∧ MsC I' (m :: ms)) ∨ (tks T p 40 = false ∧ f_X2_opens 243 (nI m) I R = some (0, I') ∧ I' 243 3 = nI (sk T p))) := by
  obtain ⟨I1, G1, e1⟩ := takesC_ok hR hT h3 h4 h5 40
  unfold f_X2_opens
  simp only [bnd]
  rw [h6.1, show (60 : Int32) = nI 60 from rfl, if_neg (nI_ge h7 (by omega))]
  rcases e1 with ⟨t1, t2, t3, t4⟩ | ⟨t1, t2, t3⟩
  · rw [t2, bd2_s, if_neg n10, G1.2 4 (by decide), h6.1, hR.2, lc245, if_pos (inb_nI h7 (by omega)), nI_clamp (by omega), u2_n _ _ _ (show (243 : Nat) ≠ 245 by decide), G1.2 4 (by decide), h6.1, nI_1]
    refine ⟨u2 (u2 I1 245 ms.length (nI m)) 243 4 (nI (ms.length + 1)), ⟨fun x x1 x2 => by rw [u2_n _ _ _ x1, u2_n _ _ _ x2, G1.1 x x1], fun k x1 x2 => by rw [u2_o _ _ _ x2, u2_n _ _ _ (by decide), G1.2 k x1]⟩, Or.inl ⟨t1, rfl, by rw [u2_o _ _ _ (by decide), u2_n _ _ _ (by decide)]; exact t3, t4, ?_⟩⟩
    exact h6.cons (by rw [u2_e]) (by rw [u2_n _ _ _ (by decide), u2_e]) (fun k hk => by rw [u2_n _ _ _ (by decide), u2_o _ _ _ (by omega), G1.1 245 (by decide)])
  · rw [t2, bd2_s, if_pos rfl]
    exact ⟨I1, G1.d, Or.inr ⟨t1, rfl, t3⟩⟩
theorem TmW.frD {t : Nat} {I I' : mI} {w : List Int32} (ht : RtO t) (h : TmW I t w) (hf : FrD I' I) : TmW I' t w := by
  unfold RtO at ht
  unfold TmW
  rw [hf.1 t (by omega) (by omega), hf.1 (t + 1) (by omega) (by omega)]
  exact h
theorem readC_L {T : List Int32} {R : mR} {t c : Nat} (hR : RdO R) (hT : T.length ≤ 120) (hO : TO R t c) (ht : RtO t) {most : Nat} (hm : most ≤ c) (a b : Int32) :
    ∀ (q f n p : Nat) (I : mI) (w : List Int32) (ms : List Nat), most - w.length = q → q < f → w.length ≤ most → T.length - p < n → p ≤ T.length → M12 ms → ms.length ≤ w.length → TxC I T → I 243 3 = nI p → MsC I ms → TmW I t w →
      ∃ I', FrB t I' I ∧ ((∃ q, runT T most a b n p (84 :: enc ms) w = Sum.inl q ∧ f_X2_readTerm_L13 f 243 t (nI most) a b (nI w.length) I R = some (Sum.inl (0, I')) ∧ I' 243 3 = nI q) ∨ (∃ q l, runT T most a b n p (84 :: enc ms) w = Sum.inr (q, l) ∧ f_X2_readTerm_L13 f 243 t (nI most) a b (nI w.length) I R = some (Sum.inl (1, I')) ∧ I' 243 3 = nI q ∧ TmC I' t l) ∨ (∃ q, q ≤ T.length ∧ runT T most a b n p (84 :: enc ms) w = Sum.inl (sk T q) ∧ f_X2_readTerm_L13 f 243 t (nI most) a b (nI w.length) I R = some (Sum.inr I') ∧ I' 243 3 = nI q)) := by
  have hc60 := hO.2.2.2.2
  have ht' := ht
  unfold RtO at ht'
  intro q
  induction q with
  | zero =>
    intro f n p I w ms h1 h2 h3 h4 h5 h6 h7 h8 h9 ha hb
    obtain ⟨f, rfl⟩ : ∃ q, f = q + 1 := ⟨f - 1, by omega⟩
    obtain ⟨n, rfl⟩ : ∃ q, n = q + 1 := ⟨n - 1, by omega⟩
    refine ⟨I, FrB.rfl' t I, Or.inr (Or.inr ⟨p, h5, ?_, ?_, h9⟩)⟩
    · by_cases hl : sk T p < T.length
      · exact runT_Tn hl (fun q => by have := q.1; omega)
      · exact runT_end hl
    · rw [f_X2_readTerm_L13, if_pos (nI_le (by omega) (by omega))]
  | succ q ih =>
    intro f n p I w ms h1 h2 h3 h4 h5 h6 h7 h8 h9 ha hb
    obtain ⟨f, rfl⟩ : ∃ q, f = q + 1 := ⟨f - 1, by omega⟩
    obtain ⟨n, rfl⟩ : ∃ q, n = q + 1 := ⟨n - 1, by omega⟩
    have hmask : ∀ (x y : Int32), (if nI w.length = 0 then x else y) = (if w.length = 0 then x else y) := by
      intro x y
      by_cases hz : w.length = 0
      · rw [if_pos hz, if_pos (by rw [hz]; rfl)]
      · rw [if_neg hz, if_neg (nI_ne0 (by omega) (by omega))]
    obtain ⟨I1, G1, m1, m2, e1⟩ := readL_ok hR hT hO ht h5 h8 h9 hb (by omega) (if w.length = 0 then a else b)
    have hpush : ∀ (F : Int32 → Option ((Int32 × mI) ⊕ mI)), (if nI w.length = 0 then F a else F b) = F (if w.length = 0 then a else b) := by
      intro F
      by_cases hz : w.length = 0
      · rw [if_pos hz, if_pos (by rw [hz]; rfl)]
      · rw [if_neg hz, if_neg (nI_ne0 (by omega) (by omega))]
    rw [f_X2_readTerm_L13]
    simp only [bnd]
    rw [if_neg (nI_ge (by omega) (by omega)), hpush (fun m => bd2 (f_X2_readLetter 243 t m I R) _)]
    have hsk := sk_ge T p
    rcases e1 with ⟨⟨k1, k2, k3⟩, k4, k5, k6⟩ | ⟨k1, k4, k5⟩
    · rw [k4, bd2_s, if_neg n10, hO.1, hO.2.2.1, if_pos (inb_nI (by omega) (by omega)), nI_clamp (by omega)]
      have hlet : I1 (t + 1) w.length = T.getD (sk T p) 0 := by
        have := k6.2 w.length (by rw [List.length_append, List.length_singleton]; omega)
        rw [show w.length = w.length + 0 by rfl, getD_app_r] at this
        exact this
      rw [hlet, pB, bd1_s, nI_1]
      have hT1 := h8.frB ht G1
      have hM1 : MsC I1 ms := by
        unfold MsC
        rw [m1, m2]
        exact ha
      have hrun : runT T most a b (n + 1) p (84 :: enc ms) w = runT T most a b n (sk T p + 1) (opS (T.getD (sk T p) 0) ++ enc ms) (w ++ [T.getD (sk T p) 0]) := runT_T k1 ⟨by omega, k2, k3⟩
      rw [hrun]
      have hwl : (w ++ [T.getD (sk T p) 0]).length = w.length + 1 := by rw [List.length_append, List.length_singleton]
      by_cases hwn : wn (T.getD (sk T p) 0) = 0
      · rw [hwn, if_pos (show nI 0 ≤ 0 by decide), wn_vl hwn, List.nil_append]
        obtain ⟨I2, G2, e2⟩ := closesC_L hR hT (most := most) (a := a) (b := b) (w := w ++ [T.getD (sk T p) 0]) ms FU n (sk T p + 1) I1 (by rw [FU_eq]; omega) (by omega) (by omega) h6 (by omega) hT1 k5 hM1
        have G : FrB t I2 I := (G2.b t).trans G1
        rcases e2 with ⟨q', g1, g2, g3⟩ | ⟨q', g0, g1, g2, g3, g4⟩ | ⟨q', ms', n', g1, g2, g3, g4, g5, g6, g7, g8, g9⟩
        · refine ⟨I2, G, Or.inl ⟨q', g1, ?_, g3⟩⟩
          unfold f_X2_closes
          rw [g2]
          rfl
        · have hW : TmW I2 t (w ++ [T.getD (sk T p) 0]) := k6.frD ht G2
          obtain ⟨I3, f1, f2, f3⟩ := findEnds_ok hO (by omega) hW.1 hW.2
          refine ⟨I3, ⟨fun x x1 x2 x3 x4 x5 => by rw [f3 x x3]; exact G.1 x x1 x2 x3 x4 x5, fun k x1 x2 => by rw [f3 243 (by omega)]; exact G.2 k x1 x2⟩, Or.inr (Or.inl ⟨q', _, g1, ?_, by rw [f3 243 (by omega)]; exact g3, f2⟩)⟩
          unfold f_X2_closes
          rw [g2, bdS_r]
          show (bd2 (some ((1 : Int32), I2)) fun r14 I14 => _) = _
          rw [bd2_s, if_neg n10, if_pos g4, f1]
          rfl
        · have hW : TmW I2 t (w ++ [T.getD (sk T p) 0]) := k6.frD ht G2
          obtain ⟨I3, G3, e3⟩ := ih f n' q' I2 (w ++ [T.getD (sk T p) 0]) ms' (by omega) (by omega) (by omega) g2 g3 g7 (by omega) (hT1.frD G2) g5 g6 hW
          rw [hwl] at e3
          refine ⟨I3, G3.trans G, ?_⟩
          have hcl : f_X2_closes 243 I1 R = some (1, I2) := by unfold f_X2_closes; rw [g4]; rfl
          rw [g1, hcl, bd2_s, if_neg n10, if_neg (by rw [g6.1]; exact nI_ne0 (by omega) (by omega))]
          exact e3
      · have hw2 := wn_le (T.getD (sk T p) 0)
        obtain ⟨hop1, hop2⟩ := wn_op hwn ms
        rw [if_neg (nI_nle (by omega) (by omega)), hop2]
        obtain ⟨I2, G2, e2⟩ := opensC_ok hR hT (p := sk T p + 1) (by omega) hT1 k5 hM1 (by omega) (wn (T.getD (sk T p) 0))
        have G : FrB t I2 I := (G2.b t).trans G1
        obtain ⟨n, rfl⟩ : ∃ q, n = q + 1 := ⟨n - 1, by omega⟩
        have hsk2 := sk_ge T (sk T p + 1)
        rcases e2 with ⟨g1, g2, g3, g4, g5⟩ | ⟨g1, g2, g3⟩
        · rw [runT_yes (by decide) g1, g2, bd2_s, if_neg n10, if_neg (by rw [g5.1]; exact nI_ne0 (by rw [List.length_cons]; omega) (by rw [List.length_cons]; omega))]
          have hW : TmW I2 t (w ++ [T.getD (sk T p) 0]) := k6.frD ht G2
          obtain ⟨I3, G3, e3⟩ := ih f n (sk T (sk T p + 1) + 1) I2 (w ++ [T.getD (sk T p) 0]) (wn (T.getD (sk T p) 0) :: ms) (by omega) (by omega) (by omega) (by omega) (by omega) (fun x hx => (List.mem_cons.mp hx).elim (fun q => by rw [q]; exact hop1) (h6 x)) (by rw [List.length_cons]; omega) (hT1.frD G2) g3 g5 hW
          rw [hwl] at e3
          exact ⟨I3, G3.trans G, e3⟩
        · rw [runT_no (by decide) g1, g2, bd2_s, if_pos rfl]
          exact ⟨I2, G, Or.inl ⟨_, rfl, rfl, g3⟩⟩
    · rw [k4, bd2_s, if_pos rfl]
      refine ⟨I1, G1, Or.inl ⟨sk T p, ?_, rfl, k5⟩⟩
      by_cases hl : sk T p < T.length
      · exact runT_Tn hl (fun q => k1 ⟨hl, q.2⟩)
      · exact runT_end hl
theorem readC_ok {T : List Int32} {R : mR} {t c : Nat} (hR : RdO R) (hT : T.length ≤ 120) (hO : TO R t c) (ht : RtO t) {most : Nat} (hm : most ≤ c) (a b : Int32) {p : Nat} {I : mI} (h5 : p ≤ T.length) (h8 : TxC I T) (h9 : I 243 3 = nI p) :
    ∃ I', FrB t I' I ∧ ((∃ q, rdT T most a b p = Sum.inl q ∧ f_X2_readTerm 243 t (nI most) a b I R = some (0, I') ∧ I' 243 3 = nI q) ∨ (∃ q l, rdT T most a b p = Sum.inr (q, l) ∧ f_X2_readTerm 243 t (nI most) a b I R = some (1, I') ∧ I' 243 3 = nI q ∧ TmC I' t l)) := by
  have ht' := ht
  unfold RtO at ht'
  have hc60 := hO.2.2.2.2
  have F0 : FrB t (u2 (u2 I t 2 0) 243 4 0) I := ⟨fun x x1 x2 x3 x4 x5 => by rw [u2_n _ _ _ x4, u2_n _ _ _ x1], fun k x1 x2 => by rw [u2_o _ _ _ x2, u2_n _ _ _ (by omega)]⟩
  obtain ⟨I1, G1, e1⟩ := readC_L hR hT hO ht hm a b most FU (T.length + 1) p (u2 (u2 I t 2 0) 243 4 0) [] [] (by rw [List.length_nil]; omega) (by rw [FU_eq]; omega) (Nat.zero_le _) (by omega) h5 (fun m hm => by cases hm) (Nat.le_refl _) (h8.frB ht F0) (by rw [u2_o _ _ _ (by decide), u2_n _ _ _ (by omega)]; exact h9) ⟨by rw [u2_e]; rfl, fun k hk => by cases hk⟩ ⟨by rw [u2_n _ _ _ (by omega), u2_e]; rfl, fun k hk => by cases hk⟩
  unfold f_X2_readTerm rdT
  simp only [bnd]
  rw [show nI ([] : List Int32).length = 0 from rfl, show enc [] = [] from rfl] at e1
  rcases e1 with ⟨q, g1, g2, g3⟩ | ⟨q, l, g1, g2, g3, g4⟩ | ⟨q, g0, g1, g2, g3⟩
  · exact ⟨I1, G1.trans F0, Or.inl ⟨q, g1, by rw [g2]; rfl, g3⟩⟩
  · exact ⟨I1, G1.trans F0, Or.inr ⟨q, l, g1, by rw [g2]; rfl, g3, g4⟩⟩
  · obtain ⟨I2, f1, f2, f3⟩ := skipC_ok hR hT g0 (h8.frB ht (G1.trans F0)) g3
    refine ⟨I2, (f3.b t).trans (G1.trans F0), Or.inl ⟨sk T q, g1, ?_, f2⟩⟩
    rw [g2, bdS_r]
    show (bd1 (f_X2_skipBlanks 243 I1 R) fun I20 => _) = _
    rw [f1]
    rfl
/-- a rule -/
def FrR (q0 : Nat) (I' I : mI) : Prop := (∀ x, (x < q0 ∨ q0 + 6 < x) → x ≠ 243 → x ≠ 245 → I' x = I x) ∧ ∀ k, k ≠ 3 → k ≠ 4 → I' 243 k = I 243 k
theorem FrR.trans {t : Nat} {I I' I'' : mI} (h : FrR t I'' I') (h' : FrR t I' I) : FrR t I'' I := ⟨fun a x y z => (h.1 a x y z).trans (h'.1 a x y z), fun k x y => (h.2 k x y).trans (h'.2 k x y)⟩
theorem FrB.r {t q0 : Nat} {I I' : mI} (h : FrB t I' I) (h1 : q0 ≤ t) (h2 : t + 2 ≤ q0 + 6) : FrR q0 I' I := ⟨fun x x1 x2 x3 => h.1 x (by omega) (by omega) (by omega) x2 x3, h.2⟩
theorem FrA.r {I I' : mI} (q0 : Nat) (h : FrA I' I) : FrR q0 I' I := ⟨fun x _ x2 _ => h.1 x x2, fun k x _ => h.2 k x⟩
theorem TxC.frR {q0 : Nat} {I I' : mI} {T : List Int32} (hq : q0 + 6 < 243) (h : TxC I T) (hf : FrR q0 I' I) : TxC I' T := by
  unfold TxC
  rw [hf.2 2 (by decide) (by decide), hf.1 244 (by omega) (by decide) (by decide)]
  exact h
theorem TmC.w {I : mI} {t : Nat} {l : List Int32} (h : TmC I t l) : TmW I t l := ⟨h.1, h.2.1⟩
theorem readRC_ok {T : List Int32} {R : mR} {q0 : Nat} (hR : RdO R) (hT : T.length ≤ 120) (hQ : QO R q0) {p : Nat} {I : mI} (h5 : p ≤ T.length) (h8 : TxC I T) (h9 : I 243 3 = nI p) :
    ∃ I', FrR q0 I' I ∧ ((∃ q, rdR T p = Sum.inl q ∧ f_X2_readRule 243 q0 I R = some (0, I') ∧ I' 243 3 = nI q) ∨ (∃ q' q u, rdR T p = Sum.inr (sk T q', u) ∧ q = q' ∧ q' ≤ T.length ∧ f_X2_readRule 243 q0 I R = some (1, I') ∧ I' 243 3 = nI q' ∧ RuC I' q0 u)) := by
  obtain ⟨q1, q2, q3, q4, q5⟩ := hQ
  obtain ⟨I1, G1, e1⟩ := readC_ok hR hT q3 (t := q0 + 1) (Or.inl (by omega)) (most := 12) (Nat.le_refl _) 0 3 h5 h8 h9
  have F1 : FrR q0 I1 I := G1.r (by omega) (by omega)
  unfold f_X2_readRule rdR
  simp only [bnd]
  rw [q1, q2]
  rcases e1 with ⟨q, g1, g2, g3⟩ | ⟨p1, l, g1, g2, g3, g4⟩
  · rw [show (12 : Int32) = nI 12 from rfl, g2, bd2_s, if_pos rfl, g1]
    exact ⟨I1, F1, Or.inl ⟨q, rfl, rfl, g3⟩⟩
  · rw [show (12 : Int32) = nI 12 from rfl, g2, bd2_s, if_neg n10, g1]
    obtain ⟨a1, a2, a3, a4, a5⟩ := rdT_ok h5 g1
    obtain ⟨I2, G2, e2⟩ := takesC_ok hR hT a1 (h8.frR q5 F1) g3 62
    have F2 : FrR q0 I2 I := (G2.r q0).trans F1
    rcases e2 with ⟨t1, t2, t3, t4⟩ | ⟨t1, t2, t3⟩
    · have hl2 : TmC I2 (q0 + 1) l := g4.cong (G2.1 _ (by omega)) (G2.1 _ (by omega)) (G2.1 _ (by omega))
      rw [t2, bd2_s, if_neg n10, unknowns_ok q3 a2 hl2.w, bd1_s]
      obtain ⟨I3, G3, e3⟩ := readC_ok hR hT q4 (t := q0 + 4) (Or.inl (by omega)) (most := 12) (Nat.le_refl _) (unkS l) (unkS l) (p := sk T p1 + 1) (by omega) (h8.frR q5 F2) t3
      have F3 : FrR q0 I3 I := (G3.r (by omega) (by omega)).trans F2
      simp only [if_pos t1]
      rcases e3 with ⟨q, k1, k2, k3⟩ | ⟨p2, r, k1, k2, k3, k4⟩
      · rw [k2, bd2_s, if_pos rfl, k1]
        exact ⟨I3, F3, Or.inl ⟨q, rfl, rfl, k3⟩⟩
      · rw [k2, bd2_s, if_neg n10, k1]
        obtain ⟨b1, b2, b3, b4, b5⟩ := rdT_ok (by omega) k1
        obtain ⟨I4, G4, e4⟩ := takesC_ok hR hT b1 (h8.frR q5 F3) k3 59
        have F4 : FrR q0 I4 I := (G4.r q0).trans F3
        rcases e4 with ⟨t1', t2', t3', t4'⟩ | ⟨t1', t2', t3'⟩
        · rw [t2', bd2_s, if_neg n10]
          simp only [if_pos t1']
          refine ⟨I4, F4, Or.inr ⟨sk T p2 + 1, sk T p2 + 1, (l, r), rfl, rfl, by omega, rfl, t3', ?_, ?_⟩⟩
          · exact hl2.cong (by rw [G4.1 _ (by omega), G3.1 _ (by omega) (by omega) (by omega) (by omega) (by omega)]) (by rw [G4.1 _ (by omega), G3.1 _ (by omega) (by omega) (by omega) (by omega) (by omega)]) (by rw [G4.1 _ (by omega), G3.1 _ (by omega) (by omega) (by omega) (by omega) (by omega)])
          · exact k4.cong (G4.1 _ (by omega)) (G4.1 _ (by omega)) (G4.1 _ (by omega))
        · rw [t2', bd2_s, if_pos rfl]
          simp only [t1']
          exact ⟨I4, F4, Or.inl ⟨sk T p2, rfl, rfl, t3'⟩⟩
    · rw [t2, bd2_s, if_pos rfl]
      simp only [t1]
      exact ⟨I2, F2, Or.inl ⟨sk T p1, rfl, rfl, t3⟩⟩
