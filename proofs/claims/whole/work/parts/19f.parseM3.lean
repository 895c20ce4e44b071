/-! ===== reading: the model, all rules; a term ===== -/
theorem rdsM_0 {n : Nat} {I : mI} : f_X11_readsRules_L39 (n + 1) 0 0 I R1M = some (0, I) := by
  rw [f_X11_readsRules_L39, if_pos rfl]
theorem rdsM_L {T : List Int32} (hT : T.length ≤ 120) :
    ∀ (k f p : Nat) (I : mI) (rs : List Ru), k + 2 < f → rs.length + k = 5 → p < T.length → sk T p = p → TxM I T → I 0 7 = nI p → RsOK rs → RsM (I 2) rs →
      ∃ I', FrY I' I ∧ (∀ j, 131 ≤ j → I' 2 j = I 2 j) ∧ ((∃ q, rdRs T k p rs = Sum.inl q ∧ f_X11_readsRules_L39 f 0 1 I R1M = some (0, I') ∧ I' 0 7 = nI q) ∨ (∃ rs', rdRs T k p rs = Sum.inr rs' ∧ f_X11_readsRules_L39 f 0 1 I R1M = some (1, I') ∧ RsM (I' 2) rs')) := by
  intro k
  induction k with
  | zero =>
    intro f p I rs h1 h2 h3 h4 h5 h6 h7 h8
    obtain ⟨f, rfl⟩ : ∃ q, f = q + 2 := ⟨f - 2, by omega⟩
    refine ⟨I, FrY.rfl' I, fun _ _ => rfl, Or.inl ⟨p, ?_, ?_, h6⟩⟩
    · show Sum.inl (sk T p) = Sum.inl p
      rw [h4]
    · rw [f_X11_readsRules_L39, if_neg n10, h5.1, h6, if_neg (nI_ge h3 (by omega))]
      unfold f_X11_takesRule
      rw [mr1, lm2, if_pos (show inb 0 192 = true from rfl), i0, h8.1, if_pos (show nI rs.length = 5 by rw [show rs.length = 5 by omega]; rfl), bd2_s, rdsM_0]
  | succ k ih =>
    intro f p I rs h1 h2 h3 h4 h5 h6 h7 h8
    obtain ⟨f, rfl⟩ : ∃ q, f = q + 2 := ⟨f - 2, by omega⟩
    obtain ⟨I1, F1, j1, e1⟩ := tkRM_ok hT h3 h4 h5 h6 h7 h8 (by omega)
    rw [f_X11_readsRules_L39, if_neg n10, h5.1, h6, if_neg (nI_ge h3 (by omega)), rdRs_s]
    rcases e1 with ⟨q, g1, g2, g3⟩ | ⟨q, u, g1, g2, g3, g4⟩
    · rw [g1, g2, bd2_s, rdsM_0]
      exact ⟨I1, F1, j1, Or.inl ⟨q, rfl, rfl, g3⟩⟩
    · obtain ⟨a1, a2⟩ := rdR_ok (by omega) g1
      have hqs : sk T q = q := by
        unfold rdR at g1
        cases x1 : rdT T 12 0 3 p with
        | inl x => rw [x1] at g1; cases g1
        | inr x =>
          obtain ⟨p1, l⟩ := x
          rw [x1] at g1
          by_cases y1 : tks T p1 62 = true
          · simp only [if_pos y1] at g1
            cases x2 : rdT T 12 (unkS l) (unkS l) (sk T p1 + 1) with
            | inl x => rw [x2] at g1; cases g1
            | inr x =>
              obtain ⟨p2, r⟩ := x
              rw [x2] at g1
              by_cases y2 : tks T p2 59 = true
              · simp only [if_pos y2] at g1
                cases g1
                exact sk_sk T _
              · simp only [if_neg y2] at g1
                cases g1
          · simp only [if_neg y1] at g1
            cases g1
      have hr' : RsOK (rs ++ [u]) := ⟨by rw [List.length_append, List.length_singleton]; omega, fun x hx => (List.mem_append.mp hx).elim (h7.2 x) (fun q => by rw [List.mem_singleton.mp q]; exact a2)⟩
      rw [g1, g2, bd2_s]
      by_cases he : q = T.length
      · simp only [if_pos he]
        rw [f_X11_readsRules_L39, if_neg n10, (h5.fr F1).1, g3, if_pos (nI_le (by omega) (by omega))]
        exact ⟨I1, F1, j1, Or.inr ⟨_, rfl, rfl, g4⟩⟩
      · simp only [if_neg he]
        obtain ⟨I2, F2, j2, e2⟩ := ih (f + 1) q I1 (rs ++ [u]) (by omega) (by rw [List.length_append, List.length_singleton]; omega) (by omega) hqs (h5.fr F1) g3 hr' g4
        exact ⟨I2, F2.trans F1, fun j hj => (j2 j hj).trans (j1 j hj), e2⟩
theorem rdRs_sk (T : List Int32) (k p : Nat) (rs : List Ru) : rdRs T k (sk T p) rs = rdRs T k p rs := by
  cases k with
  | zero =>
    show Sum.inl (sk T (sk T p)) = Sum.inl (sk T p)
    rw [sk_sk]
  | succ k => rw [rdRs_s, rdRs_s, rdR_sk]
theorem rdRs_end {T : List Int32} {k p : Nat} {rs : List Ru} (h : ¬ sk T p < T.length) : rdRs T k p rs = Sum.inl (sk T p) := by
  cases k with
  | zero => rfl
  | succ k =>
    rw [rdRs_s]
    unfold rdR
    rw [rdT_end h]
theorem rdR_le {T : List Int32} {p q : Nat} (hp : p ≤ T.length) (h : rdR T p = Sum.inl q) : q ≤ T.length := by
  unfold rdR at h
  cases h1 : rdT T 12 0 3 p with
  | inl x => rw [h1] at h; cases h; exact runT_le _ _ _ _ _ hp h1
  | inr x =>
    obtain ⟨p1, l⟩ := x
    rw [h1] at h
    obtain ⟨a1, -⟩ := rdT_ok hp h1
    by_cases t1 : tks T p1 62 = true
    · simp only [if_pos t1] at h
      have t1' := of_decide_eq_true t1
      cases h2 : rdT T 12 (unkS l) (unkS l) (sk T p1 + 1) with
      | inl x => rw [h2] at h; cases h; exact runT_le _ _ _ _ _ (by omega) h2
      | inr x =>
        obtain ⟨p2, r⟩ := x
        rw [h2] at h
        obtain ⟨b1, -⟩ := rdT_ok (by omega) h2
        by_cases t2 : tks T p2 59 = true
        · simp only [if_pos t2] at h
          cases h
        · simp only [if_neg t2] at h
          cases h
          exact sk_le b1
    · simp only [if_neg t1] at h
      cases h
      exact sk_le a1
theorem rdRs_le {T : List Int32} : ∀ (k p : Nat) (rs : List Ru) (q : Nat), p ≤ T.length → rdRs T k p rs = Sum.inl q → q ≤ T.length := by
  intro k
  induction k with
  | zero => intro p rs q hp h; cases h; exact sk_le hp
  | succ k ih =>
    intro p rs q hp h
    rw [rdRs_s] at h
    cases h1 : rdR T p with
    | inl x => rw [h1] at h; cases h; exact rdR_le hp h1
    | inr x =>
      obtain ⟨p', u⟩ := x
      rw [h1] at h
      by_cases he : p' = T.length
      · simp only [if_pos he] at h
        cases h
      · simp only [if_neg he] at h
        exact ih p' _ q (rdR_ok hp h1).1 h
/-- the rows that reading rules leaves alone -/
theorem rdsM_ok {T : List Int32} {I : mI} {sn : Sn} (hT : T.length ≤ 120) (h4 : TxM I T) (hs : SnM (I 1) sn) (hOK : SnOK sn) :
    ∃ I', FrY I' I ∧ ((∃ q, rdRs T (5 - sn.1.length) 0 sn.1 = Sum.inl q ∧ q ≤ T.length ∧ f_X11_readsRules 0 I R1M = some (nI q, I')) ∨ (∃ rs', rdRs T (5 - sn.1.length) 0 sn.1 = Sum.inr rs' ∧ f_X11_readsRules 0 I R1M = some (-1, I') ∧ SnM (I' 2) (rs', sn.2))) := by
  have h5 := hOK.1.1
  obtain ⟨I1, e1, e2, e3, e4⟩ := copiesM_ok (a := 1) (b := 2) (o1 := 0) (o2 := 0) (by decide) (by rw [lm1]; omega) (by rw [lm2]; omega) (by rw [lm1]; omega) (by rw [lm2]; omega) I
  have hs2 : SnM (I1 2) sn := hs.cong hOK (fun j hj => by have := e2 j hj; rw [Nat.zero_add] at this; exact this)
  have F1 : FrY I1 I := ⟨fun a _ y _ => e4 a y, fun k _ _ => by rw [e4 0 (by decide)]⟩
  have F2 : FrY (u2 I1 0 7 0) I := ((FrX.rfl' I1).set 0).y.trans F1
  obtain ⟨I3, f1, f2, f3⟩ := blM_ok hT (p := 0) (Nat.zero_le _) (h4.fr F2) (by rw [u2_e]; rfl)
  have F3 : FrY I3 I := f3.y.trans F2
  have r3 : I3 2 = I1 2 := by rw [f3.1 2 (by decide), u2_n _ _ _ (by decide)]
  have hsl : sk T 0 ≤ T.length := sk_le (Nat.zero_le _)
  unfold f_X11_readsRules
  simp only [bnd]
  rw [mr0, mr1]
  rw [nI0] at e1
  rw [e1, bd1_s, f1, bd1_s, (h4.fr F3).1, f2]
  by_cases hl : sk T 0 < T.length
  · rw [if_neg (nI_ge hl (by omega))]
    obtain ⟨I4, G4, j4, e5⟩ := rdsM_L hT (5 - sn.1.length) FU (sk T 0) I3 sn.1 (by rw [FU_eq]; omega) (by omega) hl (sk_sk T 0) (h4.fr F3) f2 hOK.1 (by rw [r3]; exact hs2.1)
    rw [rdRs_sk] at e5
    have F4 : FrY I4 I := G4.trans F3
    rcases e5 with ⟨q, g1, g2, g3⟩ | ⟨rs', g1, g2, g3⟩
    · rw [g2, bd2_s, if_pos rfl, g3]
      exact ⟨I4, F4, Or.inl ⟨q, g1, rdRs_le _ _ _ _ (Nat.zero_le _) g1, rfl⟩⟩
    · rw [g2, bd2_s, if_neg n10]
      refine ⟨I4, F4, Or.inr ⟨rs', g1, rfl, g3, ?_⟩⟩
      exact hs2.2.cong hOK.2.2 (fun j x y => by rw [j4 j x, r3])
  · rw [if_pos (nI_le (by omega) (by omega)), FU_eq, rdsM_0, bd2_s, if_pos rfl, f2]
    exact ⟨I3, F3, Or.inl ⟨sk T 0, rdRs_end hl, hsl, rfl⟩⟩
theorem rdTM_ok {T : List Int32} {I : mI} {sn : Sn} (hT : T.length ≤ 120) (h4 : TxM I T) (hs : SnM (I 1) sn) (hOK : SnOK sn) :
    ∃ I', FrY I' I ∧ ((∃ q, rdW T = Sum.inl q ∧ q ≤ T.length ∧ f_X11_readsTerm 0 I R1M = some (nI q, I')) ∨ (∃ l, rdW T = Sum.inr l ∧ f_X11_readsTerm 0 I R1M = some (-1, I') ∧ SnM (I' 2) (sn.1, l))) := by
  have h5 := hOK.1.1
  obtain ⟨I1, e1, e2, e3, e4⟩ := copiesM_ok (a := 1) (b := 2) (o1 := 0) (o2 := 0) (by decide) (by rw [lm1]; omega) (by rw [lm2]; omega) (by rw [lm1]; omega) (by rw [lm2]; omega) I
  have hs2 : SnM (I1 2) sn := hs.cong hOK (fun j hj => by have := e2 j hj; rw [Nat.zero_add] at this; exact this)
  have F1 : FrY I1 I := ⟨fun a _ y _ => e4 a y, fun k _ _ => by rw [e4 0 (by decide)]⟩
  have F2 : FrY (u2 I1 0 7 0) I := ((FrX.rfl' I1).set 0).y.trans F1
  obtain ⟨I3, F3, e5⟩ := tkM_ok hT (o := 132) (most := 60) (by omega) (by omega) (m := 3) (Or.inr (Or.inr (Or.inr rfl))) (p := 0) (Nat.zero_le _) (h4.fr F2) (by rw [u2_e]; rfl)
  have F3' : FrY I3 I := F3.1.trans F2
  have n131 : ∀ (v : Int32), FrY (u2 I3 2 131 v) I := fun v => ⟨fun a x y z => by rw [u2_n _ _ _ y]; exact F3'.1 a x y z, fun k x y => by rw [u2_n _ _ _ (by decide)]; exact F3'.2 k x y⟩
  unfold f_X11_readsTerm rdW
  simp only [bnd]
  rw [mr0, mr1]
  rw [nI0] at e1
  rw [e1, bd1_s, show (132 : Int32) = nI 132 from rfl, show (60 : Int32) = nI 60 from rfl]
  rcases e5 with ⟨q, g1, g2, g3⟩ | ⟨q, l, g1, g2, g3, g4⟩
  · rw [g2, bd2_s, lm2, if_pos (show inb 131 192 = true from rfl), if_pos rfl, show (131 : Int32).toNatClampNeg = 131 from rfl, u2_n _ _ _ (show (0 : Nat) ≠ 2 by decide), g3, g1]
    exact ⟨_, n131 _, Or.inl ⟨q, rfl, runT_le _ _ _ _ _ (Nat.zero_le _) g1, rfl⟩⟩
  · obtain ⟨a1, a2, a3, -⟩ := rdT_ok (Nat.zero_le _) g1
    have hsl := sk_le a1
    rw [g2, bd2_s, lm2, if_pos (show inb 131 192 = true from rfl), if_neg (bv_ne (by omega)), show (131 : Int32).toNatClampNeg = 131 from rfl, u2_n _ _ _ (show (0 : Nat) ≠ 2 by decide), (h4.fr F3').1, g3, g1]
    by_cases he : sk T q = T.length
    · simp only [if_pos he]
      rw [if_pos (nI_le (by omega) (by omega))]
      refine ⟨_, n131 _, Or.inr ⟨l, rfl, rfl, ?_, ?_⟩⟩
      · exact hs2.1.cong hOK.1 (fun j hj => by rw [u2_o _ _ _ (by omega), F3.2 j (by omega), u2_n _ _ _ (by decide)])
      · exact ⟨by rw [u2_e], fun k hk => by rw [u2_o _ _ _ (by omega)]; exact g4 k hk⟩
    · simp only [if_neg he]
      rw [if_neg (nI_ge (by omega) (by omega))]
      exact ⟨_, n131 _, Or.inl ⟨sk T q, rfl, hsl, rfl⟩⟩
