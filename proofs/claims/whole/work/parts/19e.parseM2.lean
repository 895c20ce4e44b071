/-! ===== reading: the model, terms and rules ===== -/
theorem runT_ab {T : List Int32} {most : Nat} {a a' b : Int32} : ∀ (n p : Nat) (ds w : List Int32), 0 < w.length → runT T most a b n p ds w = runT T most a' b n p ds w := by
  intro n
  induction n with
  | zero => intro p ds w h; rfl
  | succ n ih =>
    intro p ds w h
    cases ds with
    | nil => rfl
    | cons d ds =>
      rw [runT, runT, if_neg (show ¬ w.length = 0 by omega), if_neg (show ¬ w.length = 0 by omega), ih (sk T p + 1) ds w h, ih (sk T p + 1) _ _ (show 0 < (w ++ [T.getD (sk T p) 0]).length by rw [List.length_append, List.length_singleton]; omega)]
theorem rdT_sk (T : List Int32) (most : Nat) (a b : Int32) (p : Nat) : rdT T most a b (sk T p) = rdT T most a b p := by
  unfold rdT
  rw [runT, runT, sk_sk]
theorem rdR_sk (T : List Int32) (p : Nat) : rdR T (sk T p) = rdR T p := by
  unfold rdR
  rw [rdT_sk]
theorem rdT_end {T : List Int32} {most : Nat} {a b : Int32} {p : Nat} (h : ¬ sk T p < T.length) : rdT T most a b p = Sum.inl (sk T p) := runT_end h
theorem rdT_bad {T : List Int32} {b : Int32} {p : Nat} (h : sk T p < T.length) (hc : T.getD (sk T p) 0 = 120 ∨ T.getD (sk T p) 0 = 121) : rdT T 12 0 b p = Sum.inl (sk T p) := runT_Tn h (fun q => alw0 (by have := q.2.2; rw [if_pos (show ([] : List Int32).length = 0 from rfl)] at this; exact this) hc)
theorem alw_n {m c : Int32} (h : ¬ (c = 120 ∨ c = 121)) (hm : S4 m) : alw m c = true := by
  rcases ub_3 c with ⟨h1, -⟩ | ⟨h1, -⟩ | ⟨_, _, h2⟩
  · exact absurd (Or.inl h1) h
  · exact absurd (Or.inr h1) h
  · unfold alw
    rw [h2]
    rcases hm with rfl | rfl | rfl | rfl <;> decide
theorem rdT_good {T : List Int32} {p : Nat} (h : sk T p < T.length) (hc : ¬ (T.getD (sk T p) 0 = 120 ∨ T.getD (sk T p) 0 = 121)) : rdT T 12 0 3 p = rdT T 12 3 3 p := by
  unfold rdT
  rw [runT, runT, if_pos (show ([] : List Int32).length = 0 from rfl), if_pos (show ([] : List Int32).length = 0 from rfl), alw_n hc (Or.inl rfl), alw_n hc (Or.inr (Or.inr (Or.inr rfl))), runT_ab (a := 0) (a' := 3) _ _ _ _ (show 0 < (([] : List Int32) ++ [T.getD (sk T p) 0]).length by simp)]
  rfl
theorem tkM_ok {T : List Int32} (hT : T.length ≤ 120) {o most : Nat} (ho : o + most ≤ 192) (hmost : most ≤ 60) {m : Int32} (hm : S4 m) {p : Nat} {I : mI} (h3 : p ≤ T.length) (h6 : TxM I T) (h7 : I 0 7 = nI p) :
    ∃ I', FrL o most I' I ∧ ((∃ q, rdT T most m m p = Sum.inl q ∧ f_X11_takesTerm 0 (nI o) (nI most) m I R1M = some (-1, I') ∧ I' 0 7 = nI q) ∨ (∃ q l, rdT T most m m p = Sum.inr (q, l) ∧ f_X11_takesTerm 0 (nI o) (nI most) m I R1M = some (nI l.length, I') ∧ I' 0 7 = nI (sk T q) ∧ LeM I' o l)) := by
  have F0 : FrL o most (u2 I 0 9 0) I := ⟨⟨fun a x _ _ => by rw [u2_n _ _ _ x], fun k _ y => by rw [u2_o _ _ _ y]⟩, fun j _ => by rw [u2_n _ _ _ (by decide)]⟩
  obtain ⟨I1, e1, e2, e3⟩ := DuM.push (I := u2 I 0 9 0) (ds := []) ⟨by rw [u2_e]; rfl, fun k hk => by cases hk⟩ (by decide) 84
  have F1 : FrL o most I1 I := (FrZ.l o most e3).trans F0
  obtain ⟨I2, G2, k2⟩ := tkM_L hT ho hmost hm (T.length + 1) FU p I1 [84] [] (by rw [FU_eq]; omega) (by omega) h3 (Nat.zero_le _) (Nat.le_refl _) (h6.fr F1.1) (by rw [e3.2 7 (by decide), u2_o _ _ _ (by decide)]; exact h7) e2 (fun k hk => by cases hk)
  have F2 : FrL o most I2 I := G2.trans F1
  unfold f_X11_takesTerm rdT
  simp only [bnd]
  rw [e1, bd1_s]
  rw [show nI ([] : List Int32).length = 0 from rfl] at k2
  rcases k2 with ⟨q, g1, g2, g3⟩ | ⟨q, l, g1, g2, g3, g4⟩
  · exact ⟨I2, F2, Or.inl ⟨q, g1, by rw [g2]; rfl, g3⟩⟩
  · have hq := (runT_wf _ _ _ _ _ _ h3 (Nat.zero_le _) g1).1
    obtain ⟨I3, f1, f2, f3⟩ := blM_ok hT hq (h6.fr F2.1) g3
    refine ⟨I3, (f3.l o most).trans F2, Or.inr ⟨q, l, g1, ?_, f2, fun k hk => by rw [f3.1 2 (by decide)]; exact g4 k hk⟩⟩
    rw [g2, bdS_r]
    show (bd1 (f_X11_blanks 0 I2 R1M) fun I29 => _) = _
    rw [f1]
    rfl
theorem sgM_ok {T : List Int32} (hT : T.length ≤ 120) {p : Nat} {I : mI} (h3 : p ≤ T.length) (h6 : TxM I T) (h7 : I 0 7 = nI (sk T p)) (c : Int32) :
    ∃ I', FrX I' I ∧ ((tks T p c = true ∧ f_X11_takesSign 0 c I R1M = some (1, I') ∧ I' 0 7 = nI (sk T p + 1)) ∨ (tks T p c = false ∧ f_X11_takesSign 0 c I R1M = some (0, I') ∧ I' 0 7 = nI (sk T p))) := by
  have hs := sk_le h3
  have no : nI (sk T p) + 0 = nI (sk T p) := by grind
  unfold f_X11_takesSign
  simp only [bnd]
  rw [h6.1, h7, mr5, lm5]
  by_cases hl : sk T p < T.length
  · rw [if_neg (nI_ge hl (by omega)), if_pos (inb_nI (by omega) (by omega)), nI_clamp (by omega), h6.2 _ hl]
    by_cases hc : T.getD (sk T p) 0 = c
    · rw [if_pos hc, if_neg n10, if_pos (show zb 1 = true from rfl), nI_1]
      exact ⟨_, (FrX.rfl' I).set _, Or.inl ⟨decide_eq_true ⟨hl, hc⟩, rfl, by rw [u2_e]⟩⟩
    · rw [if_neg hc, if_pos trivial, if_pos (show zb 0 = true from rfl), no]
      exact ⟨_, (FrX.rfl' I).set _, Or.inr ⟨decide_eq_false (fun q => hc q.2), rfl, by rw [u2_e]⟩⟩
  · rw [if_pos (nI_le (by omega) (by omega)), if_pos trivial, if_pos (show zb 0 = true from rfl), no]
    exact ⟨_, (FrX.rfl' I).set _, Or.inr ⟨decide_eq_false (fun q => hl q.1), rfl, by rw [u2_e]⟩⟩
theorem unkM_L {a o : Nat} {l : List Int32} {I : mI} (ho : o + l.length ≤ lnM a) (hb : lnM a ≤ 5000) (h : ∀ k, k < l.length → I a (o + k) = l.getD k 0) :
    ∀ (q n k : Nat) (s : Int32), l.length - k = q → q < n → k ≤ l.length → f_X11_unknowns_L5 n a (nI o) (nI l.length) s (nI k) I = some (unkF s (l.drop k)) := by
  intro q
  induction q with
  | zero =>
    intro n k s h1 h2 h3
    obtain ⟨n, rfl⟩ : ∃ q, n = q + 1 := ⟨n - 1, by omega⟩
    rw [f_X11_unknowns_L5, if_pos (nI_le (by omega) (by omega)), List.drop_of_length_le (by omega)]
    rfl
  | succ q ih =>
    intro n k s h1 h2 h3
    obtain ⟨n, rfl⟩ : ∃ q, n = q + 1 := ⟨n - 1, by omega⟩
    rw [f_X11_unknowns_L5]
    simp only [bnd]
    rw [if_neg (nI_ge (by omega) (by omega)), nI_add, if_pos (inb_nI (by omega) (by omega)), nI_clamp (by omega), h k (by omega), nI_1 k, unkF_drop (l := l) (k := k) (by omega)]
    unfold ub
    by_cases c1 : l.getD k 0 = 120
    · rw [if_pos c1, if_pos c1]
      exact ih n (k + 1) _ (by omega) (by omega) (by omega)
    · rw [if_neg c1, if_neg c1]
      by_cases c2 : l.getD k 0 = 121
      · rw [if_pos c2, if_pos c2]
        exact ih n (k + 1) _ (by omega) (by omega) (by omega)
      · rw [if_neg c2, if_neg c2]
        exact ih n (k + 1) _ (by omega) (by omega) (by omega)
theorem unkM_ok {a o : Nat} {l : List Int32} {I : mI} (ho : o + l.length ≤ lnM a) (hb : lnM a ≤ 5000) (h : ∀ k, k < l.length → I a (o + k) = l.getD k 0) : f_X11_unknowns a (nI o) (nI l.length) I = some (unkS l) := by
  unfold f_X11_unknowns
  have e := unkM_L ho hb h l.length FU 0 0 (by omega) (by rw [FU_eq]; omega) (by omega)
  rw [nI0, List.drop_zero] at e
  rw [e]
  rfl
/-- a rule -/
theorem tkRM_ok {T : List Int32} (hT : T.length ≤ 120) {p : Nat} {I : mI} {rs : List Ru} (h3 : p < T.length) (hp : sk T p = p) (h6 : TxM I T) (h7 : I 0 7 = nI p) (hr : RsOK rs) (hR : RsM (I 2) rs) (h5 : rs.length < 5) :
    ∃ I', FrY I' I ∧ (∀ j, 131 ≤ j → I' 2 j = I 2 j) ∧ ((∃ q, rdR T p = Sum.inl q ∧ f_X11_takesRule 0 I R1M = some (0, I') ∧ I' 0 7 = nI q) ∨ (∃ q u, rdR T p = Sum.inr (q, u) ∧ f_X11_takesRule 0 I R1M = some (1, I') ∧ I' 0 7 = nI q ∧ RsM (I' 2) (rs ++ [u]))) := by
  have hne5 : ¬ nI rs.length = 5 := fun q => by have := nI_inj (b := 5) (by omega) (by omega) q; omega
  unfold f_X11_takesRule
  simp only [bnd]
  rw [mr1, lm2, if_pos (show inb 0 192 = true from rfl), i0, hR.1, if_neg hne5, h6.1, h7, if_neg (nI_ge h3 (by omega)), mr5, lm5, if_pos (inb_nI (by omega) (by omega)), nI_clamp (show p < 2 ^ 31 by omega), h6.2 p h3, iUM, bd1_s]
  by_cases hun : T.getD p 0 = 120 ∨ T.getD p 0 = 121
  · rw [if_pos hun, if_neg n10]
    refine ⟨I, FrY.rfl' I, fun _ _ => rfl, Or.inl ⟨p, ?_, rfl, h7⟩⟩
    unfold rdR
    rw [rdT_bad (by omega) (by rw [hp]; exact hun), hp]
  · rw [if_neg hun, if_pos rfl, leftOf_ok, bd1_s]
    have hgood : rdT T 12 0 3 p = rdT T 12 3 3 p := rdT_good (by omega) (by rw [hp]; exact hun)
    obtain ⟨I1, F1, e1⟩ := tkM_ok hT (o := 3 + 26 * rs.length) (most := 12) (by omega) (by omega) (m := 3) (Or.inr (Or.inr (Or.inr rfl))) (by omega) h6 h7
    unfold rdR
    rw [hgood]
    rcases e1 with ⟨q, g1, g2, g3⟩ | ⟨p1, l, g1, g2, g3, g4⟩
    · rw [show (12 : Int32) = nI 12 from rfl, g2, bd2_s, if_pos rfl, g1]
      exact ⟨I1, F1.1, fun j hj => F1.2 j (by omega), Or.inl ⟨q, rfl, rfl, g3⟩⟩
    · obtain ⟨a1, a2, a3, a4, a5⟩ := rdT_ok (by omega) g1
      rw [show (12 : Int32) = nI 12 from rfl, g2, bd2_s, if_neg (bv_ne (by omega)), g1]
      obtain ⟨I2, G2, e2⟩ := sgM_ok hT a1 (h6.fr F1.1) g3 62
      have F2 : FrY I2 I := G2.y.trans F1.1
      have r2 : I2 2 = I1 2 := G2.1 2 (by decide)
      rcases e2 with ⟨t1, t2, t3⟩ | ⟨t1, t2, t3⟩
      · have t1' := of_decide_eq_true t1
        simp only [if_pos t1]
        have hunk : f_X11_unknowns 2 (nI (3 + 26 * rs.length)) (nI l.length) I2 = some (unkS l) := unkM_ok (by rw [lm2]; omega) (by rw [lm2]; omega) (fun k hk => by rw [r2]; exact g4 k hk)
        rw [t2, bd2_s, if_neg n10, rightOf_ok, bd1_s, bd1_s, hunk, bd1_s]
        obtain ⟨I3, F3, e3⟩ := tkM_ok hT (o := 15 + 26 * rs.length) (most := 12) (by omega) (by omega) (m := unkS l) (unkS_4 l) (p := sk T p1 + 1) (by omega) (h6.fr F2) t3
        have F3' : FrY I3 I := F3.1.trans F2
        rcases e3 with ⟨q, k1, k2, k3⟩ | ⟨p2, r, k1, k2, k3, k4⟩
        · rw [k2, bd2_s, if_pos rfl, k1]
          exact ⟨I3, F3', fun j hj => by rw [F3.2 j (by omega), r2, F1.2 j (by omega)], Or.inl ⟨q, rfl, rfl, k3⟩⟩
        · obtain ⟨b1, b2, b3, b4, b5⟩ := rdT_ok (by omega) k1
          rw [k2, bd2_s, if_neg (bv_ne (by omega)), k1]
          obtain ⟨I4, G4, e4⟩ := sgM_ok hT b1 (h6.fr F3') k3 59
          have F4 : FrY I4 I := G4.y.trans F3'
          have r4 : I4 2 = I3 2 := G4.1 2 (by decide)
          rcases e4 with ⟨t1'', t2'', t3''⟩ | ⟨t1'', t2'', t3''⟩
          · have ht := of_decide_eq_true t1''
            simp only [if_pos t1'']
            rw [t2'', bd2_s, if_neg n10, show (26 : Int32) = nI 26 from rfl, pk_mul, show (1 : Int32) = nI 1 from rfl, nI_add, nI_add, if_pos (inb_nI (by omega) (by omega)), if_pos (inb_nI (by omega) (by omega)), nI_clamp (show 1 + 26 * rs.length < 2 ^ 31 by omega), nI_clamp (show 1 + 26 * rs.length + 1 < 2 ^ 31 by omega), u2_o _ _ _ (show (0 : Nat) ≠ 1 + 26 * rs.length + 1 by omega), u2_o _ _ _ (show (0 : Nat) ≠ 1 + 26 * rs.length by omega), r4, F3.2 0 (by omega), r2, F1.2 0 (by omega), hR.1, nI_add]
            generalize hJ : u2 (u2 (u2 I4 2 (1 + 26 * rs.length) (nI l.length)) 2 (1 + 26 * rs.length + 1) (nI r.length)) 2 0 (nI (rs.length + 1)) = J
            have J0 : ∀ a, a ≠ 2 → J a = I4 a := fun a ha => by rw [← hJ, u2_n _ _ _ ha, u2_n _ _ _ ha, u2_n _ _ _ ha]
            have FJ : FrY J I := ⟨fun a x y z => by rw [J0 a y]; exact F4.1 a x y z, fun k x y => by rw [J0 0 (by decide)]; exact F4.2 k x y⟩
            obtain ⟨I5, m1, m2, m3⟩ := blM_ok hT (p := sk T p2 + 1) (by omega) (h6.fr FJ) (by rw [J0 0 (by decide)]; exact t3'')
            have Jv : ∀ j, j ≠ 0 → j ≠ 1 + 26 * rs.length → j ≠ 2 + 26 * rs.length → J 2 j = I3 2 j := fun j x y z => by rw [← hJ, u2_o _ _ _ x, u2_o _ _ _ (by omega), u2_o _ _ _ y, r4]
            have r5 : I5 2 = J 2 := m3.1 2 (by decide)
            rw [m1, bd1_s]
            refine ⟨I5, m3.y.trans FJ, fun j hj => by rw [r5, Jv j (by omega) (by omega) (by omega), F3.2 j (by omega), r2, F1.2 j (by omega)], Or.inr ⟨_, (l, r), rfl, rfl, m2, ?_⟩⟩
            refine ⟨by rw [r5, ← hJ, u2_e, List.length_append]; rfl, fun i hi => ?_⟩
            rw [List.length_append, List.length_singleton] at hi
            rw [r5]
            by_cases hil : i = rs.length
            · rw [hil, gD_app_e]
              refine ⟨?_, ?_, fun k hk => ?_, fun k hk => ?_⟩
              · rw [← hJ, u2_o _ _ _ (by omega), u2_o _ _ _ (by omega), u2_e]
              · rw [← hJ, u2_o _ _ _ (by omega), show 2 + 26 * rs.length = 1 + 26 * rs.length + 1 by omega, u2_e]
              · have hk' : k < l.length := hk
                rw [Jv _ (by omega) (by omega) (by omega), F3.2 _ (by omega), r2]
                exact g4 k hk
              · have hk' : k < r.length := hk
                rw [Jv _ (by omega) (by omega) (by omega)]
                exact k4 k hk
            · rw [gD_app_l _ (by omega)]
              have hu := hr.get (r := i) (by omega)
              refine (hR.2 i (by omega)).cong hu.2.2.1 hu.2.2.2.1 (fun j hj => ?_)
              rw [Jv _ (by omega) (by omega) (by omega), F3.2 _ (by omega), r2, F1.2 _ (by omega)]
          · simp only [t1'']
            rw [t2'', bd2_s, if_pos rfl]
            exact ⟨I4, F4, fun j hj => by rw [r4, F3.2 j (by omega), r2, F1.2 j (by omega)], Or.inl ⟨sk T p2, rfl, rfl, t3''⟩⟩
      · simp only [t1]
        rw [t2, bd2_s, if_pos rfl]
        exact ⟨I2, F2, fun j hj => by rw [r2, F1.2 j (by omega)], Or.inl ⟨sk T p1, rfl, rfl, t3⟩⟩
