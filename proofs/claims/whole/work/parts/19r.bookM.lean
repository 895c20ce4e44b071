/-! ===== what may follow, what is reached, rings: the model ===== -/
theorem longR {I : mI} {r p : Nat} {u : Ru} (hM : RuM (I 1) r u) (hu : RuOK u) (hr : r < 5) (hp : p < u.2.length) : f_X11_longAt 1 (nI (15 + 26 * r + p)) I = some (nI (ep u.2 p - p)) := by
  have h12 := hu.2.2.2.1
  obtain ⟨m, hm⟩ := wfb_drop u.2 1 p hu.2.1.1 hp
  rw [longAt_ok (s := u.2.drop p) (m := m) (fun k hk => by rw [List.length_drop] at hk; rw [getD_drop, show 15 + 26 * r + p + k = 15 + 26 * r + (p + k) by omega]; exact hM.2.2.2 _ (by omega)) (by rw [List.length_drop, lm1]; omega) (by rw [lm1]; omega) hm]
  unfold ep
  rw [show p + pl 1 (u.2.drop p) - p = pl 1 (u.2.drop p) by omega]
theorem longL {I : mI} {r p : Nat} {u : Ru} (hM : RuM (I 1) r u) (hu : RuOK u) (hr : r < 5) (hp : p < u.1.length) : f_X11_longAt 1 (nI (3 + 26 * r + p)) I = some (nI (ep u.1 p - p)) := by
  have h12 := hu.2.2.1
  obtain ⟨m, hm⟩ := wfb_drop u.1 1 p hu.1.1 hp
  rw [longAt_ok (s := u.1.drop p) (m := m) (fun k hk => by rw [List.length_drop] at hk; rw [getD_drop, show 3 + 26 * r + p + k = 3 + 26 * r + (p + k) by omega]; exact hM.2.2.1 _ (by omega)) (by rw [List.length_drop, lm1]; omega) (by rw [lm1]; omega) hm]
  unfold ep
  rw [show p + pl 1 (u.1.drop p) - p = pl 1 (u.1.drop p) by omega]
theorem mfM_L {rs : List Ru} {I : mI} {r s : Nat} (hr : RsOK rs) (hM : RsM (I 1) rs) (h1 : r < rs.length) (h2 : s < rs.length) :
    ∀ (f n p q a m : Nat), (rs.getD s dRu).1.length - q < f → f < n → q ≤ (rs.getD s dRu).1.length → wfb a ((rs.getD s dRu).1.drop q) = true → wfb (a + m) ((rs.getD r dRu).2.drop p) = true → f_X11_mayFollow_L60 n 0 (nI (15 + 26 * r + p)) (nI (3 + 26 * s + q)) (nI (3 + 26 * s + (rs.getD s dRu).1.length)) I R1M = some (if mfF (hv rs) (rs.getD r dRu).2 (rs.getD s dRu).1 f p q = true then Sum.inr () else Sum.inl 0) := by
  have hr5 := hr.1
  have hu := hr.get h1
  have hv2 := hr.get h2
  have hu12 := hu.2.2.2.1
  have hv12 := hv2.2.2.1
  have mU := hM.2 r h1
  have mV := hM.2 s h2
  generalize rs.getD r dRu = u at *
  generalize rs.getD s dRu = v at *
  intro f
  induction f with
  | zero => intro n p q a m g1; omega
  | succ f ih =>
    intro n p q a m g1 g2 g3 g4 g5
    obtain ⟨n, rfl⟩ : ∃ x, n = x + 1 := ⟨n - 1, by omega⟩
    rw [f_X11_mayFollow_L60, mfF_s]
    simp only [bnd]
    by_cases hq : q < v.1.length
    · cases a with
      | zero =>
        rw [drop_c hq] at g4
        cases g4
      | succ a =>
        obtain ⟨w1, w2, w3⟩ := wf_in2 g4
        have g5' : wfb (a + 1 + m) (u.2.drop p) = true := g5
        obtain ⟨v1, v3⟩ := wf_next g5'
        have v2 := wf_in g5'
        have e1 := ep_gt hq
        have e2 := ep_le (l := v.1) (k := q) (by omega)
        have e3 := ep_gt v1
        have e4 := ep_le (l := u.2) (k := p) (by omega)
        rw [if_pos hq, if_neg (nI_ge (by omega) (by omega)), mr0, lm1, if_pos (inb_nI (by omega) (by omega)), if_pos (inb_nI (by omega) (by omega)), nI_clamp (show 3 + 26 * s + q < 2 ^ 31 by omega), nI_clamp (show 15 + 26 * r + p < 2 ^ 31 by omega), mV.2.2.1 q hq, mU.2.2.2 p v1, iUM, bd1_s, iUM, bd1_s, isHdM hr hM, bd1_s, isU_if, isU_if, longR mU hu (by omega) v1, bd1_s, longL mV hv2 (by omega) hq, bd1_s, nI_add, nI_add, nI_1, nI_1]
        have skip : f_X11_mayFollow_L60 n 0 (nI (15 + 26 * r + p + (ep u.2 p - p))) (nI (3 + 26 * s + q + (ep v.1 q - q))) (nI (3 + 26 * s + v.1.length)) I R1M = some (if mfF (hv rs) u.2 v.1 f (ep u.2 p) (ep v.1 q) = true then Sum.inr () else Sum.inl 0) := by
          rw [show 15 + 26 * r + p + (ep u.2 p - p) = 15 + 26 * r + ep u.2 p by omega, show 3 + 26 * s + q + (ep v.1 q - q) = 3 + 26 * s + ep v.1 q by omega]
          exact ih n (ep u.2 p) (ep v.1 q) a m (by omega) (by omega) e2 w3 v3
        cases hu1 : isU (v.1.getD q 0) with
        | true =>
          rw [if_pos rfl, if_neg n10, if_pos (show (true || (isU (u.2.getD p 0) || hb (hv rs) (u.2.getD p 0))) = true from rfl), skip]
        | false =>
          rw [if_neg (show ¬ false = true by decide), if_pos rfl]
          cases hu2 : isU (u.2.getD p 0) with
          | true =>
            rw [if_pos rfl, if_neg n10, if_pos (show (false || (true || hb (hv rs) (u.2.getD p 0))) = true from rfl), skip]
          | false =>
            rw [if_neg (show ¬ false = true by decide), if_pos rfl]
            cases hu3 : hb (hv rs) (u.2.getD p 0) with
            | true =>
              rw [if_pos rfl, if_neg n10, if_pos (show (false || (false || true)) = true from rfl), skip]
            | false =>
              rw [if_neg (show ¬ false = true by decide), if_pos rfl, if_neg (show ¬ (false || (false || false)) = true by decide)]
              by_cases he : u.2.getD p 0 = v.1.getD q 0
              · rw [if_pos he, if_pos he]
                rw [← he] at w2
                exact ih n (p + 1) (q + 1) (a + wn (u.2.getD p 0)) m (by omega) (by omega) (by omega) w2 v2
              · rw [if_neg he, if_neg he]
                rfl
    · rw [if_neg hq, if_pos rfl, if_pos (nI_le (by omega) (by omega))]
def bi (b : Bool) : Int32 := if b = true then 1 else 0
theorem bi_nar (b : Bool) : vp_nar .boolean (bi b) = bi b := by cases b <;> rfl
theorem bi_0 (b : Bool) : bi b = 0 ↔ b = false := by cases b <;> decide
theorem mfM_ok {rs : List Ru} {I : mI} {c d : Nat} (hr : RsOK rs) (hM : RsM (I 1) rs) (hC : CkM I (callsS rs)) (hc : c < nCl rs) (hd : d < nCl rs) : f_X11_mayFollow 0 (nI c) (nI d) I R1M = some (bi (foS rs c d)) := by
  have hr5 := hr.1
  have h60 : nCl rs ≤ 60 := callsS_len hr
  obtain ⟨i1, i2⟩ := callsS_in hc
  obtain ⟨j1, j2⟩ := callsS_in hd
  unfold f_X11_mayFollow foS
  rw [mr17, mr16, lm13, lm12, if_pos (inb_nI (by omega) (by omega)), if_pos (inb_nI (by omega) (by omega)), nI_clamp (show c < 2 ^ 31 by omega), nI_clamp (show d < 2 ^ 31 by omega), (hC.2 c hc).2, (hC.2 d hd).1, leftOf_ok, bd1_s]
  rw [decide_eq_true (show d < (callsS rs).length from hd), Bool.true_and]
  generalize (callsS rs).getD c dC = x at *
  generalize (callsS rs).getD d dC = y at *
  have hu := hr.get i1
  have hv2 := hr.get j1
  have hu12 := hu.2.2.2.1
  have hv12 := hv2.2.2.1
  have hvp := hv2.1.pos
  have m0 := (hM.2 y.1 j1).2.2.1 0 hvp
  rw [Nat.add_zero] at m0
  obtain ⟨m, hm⟩ := wfb_drop _ 1 x.2 hu.2.1.1 i2
  have hm2 := wf_in (i := x.2) (a := 0) (m := m) (by rw [Nat.zero_add, Nat.add_comm]; exact hm)
  have hl2 := wf_in2 (l := (rs.getD y.1 dRu).1) (i := 0) (a := 0) (by rw [List.drop_zero]; exact hv2.1.1)
  rw [mr0, lm1, if_pos (inb_nI (by omega) (by omega)), if_pos (inb_nI (by omega) (by omega)), nI_clamp (show 15 + 26 * x.1 + x.2 < 2 ^ 31 by omega), nI_clamp (show 3 + 26 * y.1 < 2 ^ 31 by omega), (hM.2 x.1 i1).2.2.2 x.2 i2, m0, leftLong_ok lm1 (by omega), bd1_s, (hM.2 y.1 j1).1, nI_1, nI_1, nI_add]
  unfold mfS
  by_cases he : (rs.getD x.1 dRu).2.getD x.2 0 = (rs.getD y.1 dRu).1.getD 0 0
  · rw [if_pos he, decide_eq_true he, Bool.true_and]
    have hz := hl2.2.1
    rw [Nat.zero_add, ← he] at hz
    rw [Nat.zero_add] at hm2
    rw [show 15 + 26 * x.1 + x.2 + 1 = 15 + 26 * x.1 + (x.2 + 1) by omega, mfM_L hr hM i1 j1 (rs.getD y.1 dRu).1.length FU (x.2 + 1) 1 (wn ((rs.getD x.1 dRu).2.getD x.2 0)) m (by omega) (by rw [FU_eq]; omega) (by omega) hz hm2]
    cases mfF (hv rs) (rs.getD x.1 dRu).2 (rs.getD y.1 dRu).1 (rs.getD y.1 dRu).1.length (x.2 + 1) 1 with
    | true => rfl
    | false => rfl
  · rw [if_neg he, decide_eq_false he, Bool.false_and]
    rfl
/-- a matrix of truths, as the model keeps it -/
def MxM (I : mI) (a n : Nat) (M : Mx) : Prop := ∀ c d, c < n → d < n → I a (60 * c + d) = bi (M c d)
theorem m60 (c d : Nat) : (60 : Int32) * nI c + nI d = nI (60 * c + d) := by
  rw [show (60 : Int32) = nI 60 from rfl, pk_mul, nI_add]
theorem lm60 {c d n : Nat} (hn : n ≤ 60) (hc : c < n) (hd : d < n) : inb (nI (60 * c + d)) 3600 = true := inb_nI (by omega) (by omega)
def FrMx (I' I : mI) : Prop := ∀ a, a ≠ 14 → a ≠ 15 → I' a = I a
theorem CkM.cong {I I' : mI} {cs : List (Nat × Nat)} (h : CkM I cs) (h0 : I' 0 = I 0) (h1 : I' 12 = I 12) (h2 : I' 13 = I 13) : CkM I' cs := by
  unfold CkM
  rw [h0, h1, h2]
  exact h
theorem pm_L {rs : List Ru} (hr : RsOK rs) {c : Nat} (hc : c < nCl rs) :
    ∀ (q n d : Nat) (I : mI), nCl rs - d = q → q < n → d ≤ nCl rs → RsM (I 1) rs → CkM I (callsS rs) → (∀ x, x < d → I 14 (60 * c + x) = bi (foS rs c x) ∧ I 15 (60 * c + x) = bi (foS rs c x)) →
      ∃ I', f_X11_laysCalls_L108 n 0 (nI c) (nI d) I R1M = some I' ∧ (∀ x, x < nCl rs → I' 14 (60 * c + x) = bi (foS rs c x) ∧ I' 15 (60 * c + x) = bi (foS rs c x)) ∧ FrMx I' I ∧ ∀ j, (j < 60 * c ∨ 60 * c + nCl rs ≤ j) → I' 14 j = I 14 j ∧ I' 15 j = I 15 j := by
  have h60 : nCl rs ≤ 60 := callsS_len hr
  intro q
  induction q with
  | zero =>
    intro n d I g1 g2 g3 g4 g5 g6
    obtain ⟨n, rfl⟩ : ∃ x, n = x + 1 := ⟨n - 1, by omega⟩
    refine ⟨I, ?_, fun x hx => g6 x (by omega), fun _ _ _ => rfl, fun _ _ => ⟨rfl, rfl⟩⟩
    rw [f_X11_laysCalls_L108, g5.1, if_pos (nI_le (show (callsS rs).length ≤ d from by show nCl rs ≤ d; omega) (by omega))]
  | succ q ih =>
    intro n d I g1 g2 g3 g4 g5 g6
    obtain ⟨n, rfl⟩ : ∃ x, n = x + 1 := ⟨n - 1, by omega⟩
    have hd : d < nCl rs := by omega
    have g51 : I 0 18 = nI (nCl rs) := g5.1
    rw [f_X11_laysCalls_L108]
    simp only [bnd]
    rw [g51, if_neg (nI_ge hd (by omega)), mfM_ok hr g4 g5 hc hd, bd1_s, m60, mr19, mr20, lm14, lm15, if_pos (lm60 h60 hc hd), if_pos (lm60 h60 hc hd), nI_clamp (show 60 * c + d < 2 ^ 31 by omega), u2_e, bi_nar, bi_nar, nI_1 d]
    generalize hJ : u2 (u2 I 14 (60 * c + d) (bi (foS rs c d))) 15 (60 * c + d) (bi (foS rs c d)) = J
    have FJ : FrMx J I := fun a x y => by rw [← hJ, u2_n _ _ _ y, u2_n _ _ _ x]
    have J14 : J 14 = u2 I 14 (60 * c + d) (bi (foS rs c d)) 14 := by rw [← hJ, u2_n _ _ _ (by decide)]
    have J15 : ∀ j, j ≠ 60 * c + d → J 15 j = I 15 j := fun j hj => by rw [← hJ, u2_o _ _ _ hj, u2_n _ _ _ (by decide)]
    obtain ⟨I', e1, e2, e3, e4⟩ := ih n (d + 1) J (by omega) (by omega) (by omega) (by rw [FJ 1 (by decide) (by decide)]; exact g4) (g5.cong (FJ 0 (by decide) (by decide)) (FJ 12 (by decide) (by decide)) (FJ 13 (by decide) (by decide))) (fun x hx => by
      by_cases he : x = d
      · rw [he]
        exact ⟨by rw [J14, u2_e], by rw [← hJ, u2_e]⟩
      · rw [J14, u2_o _ _ _ (by omega), J15 _ (by omega)]
        exact g6 x (by omega))
    refine ⟨I', e1, e2, fun a x y => by rw [e3 a x y, FJ a x y], fun j hj => ?_⟩
    obtain ⟨k1, k2⟩ := e4 j hj
    rw [k1, k2, J14, u2_o _ _ _ (by omega), J15 _ (by omega)]
    exact ⟨rfl, rfl⟩
theorem pn_L {rs : List Ru} (hr : RsOK rs) :
    ∀ (q n c : Nat) (I : mI), nCl rs - c = q → q < n → c ≤ nCl rs → RsM (I 1) rs → CkM I (callsS rs) → (∀ y x, y < c → x < nCl rs → I 14 (60 * y + x) = bi (foS rs y x) ∧ I 15 (60 * y + x) = bi (foS rs y x)) →
      ∃ I', f_X11_laysCalls_L98 n 0 (nI c) I R1M = some I' ∧ MxM I' 14 (nCl rs) (foS rs) ∧ MxM I' 15 (nCl rs) (foS rs) ∧ FrMx I' I := by
  have h60 : nCl rs ≤ 60 := callsS_len hr
  intro q
  induction q with
  | zero =>
    intro n c I g1 g2 g3 g4 g5 g6
    obtain ⟨n, rfl⟩ : ∃ x, n = x + 1 := ⟨n - 1, by omega⟩
    refine ⟨I, ?_, fun y x hy hx => (g6 y x (by omega) hx).1, fun y x hy hx => (g6 y x (by omega) hx).2, fun _ _ _ => rfl⟩
    rw [f_X11_laysCalls_L98, g5.1, if_pos (nI_le (show (callsS rs).length ≤ c from by show nCl rs ≤ c; omega) (by omega))]
  | succ q ih =>
    intro n c I g1 g2 g3 g4 g5 g6
    obtain ⟨n, rfl⟩ : ∃ x, n = x + 1 := ⟨n - 1, by omega⟩
    have hc : c < nCl rs := by omega
    have g51 : I 0 18 = nI (nCl rs) := g5.1
    obtain ⟨I1, e1, e2, e3, e4⟩ := pm_L hr hc (nCl rs) FU 0 I (by omega) (by rw [FU_eq]; omega) (by omega) g4 g5 (fun x hx => by omega)
    rw [nI0] at e1
    rw [f_X11_laysCalls_L98, g51, if_neg (nI_ge hc (by omega)), e1, bd1_s, nI_1 c]
    obtain ⟨I2, f1, f2, f3, f4⟩ := ih n (c + 1) I1 (by omega) (by omega) (by omega) (by rw [e3 1 (by decide) (by decide)]; exact g4) (g5.cong (e3 0 (by decide) (by decide)) (e3 12 (by decide) (by decide)) (e3 13 (by decide) (by decide))) (fun y x hy hx => by
      by_cases he : y = c
      · rw [he]; exact e2 x hx
      · obtain ⟨k1, k2⟩ := e4 (60 * y + x) (by omega)
        rw [k1, k2]
        exact g6 y x (by omega) hx)
    exact ⟨I2, f1, f2, f3, fun a x y => by rw [f4 a x y, e3 a x y]⟩
