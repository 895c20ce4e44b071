/-! ===== what may follow: what is meant, and the class ===== -/
def isU (c : Int32) : Bool := decide (c = 120 ∨ c = 121)
def mfF (h : Int32) (rt lf : List Int32) : Nat → Nat → Nat → Bool
  | 0, _, _ => true
  | f + 1, p, q => if q < lf.length then (if (isU (lf.getD q 0) || (isU (rt.getD p 0) || hb h (rt.getD p 0))) = true then mfF h rt lf f (ep rt p) (ep lf q) else if rt.getD p 0 = lf.getD q 0 then mfF h rt lf f (p + 1) (q + 1) else false) else true
theorem mfF_s (h : Int32) (rt lf : List Int32) (f p q : Nat) : mfF h rt lf (f + 1) p q = if q < lf.length then (if (isU (lf.getD q 0) || (isU (rt.getD p 0) || hb h (rt.getD p 0))) = true then mfF h rt lf f (ep rt p) (ep lf q) else if rt.getD p 0 = lf.getD q 0 then mfF h rt lf f (p + 1) (q + 1) else false) else true := rfl
def mfS (h : Int32) (rt : List Int32) (p : Nat) (lf : List Int32) : Bool := decide (rt.getD p 0 = lf.getD 0 0) && mfF h rt lf lf.length (p + 1) 1
theorem wf_in2 {l : List Int32} {i a : Nat} (h : wfb (a + 1) (l.drop i) = true) : i < l.length ∧ wfb (a + wn (l.getD i 0)) (l.drop (i + 1)) = true ∧ wfb a (l.drop (ep l i)) = true := by
  have h1 := wf_next (a := a) (m := 0) (by rw [Nat.add_zero]; exact h)
  have h2 := wf_in (a := a) (m := 0) (by rw [Nat.add_zero]; exact h)
  exact ⟨h1.1, h2, h1.2⟩
theorem isU_if (c : Int32) : (if c = 120 ∨ c = 121 then (1 : Int32) else 0) = if isU c = true then 1 else 0 := by
  unfold isU
  by_cases h : c = 120 ∨ c = 121
  · rw [if_pos h, if_pos (decide_eq_true h)]
  · rw [if_neg h, if_neg (fun q => h (of_decide_eq_true q))]
theorem ctC_L {R : mR} {tr tl e : Nat} {h : Int32} {rt lf : List Int32} (hr : TO R tr 12) (hl : TO R tl 12) (hrl : rt.length ≤ 12) (hll : lf.length ≤ 12) (hrv : VLs rt) {I : mI} (h1 : TmC I tr rt) (h2 : TmC I tl lf) (h3 : I 248 7 = h) :
    ∀ (f n st p q a m : Nat), lf.length - q < f → f < n → st + 1 ≤ q → q ≤ lf.length → wfb a (lf.drop q) = true → wfb (a + m) (rt.drop p) = true → p + pl a (rt.drop p) = e → f_X0_comesTo_L36 n 248 tr tl (nI e) (nI p) (nI q) (nI st) I R = some (if mfF h rt lf f p q = true then Sum.inr () else Sum.inl 0) := by
  obtain ⟨r0, r1, r2, r3, r4⟩ := hr
  obtain ⟨l0, l1, l2, l3, l4⟩ := hl
  intro f
  induction f with
  | zero => intro n st p q a m g1; omega
  | succ f ih =>
    intro n st p q a m g1 g2 g3 g4 g5 g6 g7
    obtain ⟨n, rfl⟩ : ∃ x, n = x + 1 := ⟨n - 1, by omega⟩
    rw [f_X0_comesTo_L36, mfF_s]
    simp only [bnd]
    by_cases hq : q < lf.length
    · cases a with
      | zero =>
        rw [drop_c hq] at g5
        cases g5
      | succ a =>
        obtain ⟨w1, w2, w3⟩ := wf_in2 g5
        have g6' : wfb (a + 1 + m) (rt.drop p) = true := g6
        obtain ⟨v1, v3⟩ := wf_next g6'
        have v2 := wf_in g6'
        have hpe : p < e := by rw [← g7, drop_c v1, pl_cons]; omega
        have hple := pl_le (rt.drop p) (a + 1)
        rw [List.length_drop] at hple
        rw [if_pos hq, show (12 : Int32) = nI 12 from rfl, if_neg (nI_ge (by omega) (by omega)), if_neg (nI_ge hpe (by omega)), h2.1, if_neg (nI_ge hq (by omega)), r0, r2, l0, l2, if_pos (inb_nI (by omega) (by omega)), if_pos (inb_nI (by omega) (by omega)), nI_clamp (show p < 2 ^ 31 by omega), nI_clamp (show q < 2 ^ 31 by omega), h1.2.1 p v1, h2.2.1 q hq, iU, bd1_s, iU, bd1_s, isHdC h3 (VLs_get hrv v1), bd1_s, isU_if, isU_if, r1, r3, l1, l3, if_pos (inb_nI (by omega) (by omega)), if_pos (inb_nI (by omega) (by omega)), h1.2.2 p v1, h2.2.2 q hq, nI_1 p, nI_1 q, nI_1 st]
        have skip : f_X0_comesTo_L36 n 248 tr tl (nI e) (nI (ep rt p)) (nI (ep lf q)) (nI (st + 1)) I R = some (if mfF h rt lf f (ep rt p) (ep lf q) = true then Sum.inr () else Sum.inl 0) := by
          have e1 := ep_gt hq
          have e2 := ep_le (l := lf) (k := q) (by omega)
          exact ih n (st + 1) (ep rt p) (ep lf q) a m (by omega) (by omega) (by omega) e2 w3 v3 (by rw [← pl_ep]; exact g7)
        cases hu1 : isU (lf.getD q 0) with
        | true =>
          rw [if_pos rfl, if_neg n10, if_pos (show (true || (isU (rt.getD p 0) || hb h (rt.getD p 0))) = true from rfl), skip]
        | false =>
          rw [if_neg (show ¬ false = true by decide), if_pos rfl]
          cases hu2 : isU (rt.getD p 0) with
          | true =>
            rw [if_pos rfl, if_neg n10, if_pos (show (false || (true || hb h (rt.getD p 0))) = true from rfl), skip]
          | false =>
            rw [if_neg (show ¬ false = true by decide), if_pos rfl]
            cases hu3 : hb h (rt.getD p 0) with
            | true =>
              rw [if_pos rfl, if_neg n10, if_pos (show (false || (false || true)) = true from rfl), skip]
            | false =>
              rw [if_neg (show ¬ false = true by decide), if_pos rfl, if_neg (show ¬ (false || (false || false)) = true by decide)]
              by_cases he : rt.getD p 0 = lf.getD q 0
              · rw [if_pos he, if_pos he]
                rw [← he] at w2
                refine ih n (st + 1) (p + 1) (q + 1) (a + wn (rt.getD p 0)) m (by omega) (by omega) (by omega) (by omega) w2 v2 ?_
                rw [drop_c v1, pl_cons] at g7
                omega
              · rw [if_neg he, if_neg he]
                rfl
    · rw [if_neg hq, if_pos rfl]
      by_cases c1 : (12 : Int32) ≤ nI st
      · rw [if_pos c1]
      · rw [if_neg c1]
        by_cases c2 : nI e ≤ nI p
        · rw [if_pos c2]
        · rw [if_neg c2, h2.1, if_pos (nI_le (by omega) (by omega))]
theorem ctC_ok {R : mR} {tr tl p : Nat} {h : Int32} {rt lf : List Int32} (hr : TO R tr 12) (hl : TO R tl 12) (hrl : rt.length ≤ 12) (hll : lf.length ≤ 12) (hrt : Tm rt) (hlf : Tm lf) {I : mI} (h1 : TmC I tr rt) (h2 : TmC I tl lf) (h3 : I 248 7 = h) (hp : p < rt.length) :
    f_X0_comesTo 248 tr (nI p) tl I R = some (if mfS h rt p lf = true then 1 else 0) := by
  have hlp := hlf.pos
  obtain ⟨m, hm⟩ := wfb_drop rt 1 p hrt.1 hp
  have hm2 := wf_in (l := rt) (i := p) (a := 0) (m := m) (by rw [Nat.zero_add, Nat.add_comm]; exact hm)
  have hl2 := wf_in2 (l := lf) (i := 0) (a := 0) (by rw [List.drop_zero]; exact hlf.1)
  have he := ep_le (l := rt) (k := p) (by omega)
  unfold f_X0_comesTo mfS
  rw [hr.1, hr.2.2.1, hl.1, hl.2.2.1, if_pos (inb_nI (by omega) (by omega)), if_pos (show inb 0 12 = true from rfl), i0, nI_clamp (by omega), h1.2.1 p hp, h2.2.1 0 hlp]
  by_cases hc : rt.getD p 0 = lf.getD 0 0
  · rw [if_pos hc, hr.2.1, hr.2.2.2.1, if_pos (inb_nI (by omega) (by omega)), h1.2.2 p hp, nI_1, decide_eq_true hc, Bool.true_and]
    have hz := hl2.2.1
    rw [Nat.zero_add, ← hc] at hz
    rw [Nat.zero_add] at hm2
    rw [show (1 : Int32) = nI 1 from rfl, show (0 : Int32) = nI 0 from rfl, ctC_L hr hl hrl hll hrt.2 h1 h2 h3 lf.length FU 0 (p + 1) 1 (wn (rt.getD p 0)) m (by omega) (by rw [FU_eq]; omega) (by omega) (by omega) hz hm2 (by rw [ep_c hp])]
    cases mfF h rt lf lf.length (p + 1) 1 with
    | true => rfl
    | false => rfl
  · rw [if_neg hc, decide_eq_false hc, Bool.false_and]
    rfl
/-- whether a call may follow on another -/
def foS (rs : List Ru) (c d : Nat) : Bool := decide (d < (callsS rs).length) && mfS (hv rs) (rs.getD ((callsS rs).getD c dC).1 dRu).2 ((callsS rs).getD c dC).2 (rs.getD ((callsS rs).getD d dC).1 dRu).1
def foK (rs : List Ru) (c k d : Nat) : Bool := foS rs c d && decide (((callsS rs).getD d dC).1 < k)
theorem foK_s {rs : List Ru} {c k d : Nat} : foK rs c (k + 1) d = (foK rs c k d || (mfS (hv rs) (rs.getD ((callsS rs).getD c dC).1 dRu).2 ((callsS rs).getD c dC).2 (rs.getD k dRu).1 && ofP (callsS rs) k d)) := by
  unfold foK foS ofP
  by_cases h1 : d < (callsS rs).length
  · rw [decide_eq_true h1, Bool.true_and]
    by_cases h2 : ((callsS rs).getD d dC).1 = k
    · rw [h2, decide_eq_true (show k < k + 1 by omega), decide_eq_false (show ¬ k < k by omega), decide_eq_true ⟨h1, rfl⟩]
      simp
    · rw [decide_eq_false (show ¬ (d < (callsS rs).length ∧ ((callsS rs).getD d dC).1 = k) from fun q => h2 q.2), Bool.and_false, Bool.or_false]
      congr 1
      by_cases h3 : ((callsS rs).getD d dC).1 < k
      · rw [decide_eq_true h3, decide_eq_true (by omega)]
      · rw [decide_eq_false h3, decide_eq_false (by omega)]
  · rw [decide_eq_false h1, decide_eq_false (show ¬ (d < (callsS rs).length ∧ ((callsS rs).getD d dC).1 = k) from fun q => h1 q.1)]
    simp
theorem foK_all {rs : List Ru} {c d : Nat} : foK rs c rs.length d = foS rs c d := by
  unfold foK
  by_cases h : d < (callsS rs).length
  · rw [decide_eq_true (callsS_in h).1, Bool.and_true]
  · unfold foS
    rw [decide_eq_false h, Bool.false_and, Bool.false_and]
theorem flC_L {R : mR} {rs : List Ru} {c : Nat} (hR : RO R) (hr : RsOK rs) (hc : c < (callsS rs).length) {I : mI} {L : mL} (h4 : NoC I R rs) (h5 : I 248 7 = hv rs) (h6 : CkC I (callsS rs)) (h7 : ∀ r', r' < rs.length → BS (L 254 r') (ofP (callsS rs) r')) :
    ∀ (q n r : Nat) (x : Int64), rs.length - r = q → q < n → r ≤ rs.length → BS x (foK rs c r) → ∃ y, f_X0_followersOf_L21 n 248 1 (nI c) (R (R 2 ((callsS rs).getD c dC).1) 1) x (nI r) I L R = some y ∧ BS y (foS rs c) := by
  obtain ⟨s0, s1, s2, s3, s5, s6⟩ := hR.now
  have hr5 := hr.1
  have h60 := callsS_len hr
  obtain ⟨b0, b1, b2, b3, b4, b5, b6⟩ := hR.bk
  obtain ⟨i1, i2⟩ := callsS_in hc
  obtain ⟨u1, -, -⟩ := s5 _ (show ((callsS rs).getD c dC).1 < 5 by omega)
  have hu := hr.get i1
  intro q
  induction q with
  | zero =>
    intro n r x g1 g2 g3 g4
    obtain ⟨n, rfl⟩ : ∃ x, n = x + 1 := ⟨n - 1, by omega⟩
    refine ⟨x, ?_, ?_⟩
    · rw [f_X0_followersOf_L21, h4.1, if_pos (nI_le (by omega) (by omega))]
    · rw [show r = rs.length by omega] at g4
      exact g4.cong (fun i _ => foK_all)
  | succ q ih =>
    intro n r x g1 g2 g3 g4
    obtain ⟨n, rfl⟩ : ∃ x, n = x + 1 := ⟨n - 1, by omega⟩
    have hk : r < rs.length := by omega
    obtain ⟨v1, -, -⟩ := s5 r (by omega)
    have hv2 := hr.get hk
    have hct := ctC_ok (p := ((callsS rs).getD c dC).2) u1.2.2.2.1 v1.2.2.1 hu.2.2.2.1 hv2.2.2.1 hu.2.1 hv2.1 (h4.2 _ i1).2 (h4.2 r hk).1 h5 i2
    rw [f_X0_followersOf_L21]
    simp only [bnd]
    rw [h4.1, if_neg (nI_ge (by omega) (by omega)), b1, lc250, if_pos (inb_nI (by omega) (by omega)), nI_clamp (show c < 2 ^ 31 by omega), (h6.2 c hc).2, s0, s2, if_pos (inb_nI (by omega) (by omega)), nI_clamp (show r < 2 ^ 31 by omega), u1.2.1, v1.1, hct, bd1_s, nI_1 r, b5, lc254]
    cases hm : mfS (hv rs) (rs.getD ((callsS rs).getD c dC).1 dRu).2 ((callsS rs).getD c dC).2 (rs.getD r dRu).1 with
    | true =>
      rw [if_pos rfl, if_neg n10, if_pos (inb_nI (by omega) (by omega))]
      rw [u1.2.1] at ih
      exact ih n (r + 1) _ (by omega) (by omega) (by omega) ((BS_or g4 (h7 r hk)).cong (fun i _ => by rw [foK_s, hm, Bool.true_and]))
    | false =>
      rw [if_neg (show ¬ false = true by decide), if_pos rfl]
      rw [u1.2.1] at ih
      exact ih n (r + 1) _ (by omega) (by omega) (by omega) (g4.cong (fun i _ => by rw [foK_s, hm, Bool.false_and, Bool.or_false]))
theorem flC_ok {R : mR} {rs : List Ru} {c : Nat} (hR : RO R) (hr : RsOK rs) (hc : c < (callsS rs).length) {I : mI} {L : mL} (h4 : NoC I R rs) (h5 : I 248 7 = hv rs) (h6 : CkC I (callsS rs)) (h7 : ∀ r', r' < rs.length → BS (L 254 r') (ofP (callsS rs) r')) :
    ∃ y, f_X0_followersOf 248 1 (nI c) I L R = some y ∧ BS y (foS rs c) := by
  obtain ⟨s0, s1, s2, s3, s5, s6⟩ := hR.now
  have hr5 := hr.1
  have h60 := callsS_len hr
  obtain ⟨b0, b1, b2, b3, b4, b5, b6⟩ := hR.bk
  obtain ⟨i1, i2⟩ := callsS_in hc
  obtain ⟨y, e1, e2⟩ := flC_L hR hr hc h4 h5 h6 h7 rs.length FU 0 0 (by omega) (by rw [FU_eq]; omega) (by omega) (BS_0.cong (fun i _ => by unfold foK; rw [decide_eq_false (by omega), Bool.and_false]))
  refine ⟨y, ?_, e2⟩
  unfold f_X0_followersOf
  rw [nI0] at e1
  rw [b0, lc249, if_pos (inb_nI (by omega) (by omega)), nI_clamp (show c < 2 ^ 31 by omega), (h6.2 c hc).1, s0, s2, if_pos (inb_nI (by omega) (by omega)), nI_clamp (by omega), e1]
  rfl
