/-! ===== the least weights: the model weighs rules and calls ===== -/
theorem crM_ok {rs : List Ru} {r : Nat} {F : Nat → Nat} {I : mI} {L : mL} (hr : RsOK rs) (hM : RsM (I 1) rs) (hk : r < rs.length) (hF : ∀ i, i < 7 → F i ≤ 9) (hf : ∀ i, i < 7 → I 8 i = nI (F i)) :
    ∃ L', f_X11_comparesRule 0 (nI r) I L R1M = some (cmpS (vA F (rs.getD r dRu).1 0) (vA F (rs.getD r dRu).2 0), L') ∧ FrLw L' L := by
  have hr5 := hr.1
  obtain ⟨m1, m2, m3, m4⟩ := hM.2 r hk
  obtain ⟨u1, u2', u3, u4, _⟩ := hr.get hk
  generalize rs.getD r dRu = u at *
  obtain ⟨L', e1, e2⟩ := cpM_ok (L := L) (o1 := 3 + 26 * r) (o2 := 15 + 26 * r) (s1 := u.1) (s2 := u.2) (F := F) (by omega) (by omega) u3 u4 m3 m4 hF hf u1.1 u2'.1
  refine ⟨L', ?_, e2⟩
  unfold f_X11_comparesRule
  rw [leftOf_ok, bd1_s, mr0, leftLong_ok lm1 (by omega), bd1_s, rightOf_ok, bd1_s, rightLong_ok lm1 (by omega), bd1_s, m1, m2, e1, bd2_s, vA_0, vA_0]
theorem ccM_ok {rs : List Ru} {r p : Nat} {F : Nat → Nat} {I : mI} {L : mL} (hr : RsOK rs) (hM : RsM (I 1) rs) (hk : r < rs.length) (hp : p < (rs.getD r dRu).2.length) (hF : ∀ i, i < 7 → F i ≤ 9) (hf : ∀ i, i < 7 → I 8 i = nI (F i)) :
    ∃ L', f_X11_compares 0 (nI (3 + 26 * r)) (nI (rs.getD r dRu).1.length) (nI (15 + 26 * r + p)) (nI (ep (rs.getD r dRu).2 p - p)) I L R1M = some (cmpS (vA F (rs.getD r dRu).1 0) (vA F (rs.getD r dRu).2 p), L') ∧ FrLw L' L := by
  have hr5 := hr.1
  obtain ⟨m1, m2, m3, m4⟩ := hM.2 r hk
  obtain ⟨u1, u2', u3, u4, _⟩ := hr.get hk
  generalize rs.getD r dRu = u at *
  have hl := pt_len hp
  have he := ep_le (l := u.2) (k := p) (by omega)
  obtain ⟨L', e1, e2⟩ := cpM_ok (L := L) (o1 := 3 + 26 * r) (o2 := 15 + 26 * r + p) (s1 := u.1) (s2 := pt u.2 p) (F := F) (I := I) (by omega) (by omega) u3 (by omega) m3 (fun j hj => by
    rw [hl] at hj
    rw [pt_get hj, ← m4 (p + j) (by omega), Nat.add_assoc]) hF hf u1.1 (pt_wf u2'.1 hp)
  rw [hl, vA_pt u2'.1 hp, vA_0] at e1
  exact ⟨L', e1, e2⟩
/-- what a row asks, as a comparison -/
def rqOK (F : Nat → Nat) (q : Rq) : Prop := if q.2.2 = 1 then cmpS (vA F q.1.1 0) (vA F q.1.2 q.2.1) = 2 else ¬ cmpS (vA F q.1.1 0) (vA F q.1.2 q.2.1) = 0
theorem rq_iff {F : Nat → Nat} (hF : ∀ i, i < 7 → F i ≤ 3) {q : Rq} (hq : RqOK q) : (xyOK (F 4) (F 5) (F 6) q = true ∧ rowOK F (F 4) (F 5) (F 6) q = true) ↔ rqOK F q := by
  obtain ⟨u, p, w⟩ := q
  obtain ⟨⟨h1, h2, h3, h4, _⟩, h5, h6⟩ := hq
  have h5' : p < u.2.length := h5
  have h6' : w ≤ 1 := h6
  show (decide (cv (F 4) (F 5) (F 6) u.2 p 4 ≤ cv (F 4) (F 5) (F 6) u.1 0 4 ∧ cv (F 4) (F 5) (F 6) u.2 p 5 ≤ cv (F 4) (F 5) (F 6) u.1 0 5) = true ∧ decide (w + dotF F (cv (F 4) (F 5) (F 6) u.2 p) ≤ dotF F (cv (F 4) (F 5) (F 6) u.1 0)) = true) ↔ if w = 1 then cmpS (vA F u.1 0) (vA F u.2 p) = 2 else ¬ cmpS (vA F u.1 0) (vA F u.2 p) = 0
  rw [vA_cv hF h3 h1 h1.pos, vA_cv hF h4 h2 h5', decide_eq_true_iff, decide_eq_true_iff]
  unfold cmpS
  rw [phi_1, phi_1, show (phi F (cv (F 4) (F 5) (F 6) u.1 0)).2.1 = cv (F 4) (F 5) (F 6) u.1 0 4 from rfl, show (phi F (cv (F 4) (F 5) (F 6) u.1 0)).2.2 = cv (F 4) (F 5) (F 6) u.1 0 5 from rfl, show (phi F (cv (F 4) (F 5) (F 6) u.2 p)).2.1 = cv (F 4) (F 5) (F 6) u.2 p 4 from rfl, show (phi F (cv (F 4) (F 5) (F 6) u.2 p)).2.2 = cv (F 4) (F 5) (F 6) u.2 p 5 from rfl]
  generalize dotF F (cv (F 4) (F 5) (F 6) u.1 0) = X
  generalize dotF F (cv (F 4) (F 5) (F 6) u.2 p) = Y
  generalize cv (F 4) (F 5) (F 6) u.1 0 4 = a4
  generalize cv (F 4) (F 5) (F 6) u.1 0 5 = a5
  generalize cv (F 4) (F 5) (F 6) u.2 p 4 = b4
  generalize cv (F 4) (F 5) (F 6) u.2 p 5 = b5
  have n02 : ¬ (0 : Int32) = 2 := by decide
  have n12 : ¬ (1 : Int32) = 2 := by decide
  have n10 : ¬ (1 : Int32) = 0 := by decide
  have n20 : ¬ (2 : Int32) = 0 := by decide
  by_cases c1 : a4 < b4 ∨ a5 < b5
  · rw [if_pos c1]
    constructor
    · rintro ⟨⟨k1, k2⟩, k3⟩; omega
    · intro h
      by_cases hw : w = 1
      · rw [if_pos hw] at h; exact absurd h n02
      · rw [if_neg hw] at h; exact absurd rfl h
  · rw [if_neg c1]
    by_cases c2 : X < Y
    · rw [if_pos c2]
      constructor
      · rintro ⟨⟨k1, k2⟩, k3⟩; omega
      · intro h
        by_cases hw : w = 1
        · rw [if_pos hw] at h; exact absurd h n02
        · rw [if_neg hw] at h; exact absurd rfl h
    · rw [if_neg c2]
      by_cases c3 : X = Y
      · rw [if_pos c3]
        by_cases hw : w = 1
        · rw [if_pos hw]
          exact ⟨fun ⟨_, k3⟩ => by omega, fun h => absurd h n12⟩
        · rw [if_neg hw]
          exact ⟨fun _ => n10, fun _ => ⟨⟨by omega, by omega⟩, by omega⟩⟩
      · rw [if_neg c3]
        by_cases hw : w = 1
        · rw [if_pos hw]
          exact ⟨fun _ => rfl, fun _ => ⟨⟨by omega, by omega⟩, by omega⟩⟩
        · rw [if_neg hw]
          exact ⟨fun _ => n20, fun _ => ⟨⟨by omega, by omega⟩, by omega⟩⟩
theorem cqF_in {rs : List Ru} {x : Int32} {r : Nat} {q : Rq} : ∀ (z c : Nat), q ∈ cqF rs x r z c ↔ ∃ d, c ≤ d ∧ d < c + z ∧ ((callsS rs).getD d dC).1 = r ∧ (rgS rs).1 d = x ∧ q = (rs.getD r dRu, ((callsS rs).getD d dC).2, 1)
  | 0, c => ⟨(fun h => by cases h), fun ⟨d, h1, h2, _⟩ => by omega⟩
  | z + 1, c => by
    rw [cqF_s]
    have ih := cqF_in (rs := rs) (x := x) (r := r) (q := q) z (c + 1)
    by_cases hc : ((callsS rs).getD c dC).1 = r ∧ (rgS rs).1 c = x
    · rw [if_pos hc, List.mem_cons, ih]
      constructor
      · rintro (w | ⟨d, h1, h2, h3⟩)
        · exact ⟨c, Nat.le_refl _, by omega, hc.1, hc.2, w⟩
        · exact ⟨d, by omega, by omega, h3⟩
      · rintro ⟨d, h1, h2, h3, h4, h5⟩
        by_cases w : d = c
        · exact Or.inl (by rw [h5, w])
        · exact Or.inr ⟨d, by omega, by omega, h3, h4, h5⟩
    · rw [if_neg hc, ih]
      constructor
      · rintro ⟨d, h1, h2, h3⟩
        exact ⟨d, by omega, by omega, h3⟩
      · rintro ⟨d, h1, h2, h3, h4, h5⟩
        by_cases w : d = c
        · exact absurd ⟨by rw [← w]; exact h3, by rw [← w]; exact h4⟩ hc
        · exact ⟨d, by omega, by omega, h3, h4, h5⟩
theorem rqA_in {rs : List Ru} {x : Int32} {q : Rq} : ∀ (z r : Nat), q ∈ rqA rs x z r ↔ ∃ d, r ≤ d ∧ d < r + z ∧ ((x = -1 ∧ q = (rs.getD d dRu, 0, 1)) ∨ (¬ x = -1 ∧ (q = (rs.getD d dRu, 0, 0) ∨ q ∈ cqF rs x d (nCl rs) 0)))
  | 0, r => ⟨(fun h => by cases h), fun ⟨d, h1, h2, _⟩ => by omega⟩
  | z + 1, r => by
    have ih := rqA_in (rs := rs) (x := x) (q := q) z (r + 1)
    have key : q ∈ (if x = -1 then [(rs.getD r dRu, 0, 1)] else (rs.getD r dRu, 0, 0) :: cqF rs x r (nCl rs) 0) ↔ ((x = -1 ∧ q = (rs.getD r dRu, 0, 1)) ∨ (¬ x = -1 ∧ (q = (rs.getD r dRu, 0, 0) ∨ q ∈ cqF rs x r (nCl rs) 0))) := by
      by_cases hx : x = -1
      · rw [if_pos hx, List.mem_singleton]
        exact ⟨fun h => Or.inl ⟨hx, h⟩, fun h => h.elim (fun h => h.2) (fun h => absurd hx h.1)⟩
      · rw [if_neg hx, List.mem_cons]
        exact ⟨fun h => Or.inr ⟨hx, h⟩, fun h => h.elim (fun h => absurd h.1 hx) (fun h => h.2)⟩
    rw [rqA_s, List.mem_append, key, ih]
    constructor
    · rintro (w | ⟨d, h1, h2, h3⟩)
      · exact ⟨r, Nat.le_refl _, by omega, w⟩
      · exact ⟨d, by omega, by omega, h3⟩
    · rintro ⟨d, h1, h2, h3⟩
      by_cases w : d = r
      · rw [w] at h3; exact Or.inl h3
      · exact Or.inr ⟨d, by omega, by omega, h3⟩
/-- what the model asks of weights -/
def Sat (rs : List Ru) (x : Int32) (F : Nat → Nat) : Prop := (∀ r, r < rs.length → if x = -1 then cmpS (vA F (rs.getD r dRu).1 0) (vA F (rs.getD r dRu).2 0) = 2 else ¬ cmpS (vA F (rs.getD r dRu).1 0) (vA F (rs.getD r dRu).2 0) = 0) ∧ (¬ x = -1 → ∀ c, c < nCl rs → (rgS rs).1 c = x → cmpS (vA F (rs.getD ((callsS rs).getD c dC).1 dRu).1 0) (vA F (rs.getD ((callsS rs).getD c dC).1 dRu).2 ((callsS rs).getD c dC).2) = 2)
theorem rqS_get {rs : List Ru} (hr : RsOK rs) {x : Int32} {q : Rq} (h : q ∈ rqS rs x) : RqOK q := by
  have h1 := rqS_ok hr x
  obtain ⟨i, hi, e⟩ := List.getElem_of_mem h
  have h2 := h1.2 i hi
  rw [List.getD_eq_getElem?_getD, List.getElem?_eq_getElem hi] at h2
  rw [← e]
  exact h2
theorem ok_sat {rs : List Ru} (hr : RsOK rs) {x : Int32} {F : Nat → Nat} (hF : ∀ i, i < 7 → F i ≤ 3) : ((rqS rs x).all (xyOK (F 4) (F 5) (F 6)) = true ∧ (rqS rs x).all (rowOK F (F 4) (F 5) (F 6)) = true) ↔ Sat rs x F := by
  rw [List.all_eq_true, List.all_eq_true]
  have e : ((∀ q ∈ rqS rs x, xyOK (F 4) (F 5) (F 6) q = true) ∧ ∀ q ∈ rqS rs x, rowOK F (F 4) (F 5) (F 6) q = true) ↔ ∀ q ∈ rqS rs x, rqOK F q :=
    ⟨fun h q hq => (rq_iff hF (rqS_get hr hq)).mp ⟨h.1 q hq, h.2 q hq⟩, fun h => ⟨fun q hq => ((rq_iff hF (rqS_get hr hq)).mpr (h q hq)).1, fun q hq => ((rq_iff hF (rqS_get hr hq)).mpr (h q hq)).2⟩⟩
  rw [e]
  constructor
  · intro h
    refine ⟨fun r hk => ?_, fun hx c hc hg => ?_⟩
    · by_cases hx : x = -1
      · rw [if_pos hx]
        have := h (rs.getD r dRu, 0, 1) ((rqA_in rs.length 0).mpr ⟨r, Nat.zero_le _, by omega, Or.inl ⟨hx, rfl⟩⟩)
        unfold rqOK at this
        rw [if_pos rfl] at this
        exact this
      · rw [if_neg hx]
        have := h (rs.getD r dRu, 0, 0) ((rqA_in rs.length 0).mpr ⟨r, Nat.zero_le _, by omega, Or.inr ⟨hx, Or.inl rfl⟩⟩)
        unfold rqOK at this
        rw [if_neg (show ¬ (0 : Nat) = 1 by decide)] at this
        exact this
    · obtain ⟨i1, i2⟩ := callsS_in (rs := rs) (c := c) hc
      have := h (rs.getD ((callsS rs).getD c dC).1 dRu, ((callsS rs).getD c dC).2, 1) ((rqA_in rs.length 0).mpr ⟨((callsS rs).getD c dC).1, Nat.zero_le _, by omega, Or.inr ⟨hx, Or.inr ((cqF_in (nCl rs) 0).mpr ⟨c, Nat.zero_le _, by omega, rfl, hg, rfl⟩)⟩⟩)
      unfold rqOK at this
      rw [if_pos rfl] at this
      exact this
  · rintro ⟨h1, h2⟩ q hq
    obtain ⟨d, k1, k2, k3⟩ := (rqA_in rs.length 0).mp hq
    have h1' := h1 d (by omega)
    rcases k3 with ⟨hx, rfl⟩ | ⟨hx, (rfl | k3)⟩
    · rw [if_pos hx] at h1'
      unfold rqOK
      rw [if_pos rfl]
      exact h1'
    · rw [if_neg hx] at h1'
      unfold rqOK
      rw [if_neg (show ¬ (0 : Nat) = 1 by decide)]
      exact h1'
    · obtain ⟨c, j1, j2, j3, j4, rfl⟩ := (cqF_in (nCl rs) 0).mp k3
      have := h2 hx c (by omega) j4
      rw [j3] at this
      unfold rqOK
      rw [if_pos rfl]
      exact this
