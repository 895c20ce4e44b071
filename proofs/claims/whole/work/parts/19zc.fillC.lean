/-! ===== what weights have to meet: what is meant, and the class ===== -/
def cqF (rs : List Ru) (x : Int32) (r : Nat) : Nat → Nat → List Rq
  | 0, _ => []
  | z + 1, c => if ((callsS rs).getD c dC).1 = r ∧ (rgS rs).1 c = x then (rs.getD r dRu, ((callsS rs).getD c dC).2, 1) :: cqF rs x r z (c + 1) else cqF rs x r z (c + 1)
theorem cqF_s (rs : List Ru) (x : Int32) (r z c : Nat) : cqF rs x r (z + 1) c = if ((callsS rs).getD c dC).1 = r ∧ (rgS rs).1 c = x then (rs.getD r dRu, ((callsS rs).getD c dC).2, 1) :: cqF rs x r z (c + 1) else cqF rs x r z (c + 1) := rfl
def rqA (rs : List Ru) (x : Int32) : Nat → Nat → List Rq
  | 0, _ => []
  | z + 1, r => (if x = -1 then [(rs.getD r dRu, 0, 1)] else (rs.getD r dRu, 0, 0) :: cqF rs x r (nCl rs) 0) ++ rqA rs x z (r + 1)
theorem rqA_s (rs : List Ru) (x : Int32) (z r : Nat) : rqA rs x (z + 1) r = (if x = -1 then [(rs.getD r dRu, 0, 1)] else (rs.getD r dRu, 0, 0) :: cqF rs x r (nCl rs) 0) ++ rqA rs x z (r + 1) := rfl
def rqS (rs : List Ru) (x : Int32) : List Rq := rqA rs x rs.length 0
theorem cqF_ct (rs : List Ru) (x : Int32) (r : Nat) : ∀ (z c : Nat), c + z ≤ nCl rs → (cqF rs x r z c).length ≤ fb_ct (fun i => ofP (callsS rs) r (c + i)) z
  | 0, c, _ => Nat.zero_le _
  | z + 1, c, h => by
    have ih := cqF_ct rs x r z (c + 1) (by omega)
    have e : fb_ct (fun i => ofP (callsS rs) r (c + i)) (z + 1) = fb_ct (fun i => ofP (callsS rs) r (c + i)) 1 + fb_ct (fun i => ofP (callsS rs) r (c + 1 + i)) z := by
      rw [show z + 1 = 1 + z by omega, fb_ct_split]
      congr 1
      apply fb_ct_cong
      intro k _
      show ofP (callsS rs) r (c + (1 + k)) = ofP (callsS rs) r (c + 1 + k)
      rw [show c + (1 + k) = c + 1 + k by omega]
    rw [e, cqF_s]
    by_cases hc : ((callsS rs).getD c dC).1 = r ∧ (rgS rs).1 c = x
    · rw [if_pos hc, List.length_cons]
      have h1 : fb_ct (fun i => ofP (callsS rs) r (c + i)) 1 = 1 := by
        rw [fb_ct_succ]
        show 0 + (if ofP (callsS rs) r (c + 0) then 1 else 0) = 1
        rw [Nat.add_zero, if_pos (show ofP (callsS rs) r c = true from decide_eq_true ⟨by show c < nCl rs; omega, hc.1⟩)]
      omega
    · rw [if_neg hc]
      omega
theorem cqF_12 {rs : List Ru} (hr : RsOK rs) {x : Int32} {r : Nat} (hk : r < rs.length) : (cqF rs x r (nCl rs) 0).length ≤ 12 := by
  have h60 : nCl rs ≤ 60 := callsS_len hr
  have h1 := cqF_ct rs x r (nCl rs) 0 (by omega)
  have h2 : fb_ct (fun i => ofP (callsS rs) r (0 + i)) (nCl rs) = fb_ct (ofP (callsS rs) r) (nCl rs) := fb_ct_cong (fun i _ => by rw [Nat.zero_add])
  have h3 : fb_ct (ofP (callsS rs) r) (nCl rs) ≤ fb_ct (ofP (callsS rs) r) 64 := fb_ct_mono _ (by omega)
  rw [ofP_ct hr hk] at h3
  have h4 := csF_len (hv rs) r (rs.getD r dRu).2 0
  have h5 := (hr.get hk).2.2.2.1
  omega
theorem rqA_len {rs : List Ru} (hr : RsOK rs) (x : Int32) : ∀ (z r : Nat), r + z ≤ rs.length → (rqA rs x z r).length ≤ 13 * z
  | 0, r, _ => Nat.le_refl _
  | z + 1, r, h => by
    have ih := rqA_len hr x z (r + 1) (by omega)
    have h12 := cqF_12 hr (x := x) (r := r) (by omega)
    rw [rqA_s, List.length_append]
    split
    · rw [List.length_singleton]; omega
    · rw [List.length_cons]; omega
theorem cqF_mem {rs : List Ru} {x : Int32} {r : Nat} (hr : RsOK rs) (hk : r < rs.length) : ∀ (z c : Nat), c + z ≤ nCl rs → ∀ q ∈ cqF rs x r z c, RqOK q
  | 0, c, _, q, hq => by cases hq
  | z + 1, c, h, q, hq => by
    rw [cqF_s] at hq
    by_cases hc : ((callsS rs).getD c dC).1 = r ∧ (rgS rs).1 c = x
    · rw [if_pos hc] at hq
      rcases List.mem_cons.mp hq with e | e
      · rw [e]
        obtain ⟨i1, i2⟩ := callsS_in (rs := rs) (c := c) (by show c < nCl rs; omega)
        rw [hc.1] at i2
        exact ⟨hr.get hk, i2, Nat.le_refl _⟩
      · exact cqF_mem hr hk z (c + 1) (by omega) q e
    · rw [if_neg hc] at hq
      exact cqF_mem hr hk z (c + 1) (by omega) q hq
theorem rqA_mem {rs : List Ru} {x : Int32} (hr : RsOK rs) : ∀ (z r : Nat), r + z ≤ rs.length → ∀ q ∈ rqA rs x z r, RqOK q
  | 0, r, _, q, hq => by cases hq
  | z + 1, r, h, q, hq => by
    have hu := hr.get (r := r) (by omega)
    rw [rqA_s] at hq
    rcases List.mem_append.mp hq with e | e
    · by_cases hx : x = -1
      · rw [if_pos hx, List.mem_singleton] at e
        rw [e]
        exact ⟨hu, hu.2.1.pos, Nat.le_refl _⟩
      · rw [if_neg hx] at e
        rcases List.mem_cons.mp e with e | e
        · rw [e]
          exact ⟨hu, hu.2.1.pos, Nat.zero_le _⟩
        · exact cqF_mem hr (by omega) _ 0 (by omega) q e
    · exact rqA_mem hr z (r + 1) (by omega) q e
theorem rqS_ok {rs : List Ru} (hr : RsOK rs) (x : Int32) : RqsOK (rqS rs x) := by
  have h := rqA_len hr x rs.length 0 (by omega)
  have h5 := hr.1
  refine ⟨by unfold rqS; omega, fun i hi => ?_⟩
  exact rqA_mem hr rs.length 0 (by omega) _ (gD_mem dRq hi)
