/-! ===== turning: the class ===== -/
def QO (R : mR) (q : Nat) : Prop := R q 0 = q + 1 ∧ R q 1 = q + 4 ∧ TO R (q + 1) 12 ∧ TO R (q + 4) 12 ∧ q + 6 < 243
def RuC (I : mI) (q : Nat) (u : Ru) : Prop := TmC I (q + 1) u.1 ∧ TmC I (q + 4) u.2
def SO (R : mR) (st : Nat) : Prop := R st 0 = st + 1 ∧ R st 1 = st + 2 ∧ lnC (st + 1) = 5 ∧ TO R (st + 2) 60 ∧ st + 39 < 243 ∧ (∀ r, r < 5 → QO R (R (st + 1) r) ∧ st + 5 ≤ R (st + 1) r ∧ R (st + 1) r + 6 ≤ st + 39) ∧ (∀ r r', r < 5 → r' < 5 → r ≠ r' → R (st + 1) r + 7 ≤ R (st + 1) r' ∨ R (st + 1) r' + 7 ≤ R (st + 1) r)
def RsC (I : mI) (R : mR) (st : Nat) (rs : List Ru) : Prop := I st 2 = nI rs.length ∧ ∀ r, r < rs.length → RuC I (R (st + 1) r) (rs.getD r dRu)
theorem RuC.cong {I I' : mI} {q : Nat} {u : Ru} (h : RuC I q u) (hc : ∀ a, q ≤ a → a ≤ q + 6 → I' a = I a) : RuC I' q u := ⟨h.1.cong (hc _ (by omega) (by omega)) (hc _ (by omega) (by omega)) (hc _ (by omega) (by omega)), h.2.cong (hc _ (by omega) (by omega)) (hc _ (by omega) (by omega)) (hc _ (by omega) (by omega))⟩
theorem RsC.cong {I I' : mI} {R : mR} {st : Nat} {rs : List Ru} (hS : SO R st) (hn : rs.length ≤ 5) (h : RsC I R st rs) (h0 : I' st 2 = I st 2) (hc : ∀ a, st + 5 ≤ a → a ≤ st + 39 → I' a = I a) : RsC I' R st rs := by
  refine ⟨by rw [h0]; exact h.1, fun r hr => (h.2 r hr).cong (fun a h1 h2 => ?_)⟩
  obtain ⟨-, h3, h4⟩ := hS.2.2.2.2.2.1 r (by omega)
  exact hc a (by omega) (by omega)
/-- where a term lies that is turned -/
def WO (t : Nat) : Prop := t + 2 < 263 ∨ 267 < t
theorem lrC_L {t c st i : Nat} {R : mR} {l : List Int32} {rs : List Ru} (hT : TO R t c) (hc : l.length ≤ c) (hS : SO R st) (hR : R 263 1 = 267) (ht : WO t) (hr : RsOK rs) (hl : Tm l) (hi : i < l.length) :
    ∀ (q n r : Nat) (I : mI), rs.length - r = q → q < n → r ≤ rs.length → TmC I t l → RsC I R st rs →
      ∃ I', ((ruleAtF l i (rs.drop r) r = none ∧ f_X9_leastRuleAt_L3 n 263 st t (nI i) (nI r) I R = some (Sum.inr I')) ∨ ∃ x, ruleAtF l i (rs.drop r) r = some x ∧ f_X9_leastRuleAt_L3 n 263 st t (nI i) (nI r) I R = some (Sum.inl (nI x, I'))) ∧ ∀ a, a ≠ 267 → I' a = I a := by
  obtain ⟨s0, s1, s2, s3, s4, s5, s6⟩ := id hS
  have hn5 := hr.1
  intro q
  induction q with
  | zero =>
    intro n r I h1 h2 h3 h4 h5
    obtain ⟨n, rfl⟩ : ∃ q, n = q + 1 := ⟨n - 1, by omega⟩
    refine ⟨I, Or.inl ⟨?_, ?_⟩, fun _ _ => rfl⟩
    · rw [List.drop_of_length_le (by omega)]
      rfl
    · rw [f_X9_leastRuleAt_L3, h5.1, if_pos (nI_le (by omega) (by omega))]
  | succ q ih =>
    intro n r I h1 h2 h3 h4 h5
    obtain ⟨n, rfl⟩ : ∃ q, n = q + 1 := ⟨n - 1, by omega⟩
    have hrl : r < rs.length := by omega
    obtain ⟨⟨q0, q1, q2, q3, q4⟩, q5, q6⟩ := s5 r (by omega)
    have hu := hr.get hrl
    have hd : rs.drop r = rs.getD r dRu :: rs.drop (r + 1) := by
      rw [List.drop_eq_getElem_cons hrl, List.getD_eq_getElem?_getD, List.getElem?_eq_getElem hrl]
      rfl
    rw [f_X9_leastRuleAt_L3, h5.1, if_neg (nI_ge (by omega) (by omega)), s0, s2, if_pos (inb_nI (by omega) (by omega)), nI_clamp (by omega), q0, hd]
    unfold ruleAtF
    obtain ⟨I1, e1, e2⟩ := fitsC_ok hT hc q2 hu.2.2.1 hR (by unfold WO at ht; omega) (by omega) h4 (h5.2 r hrl).1 hu.1 hl hi
    rcases e1 with ⟨g1, g2⟩ | ⟨bx, bz, g1, g2, -⟩
    · rw [g2, bd2_s, if_pos rfl, g1, nI_1]
      simp only [Option.isSome_none, if_neg (show ¬ false = true by decide)]
      obtain ⟨I2, f1, f2⟩ := ih n (r + 1) I1 (by omega) (by omega) (by omega) (h4.cong (e2 _ (by unfold WO at ht; omega)) (e2 _ (by unfold WO at ht; omega)) (e2 _ (by unfold WO at ht; omega))) (h5.cong hS hn5 (by rw [e2 _ (by omega)]) (fun a h6 h7 => e2 a (by omega)))
      exact ⟨I2, f1, fun a ha => by rw [f2 a ha, e2 a ha]⟩
    · rw [g2, bd2_s, if_neg n10, g1]
      simp only [Option.isSome_some, if_pos]
      exact ⟨I1, Or.inr ⟨r, rfl, rfl⟩, e2⟩
theorem lrC_ok {t c st i : Nat} {R : mR} {l : List Int32} {rs : List Ru} (hT : TO R t c) (hc : l.length ≤ c) (hS : SO R st) (hR : R 263 1 = 267) (ht : WO t) (hr : RsOK rs) (hl : Tm l) (hi : i < l.length) {I : mI} (h4 : TmC I t l) (h5 : RsC I R st rs) : ∃ I', f_X9_leastRuleAt 263 st t (nI i) I R = some (bv (ruleAtS rs l i), I') ∧ ∀ a, a ≠ 267 → I' a = I a := by
  obtain ⟨I', e1, e2⟩ := lrC_L hT hc hS hR ht hr hl hi rs.length FU 0 I (by omega) (by have := hr.1; rw [FU_eq]; omega) (by omega) h4 h5
  refine ⟨I', ?_, e2⟩
  unfold f_X9_leastRuleAt ruleAtS
  rw [show (0 : Int32) = nI 0 from rfl]
  rw [List.drop_zero] at e1
  rcases e1 with ⟨g1, g2⟩ | ⟨x, g1, g2⟩
  · rw [g2, g1]
    rfl
  · rw [g2, g1]
    rfl
theorem seekC_L {t c st : Nat} {R : mR} {l : List Int32} {rs : List Ru} (hT : TO R t c) (hc : l.length ≤ c) (hS : SO R st) (hR : R 263 1 = 267) (ht : WO t) (hr : RsOK rs) (hl : Tm l) :
    ∀ (q n i : Nat) (I : mI), l.length - i = q → q < n → i ≤ l.length → TmC I t l → RsC I R st rs →
      ((I 263 2 = -1 ∧ ∀ j, j < i → ruleAtS rs l j = none) ∨ ∃ a r, a < i ∧ i ≤ ep l a ∧ I 263 2 = nI a ∧ I 263 3 = nI r ∧ ruleAtS rs l a = some r ∧ (∀ k, a < k → k < i → ruleAtS rs l k = none) ∧ ∀ j, j < a → ruleAtS rs l j ≠ none → ∃ k, j < k ∧ k < ep l j ∧ ruleAtS rs l k ≠ none) →
      ∃ I', f_X9_seek_L7 n 263 st t (nI i) I R = some I' ∧ ((I' 263 2 = -1 ∧ turnS rs l = none) ∨ ∃ r a, I' 263 2 = nI a ∧ I' 263 3 = nI r ∧ turnS rs l = some (r, a)) ∧ ∀ x, x ≠ 267 → x ≠ 263 → I' x = I x := by
  obtain ⟨s0, s1, s2, s3, s4, s5, s6⟩ := id hS
  obtain ⟨r0, r1, l0, l1, lc⟩ := id hT
  have fin : ∀ (i : Nat) (I : mI), i ≤ l.length → ((I 263 2 = -1 ∧ (∀ j, j < i → ruleAtS rs l j = none) ∧ i = l.length) ∨ ∃ a r, a < i ∧ i ≤ ep l a ∧ I 263 2 = nI a ∧ I 263 3 = nI r ∧ ruleAtS rs l a = some r ∧ (∀ k, a < k → k < i → ruleAtS rs l k = none) ∧ (∀ j, j < a → ruleAtS rs l j ≠ none → ∃ k, j < k ∧ k < ep l j ∧ ruleAtS rs l k ≠ none) ∧ ep l a ≤ i) → ((I 263 2 = -1 ∧ turnS rs l = none) ∨ ∃ r a, I 263 2 = nI a ∧ I 263 3 = nI r ∧ turnS rs l = some (r, a)) := by
    intro i I hi h
    rcases h with ⟨h1, h2, h3⟩ | ⟨a, r, h1, h2, h3, h4, h5, h6, h7, h8⟩
    · exact Or.inl ⟨h1, turnF_none _ _ (fun j _ hj hn => absurd (h2 j (by omega)) hn)⟩
    · refine Or.inr ⟨r, a, h3, h4, turnF_some h5 (innerS_iff.mpr (fun k g1 g2 => h6 k g1 (by omega))) _ _ (by omega) (by omega) (fun j _ hj hn => ?_)⟩
      obtain ⟨k, g1, g2, g3⟩ := h7 j hj hn
      cases hb : innerS rs l j with
      | false => rfl
      | true => exact absurd (innerS_iff.mp hb k g1 g2) g3
  intro q
  induction q with
  | zero =>
    intro n i I h1 h2 h3 h4 h5 h6
    obtain ⟨n, rfl⟩ : ∃ q, n = q + 1 := ⟨n - 1, by omega⟩
    refine ⟨I, ?_, fin i I h3 ?_, fun _ _ _ => rfl⟩
    · rw [f_X9_seek_L7, h4.1, if_pos (nI_le (by omega) (by omega))]
    · rcases h6 with ⟨g1, g2⟩ | ⟨a, r, g1, g2, g3, g4, g5, g6, g7⟩
      · exact Or.inl ⟨g1, g2, by omega⟩
      · exact Or.inr ⟨a, r, g1, g2, g3, g4, g5, g6, g7, by have := ep_le (l := l) (k := a) (by omega); omega⟩
  | succ q ih =>
    intro n i I h1 h2 h3 h4 h5 h6
    obtain ⟨n, rfl⟩ : ∃ q, n = q + 1 := ⟨n - 1, by omega⟩
    have hi : i < l.length := by omega
    obtain ⟨I1, e1, e2⟩ := lrC_ok hT hc hS hR ht hr hl hi h4 h5
    have t4 : ∀ x, x ≠ 267 → x ≠ 263 → ∀ (k : Nat) (v : Int32), u2 I1 263 k v x = I x := fun x g1 g2 k v => by rw [u2_n _ _ _ g2, e2 x g1]
    have go : (∀ (a : Nat), a < l.length → I 263 2 = nI a → i < ep l a) → ∃ I', (bd2 (f_X9_leastRuleAt 263 st t (nI i) I R) (fun r4 I4 => if r4 = (-1 : Int32) then f_X9_seek_L7 n 263 st t (nI i + 1) I4 R else f_X9_seek_L7 n 263 st t (nI i + 1) (u2 (u2 I4 263 2 (nI i)) 263 3 r4) R)) = some I' ∧ ((I' 263 2 = -1 ∧ turnS rs l = none) ∨ ∃ r a, I' 263 2 = nI a ∧ I' 263 3 = nI r ∧ turnS rs l = some (r, a)) ∧ ∀ x, x ≠ 267 → x ≠ 263 → I' x = I x := by
      intro hlt
      rw [e1, bd2_s, nI_1]
      cases hrl : ruleAtS rs l i with
      | none =>
        rw [show bv none = -1 from rfl, if_pos rfl]
        obtain ⟨I', f1, f2, f3⟩ := ih n (i + 1) I1 (by omega) (by omega) (by omega) (h4.cong (e2 _ (by unfold WO at ht; omega)) (e2 _ (by unfold WO at ht; omega)) (e2 _ (by unfold WO at ht; omega))) (h5.cong hS hr.1 (by rw [e2 _ (by omega)]) (fun a h6 h7 => e2 a (by omega))) (by
          rw [e2 263 (by decide)]
          rcases h6 with ⟨g1, g2⟩ | ⟨a, r, g1, g2, g3, g4, g5, g6, g7⟩
          · left
            refine ⟨g1, fun j hj => ?_⟩
            by_cases hji : j = i
            · subst hji; exact hrl
            · exact g2 j (by omega)
          · right
            refine ⟨a, r, by omega, by have := hlt a (by omega) g3; omega, g3, g4, g5, fun k k1 k2 => ?_, g7⟩
            by_cases hji : k = i
            · subst hji; exact hrl
            · exact g6 k k1 (by omega))
        exact ⟨I', f1, f2, fun x g1 g2 => by rw [f3 x g1 g2, e2 x g1]⟩
      | some r =>
        have hrlt := (ruleAtS_lt hrl).1
        have hr5 := hr.1
        rw [show bv (some r) = nI r from rfl, if_neg (bv_ne (by omega))]
        have t5 : ∀ x, x ≠ 267 → x ≠ 263 → u2 (u2 I1 263 2 (nI i)) 263 3 (nI r) x = I x := fun x g1 g2 => by rw [u2_n _ _ _ g2, t4 x g1 g2]
        obtain ⟨I', f1, f2, f3⟩ := ih n (i + 1) (u2 (u2 I1 263 2 (nI i)) 263 3 (nI r)) (by omega) (by omega) (by omega) (h4.cong (t5 _ (by unfold WO at ht; omega) (by unfold WO at ht; omega)) (t5 _ (by unfold WO at ht; omega) (by unfold WO at ht; omega)) (t5 _ (by unfold WO at ht; omega) (by unfold WO at ht; omega))) (h5.cong hS hr.1 (by rw [t5 _ (by omega) (by omega)]) (fun a h6 h7 => t5 a (by omega) (by omega))) (by
          right
          refine ⟨i, r, by omega, ep_gt hi, ?_, ?_, hrl, fun k k1 k2 => by omega, fun j hj hn => ?_⟩
          · rw [u2_s, va_up_n _ _ (by decide), u2_s, va_up_s]
          · rw [u2_s, va_up_s]
          · rcases h6 with ⟨g1, g2⟩ | ⟨a, r', g1, g2, g3, g4, g5, g6, g7⟩
            · exact absurd (g2 j hj) hn
            · by_cases hja : j < a
              · exact g7 j hja hn
              · by_cases hja2 : j = a
                · subst hja2
                  exact ⟨i, hj, hlt j (by omega) g3, by rw [hrl]; simp⟩
                · exact absurd (g6 j (by omega) hj) hn)
        exact ⟨I', f1, f2, fun x g1 g2 => by rw [f3 x g1 g2, t5 x g1 g2]⟩
    rw [f_X9_seek_L7]
    simp only [bnd]
    rw [h4.1, if_neg (nI_ge hi (by omega))]
    rcases id h6 with ⟨g1, g2⟩ | ⟨a, r, g1, g2, g3, g4, g5, g6, g7⟩
    · rw [g1, if_pos rfl]
      refine go (fun a hal ha => ?_)
      rw [g1] at ha
      exact absurd ha.symm (bv_ne (by omega))
    · rw [g3, if_neg (bv_ne (by omega)), r1, l1, if_pos (inb_nI (by omega) (by omega)), nI_clamp (by omega), h4.2.2 a (by omega)]
      have hel := ep_le (l := l) (k := a) (by omega)
      by_cases hlt : i < ep l a
      · rw [if_pos (nI_lt hlt (by omega))]
        refine go (fun a' hal ha' => ?_)
        rw [g3] at ha'
        rw [← nI_inj (by omega) (by omega) ha']
        exact hlt
      · rw [if_neg (nI_nlt (by omega) (by omega))]
        exact ⟨I, rfl, fin i I h3 (Or.inr ⟨a, r, g1, g2, g3, g4, g5, g6, g7, by omega⟩), fun _ _ _ => rfl⟩
theorem seekC_ok {t c st : Nat} {R : mR} {l : List Int32} {rs : List Ru} (hT : TO R t c) (hc : l.length ≤ c) (hS : SO R st) (hR : R 263 1 = 267) (ht : WO t) (hr : RsOK rs) (hl : Tm l) {I : mI} (h4 : TmC I t l) (h5 : RsC I R st rs) :
    ∃ I', ((turnS rs l = none ∧ f_X9_seek 263 st t I R = some (0, I')) ∨ ∃ r a, turnS rs l = some (r, a) ∧ f_X9_seek 263 st t I R = some (1, I') ∧ I' 263 2 = nI a ∧ I' 263 3 = nI r) ∧ ∀ x, x ≠ 267 → x ≠ 263 → I' x = I x := by
  have hw := ht
  unfold WO at hw
  have hs4 := hS.2.2.2.2.1
  have t5 : ∀ x, x ≠ 263 → u2 I 263 2 (-1) x = I x := fun x g => by rw [u2_n _ _ _ g]
  obtain ⟨I', e1, e2, e3⟩ := seekC_L hT hc hS hR ht hr hl l.length FU 0 (u2 I 263 2 (-1)) (by omega) (by have := hT.2.2.2.2; rw [FU_eq]; omega) (by omega) (h4.cong (t5 _ (by omega)) (t5 _ (by omega)) (t5 _ (by omega))) (h5.cong hS hr.1 (by rw [t5 _ (by omega)]) (fun a h6 h7 => t5 a (by omega))) (Or.inl ⟨by rw [u2_s, va_up_s], fun j hj => by omega⟩)
  refine ⟨I', ?_, fun x g1 g2 => by rw [e3 x g1 g2, t5 x g2]⟩
  simp only [f_X9_seek, bnd]
  rw [show (0 : Int32) = nI 0 from rfl, e1, bd1_s]
  rcases e2 with ⟨g1, g2⟩ | ⟨r, a, g1, g2, g3⟩
  · left
    rw [g1, if_pos rfl]
    exact ⟨g2, rfl⟩
  · right
    have := (turnS_lt g3).1
    have hcc := hT.2.2.2.2
    rw [g1, if_neg (bv_ne (by omega))]
    exact ⟨r, a, g3, rfl, rfl, g2⟩
theorem partSize_m1 (t : Nat) (I : mI) (R : mR) : f_X8_partSize t (-1) I R = some 0 := by
  simp only [f_X8_partSize, bnd]
  rw [if_pos (by decide)]
theorem partSize_o {t c : Nat} {R : mR} {l : List Int32} (hT : TO R t c) (hc : l.length ≤ c) {I : mI} (h : TmC I t l) {o : Option Nat} (ho : inO o l.length) : f_X8_partSize t (bv o) I R = some (nI (optP l o).length) := by
  cases o with
  | none => exact partSize_m1 t I R
  | some b =>
    rw [show bv (some b) = nI b from rfl, partSize_ok hT hc h (ho b rfl), show optP l (some b) = pt l b from rfl, pt_len (ho b rfl)]
theorem optP_le {l : List Int32} {o : Option Nat} : (optP l o).length ≤ l.length := by
  cases o with
  | none => exact Nat.zero_le _
  | some b =>
    show (pt l b).length ≤ _
    unfold pt
    rw [List.length_take, List.length_drop]
    omega
theorem uk0 {c : Int32} (h1 : ¬ c = 120) (h2 : ¬ c = 121) : ub c = 0 := by unfold ub; rw [if_neg h1, if_neg h2]
theorem expS_c (l : List Int32) (bx bz : Option Nat) (r : List Int32) (k : Nat) (h : k < r.length) : expS l bx bz (r.drop k) = (if r.getD k 0 = 120 then optP l bx else if r.getD k 0 = 121 then optP l bz else [r.getD k 0]) ++ expS l bx bz (r.drop (k + 1)) := by rw [drop_c h]; rfl
theorem sbC_L {t c tr c2 : Nat} {R : mR} {l r : List Int32} (hT : TO R t c) (hc : l.length ≤ c) (hQ : TO R tr c2) (hc2 : r.length ≤ c2) (hR : R 263 1 = 267) {I : mI} {bx bz : Option Nat} (h1 : TmC I t l) (h2 : TmC I tr r) (hx : I 267 1 = bv bx) (hz : I 267 2 = bv bz) (ix : inO bx l.length) (iz : inO bz l.length) :
    ∀ (q n k s : Nat), r.length - k = q → q < n → k ≤ r.length → s + 60 * q ≤ 100000 → f_X9_sizeBehind_L17 n 263 tr t (nI s) (nI k) I R = some (nI (s + (expS l bx bz (r.drop k)).length)) := by
  obtain ⟨r0, r1, l0, l1, lc⟩ := id hT
  obtain ⟨s0, s1, m0, m1, mc⟩ := id hQ
  have l267 : lnC 267 = 3 := rfl
  intro q
  induction q with
  | zero =>
    intro n k s g1 g2 g3 g4
    obtain ⟨n, rfl⟩ : ∃ q, n = q + 1 := ⟨n - 1, by omega⟩
    rw [f_X9_sizeBehind_L17, h2.1, if_pos (nI_le (by omega) (by omega)), List.drop_of_length_le (by omega)]
    rfl
  | succ q ih =>
    intro n k s g1 g2 g3 g4
    obtain ⟨n, rfl⟩ : ∃ q, n = q + 1 := ⟨n - 1, by omega⟩
    have hk : k < r.length := by omega
    have ox := optP_le (l := l) (o := bx)
    have oz := optP_le (l := l) (o := bz)
    rw [f_X9_sizeBehind_L17]
    simp only [bnd]
    rw [h2.1, if_neg (nI_ge (by omega) (by omega)), s0, m0, if_pos (inb_nI (by omega) (by omega)), nI_clamp (by omega), h2.2.1 k hk, uB, bd1_s, nI_1 k, hR, l267, expS_c _ _ _ _ _ hk, List.length_append]
    by_cases e1 : r.getD k 0 = 120
    · rw [if_pos e1, e1, show ub 120 = 1 from rfl, if_neg n10, if_pos b13, t1, hx, partSize_o hT hc h1 ix, bd1_s, nI_add, ih n (k + 1) _ (by omega) (by omega) (by omega) (by omega), Nat.add_assoc]
    · rw [if_neg e1]
      by_cases e2 : r.getD k 0 = 121
      · rw [if_pos e2, e2, show ub 121 = 2 from rfl, if_neg n20, if_pos b23, t2, hz, partSize_o hT hc h1 iz, bd1_s, nI_add, ih n (k + 1) _ (by omega) (by omega) (by omega) (by omega), Nat.add_assoc]
      · rw [if_neg e2, uk0 e1 e2, if_pos rfl, nI_1 s, ih n (k + 1) _ (by omega) (by omega) (by omega) (by omega), Nat.add_assoc]
        rfl
theorem sbC_ok {t c tr c2 : Nat} {R : mR} {l r : List Int32} (hT : TO R t c) (hc : l.length ≤ c) (hQ : TO R tr c2) (hc2 : r.length ≤ c2) (hR : R 263 1 = 267) {I : mI} {bx bz : Option Nat} (h1 : TmC I t l) (h2 : TmC I tr r) (hx : I 267 1 = bv bx) (hz : I 267 2 = bv bz) (ix : inO bx l.length) (iz : inO bz l.length) {a : Nat} (ha : I 263 2 = nI a) (hal : a < l.length) :
    f_X9_sizeBehind 263 tr t I R = some (nI (newT l a bx bz r).length) := by
  have gi := ep_gt hal
  have li := ep_le (l := l) (k := a) (by omega)
  have hcc := hT.2.2.2.2
  have hqq := hQ.2.2.2.2
  have e : l.length - (ep l a - a) + (expS l bx bz (r.drop 0)).length = (newT l a bx bz r).length := by
    unfold newT
    rw [List.length_append, List.length_append, List.length_take, List.length_drop, List.drop_zero]
    omega
  unfold f_X9_sizeBehind
  rw [ha, partSize_ok hT hc h1 hal, bd1_s, h1.1, pk_sub (by omega)]
  have := sbC_L hT hc hQ hc2 hR h1 h2 hx hz ix iz r.length FU 0 (l.length - (ep l a - a)) (by omega) (by rw [FU_eq]; omega) (by omega) (by omega)
  rw [show nI 0 = 0 from rfl] at this
  rw [this, bd1_s, e]
theorem blC_42 {t c a x1 : Nat} {R : mR} {l : List Int32} (hT : TO R t c) (hc : l.length ≤ c) (hB : TO R 264 60) (hR : R 263 0 = 264) (ht : t + 3 ≤ 263 ∨ 267 < t) (hal : a ≤ l.length) (ha60 : a ≤ 60) :
    ∀ (q n k : Nat) (I : mI), a - k = q → q < n → k ≤ a → TmC I t l → I 263 2 = nI a → TmW I 264 (l.take k) → ∃ I', f_X9_build_L42 n 263 x1 t (nI k) I R = some I' ∧ TmW I' 264 (l.take a) ∧ ∀ x, x ≠ 264 → x ≠ 265 → I' x = I x := by
  obtain ⟨r0, r1, l0, l1, lc⟩ := id hT
  intro q
  induction q with
  | zero =>
    intro n k I g1 g2 g3 h1 h2 h3
    obtain ⟨n, rfl⟩ : ∃ q, n = q + 1 := ⟨n - 1, by omega⟩
    rw [f_X9_build_L42, h2, if_pos (nI_le (by omega) (by omega))]
    rw [show k = a by omega] at h3
    exact ⟨I, rfl, h3, fun _ _ _ => rfl⟩
  | succ q ih =>
    intro n k I g1 g2 g3 h1 h2 h3
    obtain ⟨n, rfl⟩ : ∃ q, n = q + 1 := ⟨n - 1, by omega⟩
    have hk : k < l.length := by omega
    have hlt : (l.take k).length = k := by rw [List.length_take]; omega
    rw [f_X9_build_L42, h2, if_neg (nI_ge (by omega) (by omega)), r0, l0, if_pos (inb_nI (by omega) (by omega)), nI_clamp (by omega), h1.2.1 k hk, hR]
    obtain ⟨I1, e1, e2, e3⟩ := addLetter_w hB h3 (by omega) (l.getD k 0)
    rw [e1, bd1_s, nI_1]
    have htk : l.take k ++ [l.getD k 0] = l.take (k + 1) := by
      rw [List.take_succ, List.getD_eq_getElem?_getD, List.getElem?_eq_getElem hk]
      rfl
    rw [htk] at e2
    obtain ⟨I2, f1, f2, f3⟩ := ih n (k + 1) I1 (by omega) (by omega) (by omega) (h1.cong (e3 _ (by omega) (by omega)) (e3 _ (by omega) (by omega)) (e3 _ (by omega) (by omega))) (by rw [e3 _ (by omega) (by omega)]; exact h2) e2
    exact ⟨I2, f1, f2, fun x g5 g6 => by rw [f3 x g5 g6, e3 x g5 g6]⟩
theorem iU (c : Int32) : f_X10_isUnknown c = some (if c = 120 ∨ c = 121 then 1 else 0) := by
  simp only [f_X10_isUnknown, bnd]
  by_cases h1 : c = 120
  · rw [if_pos h1, if_pos (Or.inl h1)]
  · rw [if_neg h1]
    by_cases h2 : c = 121
    · rw [if_pos h2, if_pos (Or.inr h2)]
    · rw [if_neg h2, if_neg (fun q => q.elim h1 h2)]
theorem addPart_m1 (t s : Nat) (I : mI) (R : mR) : f_X8_addPart t s (-1) I R = some I := by
  simp only [f_X8_addPart]
  rw [if_pos (by decide)]
theorem addPart_o {t s c c2 : Nat} {R : mR} {l : List Int32} (hT : TO R t c) (hs : TO R s c2) (hap : t + 3 ≤ s ∨ s + 3 ≤ t) (hc : l.length ≤ c2) {I : mI} {w : List Int32} (h4 : TmC I s l) (h5 : TmW I t w) {o : Option Nat} (ho : inO o l.length) (h6 : w.length + (optP l o).length ≤ c) : ∃ I', f_X8_addPart t s (bv o) I R = some I' ∧ TmW I' t (w ++ optP l o) ∧ ∀ a, a ≠ t → a ≠ t + 1 → I' a = I a := by
  cases o with
  | none =>
    refine ⟨I, addPart_m1 t s I R, ?_, fun _ _ _ => rfl⟩
    rw [show optP l none = [] from rfl, List.append_nil]
    exact h5
  | some b => exact addPart_ok hT hs hap hc h4 h5 (ho b rfl) h6
theorem blC_71 {t c q0 : Nat} {R : mR} {l r : List Int32} (hT : TO R t c) (hc : l.length ≤ c) (hB : TO R 264 60) (hR : R 263 0 = 264) (hR1 : R 263 1 = 267) (ht : t + 3 ≤ 263 ∨ 267 < t) (hq1 : R q0 1 = q0 + 4) (hQ : TO R (q0 + 4) 12) (hq : q0 + 6 < 243) (hr : r.length ≤ 12) {bx bz : Option Nat} (ix : inO bx l.length) (iz : inO bz l.length) :
    ∀ (q n k : Nat) (I : mI) (w : List Int32), r.length - k = q → q < n → k ≤ r.length → TmC I t l → TmC I (q0 + 4) r → I 267 1 = bv bx → I 267 2 = bv bz → TmW I 264 w → w.length + (expS l bx bz (r.drop k)).length ≤ 60 → ∃ I', f_X9_build_L71 n 263 q0 t (nI k) I R = some I' ∧ TmW I' 264 (w ++ expS l bx bz (r.drop k)) ∧ ∀ x, x ≠ 264 → x ≠ 265 → I' x = I x := by
  obtain ⟨r0, r1, l0, l1, lc⟩ := id hQ
  have l267 : lnC 267 = 3 := rfl
  intro q
  induction q with
  | zero =>
    intro n k I w g1 g2 g3 h1 h2 hx hz h3 h4
    obtain ⟨n, rfl⟩ : ∃ q, n = q + 1 := ⟨n - 1, by omega⟩
    rw [f_X9_build_L71, hq1, h2.1, if_pos (nI_le (by omega) (by omega)), List.drop_of_length_le (by omega)]
    refine ⟨I, rfl, ?_, fun _ _ _ => rfl⟩
    rw [show expS l bx bz [] = [] from rfl, List.append_nil]
    exact h3
  | succ q ih =>
    intro n k I w g1 g2 g3 h1 h2 hx hz h3 h4
    obtain ⟨n, rfl⟩ : ∃ q, n = q + 1 := ⟨n - 1, by omega⟩
    have hk : k < r.length := by omega
    rw [f_X9_build_L71]
    simp only [bnd]
    rw [hq1, h2.1, if_neg (nI_ge (by omega) (by omega)), r0, l0, if_pos (inb_nI (by omega) (by omega)), nI_clamp (by omega), h2.2.1 k hk, iU, bd1_s, uB, bd1_s, nI_1, hR, hR1, l267]
    rw [expS_c _ _ _ _ _ hk] at h4 ⊢
    rw [List.length_append] at h4
    have next : ∀ (p : List Int32) (I1 : mI), TmW I1 264 (w ++ p) → (∀ x, x ≠ 264 → x ≠ 265 → I1 x = I x) → w.length + (p.length + (expS l bx bz (r.drop (k + 1))).length) ≤ 60 → ∃ I', f_X9_build_L71 n 263 q0 t (nI (k + 1)) I1 R = some I' ∧ TmW I' 264 (w ++ (p ++ expS l bx bz (r.drop (k + 1)))) ∧ ∀ x, x ≠ 264 → x ≠ 265 → I' x = I x := by
      intro p I1 e2 e3 e4
      obtain ⟨I2, f1, f2, f3⟩ := ih n (k + 1) I1 (w ++ p) (by omega) (by omega) (by omega) (h1.cong (e3 _ (by omega) (by omega)) (e3 _ (by omega) (by omega)) (e3 _ (by omega) (by omega))) (h2.cong (e3 _ (by omega) (by omega)) (e3 _ (by omega) (by omega)) (e3 _ (by omega) (by omega))) (by rw [e3 _ (by omega) (by omega)]; exact hx) (by rw [e3 _ (by omega) (by omega)]; exact hz) e2 (by rw [List.length_append]; omega)
      rw [List.append_assoc] at f2
      exact ⟨I2, f1, f2, fun x g5 g6 => by rw [f3 x g5 g6, e3 x g5 g6]⟩
    by_cases e1 : r.getD k 0 = 120
    · rw [if_pos e1] at h4 ⊢
      rw [if_pos (Or.inl e1), if_neg n10, e1, show ub 120 = 1 from rfl, if_pos b13, t1, hx]
      obtain ⟨I1, f1, f2, f3⟩ := addPart_o hB hT (by omega) hc h1 h3 ix (by omega)
      rw [f1, bd1_s]
      exact next _ I1 f2 f3 (by omega)
    · rw [if_neg e1] at h4 ⊢
      by_cases e2 : r.getD k 0 = 121
      · rw [if_pos e2] at h4 ⊢
        rw [if_pos (Or.inr e2), if_neg n10, e2, show ub 121 = 2 from rfl, if_pos b23, t2, hz]
        obtain ⟨I1, f1, f2, f3⟩ := addPart_o hB hT (by omega) hc h1 h3 iz (by omega)
        rw [f1, bd1_s]
        exact next _ I1 f2 f3 (by omega)
      · rw [if_neg e2] at h4 ⊢
        rw [if_neg (show ¬ (r.getD k 0 = 120 ∨ r.getD k 0 = 121) from fun q => q.elim e1 e2), if_pos rfl]
        obtain ⟨I1, f1, f2, f3⟩ := addLetter_w hB h3 (by rw [List.length_singleton] at h4; omega) (r.getD k 0)
        rw [f1, bd1_s]
        exact next _ I1 f2 f3 (by omega)
theorem blC_147 {t c : Nat} {R : mR} {l : List Int32} (hT : TO R t c) (hc : l.length ≤ c) (hB : TO R 264 60) (hR : R 263 0 = 264) (ht : t + 3 ≤ 263 ∨ 267 < t) :
    ∀ (q n k : Nat) (I : mI) (w : List Int32), l.length - k = q → q < n → k ≤ l.length → TmC I t l → TmW I 264 w → w.length + (l.length - k) ≤ 60 → ∃ I', f_X9_build_L147 n 263 t (nI k) I R = some I' ∧ TmW I' 264 (w ++ l.drop k) ∧ ∀ x, x ≠ 264 → x ≠ 265 → I' x = I x := by
  obtain ⟨r0, r1, l0, l1, lc⟩ := id hT
  intro q
  induction q with
  | zero =>
    intro n k I w g1 g2 g3 h1 h3 h4
    obtain ⟨n, rfl⟩ : ∃ q, n = q + 1 := ⟨n - 1, by omega⟩
    rw [f_X9_build_L147, h1.1, if_pos (nI_le (by omega) (by omega)), List.drop_of_length_le (by omega), List.append_nil]
    exact ⟨I, rfl, h3, fun _ _ _ => rfl⟩
  | succ q ih =>
    intro n k I w g1 g2 g3 h1 h3 h4
    obtain ⟨n, rfl⟩ : ∃ q, n = q + 1 := ⟨n - 1, by omega⟩
    have hk : k < l.length := by omega
    rw [f_X9_build_L147, h1.1, if_neg (nI_ge (by omega) (by omega)), r0, l0, if_pos (inb_nI (by omega) (by omega)), nI_clamp (by omega), h1.2.1 k hk, hR]
    obtain ⟨I1, e1, e2, e3⟩ := addLetter_w hB h3 (by omega) (l.getD k 0)
    rw [e1, bd1_s, nI_1]
    obtain ⟨I2, f1, f2, f3⟩ := ih n (k + 1) I1 _ (by omega) (by omega) (by omega) (h1.cong (e3 _ (by omega) (by omega)) (e3 _ (by omega) (by omega)) (e3 _ (by omega) (by omega))) e2 (by rw [List.length_append, List.length_singleton]; omega)
    rw [List.append_assoc] at f2
    rw [drop_c hk]
    exact ⟨I2, f1, f2, fun x g5 g6 => by rw [f3 x g5 g6, e3 x g5 g6]⟩
theorem buildC_ok {t c q0 a : Nat} {R : mR} {l : List Int32} {u : Ru} (hT : TO R t c) (hc : l.length ≤ c) (hB : TO R 264 60) (hR : R 263 0 = 264) (hR1 : R 263 1 = 267) (ht : WO t) (hQ : QO R q0) (hu : RuOK u) (hl : Tm l) {I : mI} (h4 : TmC I t l) (h5 : RuC I q0 u) (ha : I 263 2 = nI a) (hal : a < l.length) (hfs : (fitS l u.1 a).isSome = true) :
    ∃ I', (((newT l a (fitD l u.1 a).1 (fitD l u.1 a).2 u.2).length ≤ 60 ∧ f_X9_build 263 q0 t I R = some (1, I') ∧ TmC I' 264 (newT l a (fitD l u.1 a).1 (fitD l u.1 a).2 u.2)) ∨ (¬ (newT l a (fitD l u.1 a).1 (fitD l u.1 a).2 u.2).length ≤ 60 ∧ f_X9_build 263 q0 t I R = some (0, I'))) ∧ ∀ x, x ≠ 264 → x ≠ 265 → x ≠ 266 → x ≠ 267 → I' x = I x := by
  have hw := ht
  unfold WO at hw
  obtain ⟨q1, q2, q3, q4, q5⟩ := id hQ
  obtain ⟨r0, r1, l0, l1, lc⟩ := id hT
  obtain ⟨I1, e1, e2⟩ := fitsC_ok hT hc q3 hu.2.2.1 hR1 (by omega) (by omega) h4 h5.1 hu.1 hl hal
  rcases e1 with ⟨g1, -⟩ | ⟨bx, bz, g1, g2, g3, g4, g5, g6⟩
  · rw [g1] at hfs
    cases hfs
  · have hD : fitD l u.1 a = (bx, bz) := by unfold fitD; rw [g1]; rfl
    rw [hD]
    have h4' : TmC I1 t l := h4.cong (e2 _ (by omega)) (e2 _ (by omega)) (e2 _ (by omega))
    have h5' : TmC I1 (q0 + 4) u.2 := h5.2.cong (e2 _ (by omega)) (e2 _ (by omega)) (e2 _ (by omega))
    have ha' : I1 263 2 = nI a := by rw [e2 _ (by decide)]; exact ha
    have hsb := sbC_ok hT hc q4 hu.2.2.2.1 hR1 h4' h5' g3 g4 g5 g6 ha' hal
    have hel := ep_le (l := l) (k := a) (by omega)
    have heg := ep_gt hal
    have hsz : (newT l a bx bz u.2).length = a + (expS l bx bz u.2).length + (l.length - ep l a) := by
      unfold newT
      rw [List.length_append, List.length_append, List.length_take, List.length_drop]
      omega
    have hsmall : (newT l a bx bz u.2).length < 2 ^ 31 := by
      have : ∀ r : List Int32, (expS l bx bz r).length ≤ 60 * r.length := by
        intro r
        induction r with
        | nil => simp [expS]
        | cons c cs ih =>
          unfold expS
          rw [List.length_append, List.length_cons]
          have ox := optP_le (l := l) (o := bx)
          have oz := optP_le (l := l) (o := bz)
          by_cases e1 : c = 120
          · rw [if_pos e1]; omega
          · rw [if_neg e1]
            by_cases e2 : c = 121
            · rw [if_pos e2]; omega
            · rw [if_neg e2, List.length_singleton]; omega
      have h1 := this u.2
      have h2 := hu.2.2.2.1
      omega
    unfold f_X9_build
    rw [q1, ha, g2, bd2_s, if_neg n10, q2, hsb, bd1_s]
    by_cases h60 : (newT l a bx bz u.2).length ≤ 60
    · rw [show (60 : Int32) = nI 60 from rfl, if_pos (nI_le h60 (by omega))]
      simp only [bnd]
      rw [hR]
      have t5 : ∀ x, x ≠ 264 → u2 I1 264 2 0 x = I1 x := fun x g => by rw [u2_n _ _ _ g]
      obtain ⟨I2, f1, f2, f3⟩ := blC_42 (x1 := q0) hT hc hB hR (by omega) (a := a) (by omega) (by omega) a FU 0 (u2 I1 264 2 0) (by omega) (by rw [FU_eq]; omega) (by omega) (h4'.cong (t5 _ (by omega)) (t5 _ (by omega)) (t5 _ (by omega))) (by rw [t5 _ (by decide)]; exact ha') ⟨by rw [u2_s, va_up_s]; rfl, fun k hk => by simp at hk⟩
      rw [show (0 : Int32) = nI 0 from rfl] at *
      rw [f1, bd1_s]
      have t6 : ∀ x, x ≠ 264 → x ≠ 265 → I2 x = I1 x := fun x g g' => by rw [f3 x g g', t5 x g]
      have hla : (l.take a).length = a := by rw [List.length_take]; omega
      obtain ⟨I3, k1, k2, k3⟩ := blC_71 hT hc hB hR hR1 (by omega) q2 q4 q5 hu.2.2.2.1 g5 g6 u.2.length FU 0 I2 (l.take a) (by omega) (by have := hu.2.2.2.1; rw [FU_eq]; omega) (by omega) (h4'.cong (t6 _ (by omega) (by omega)) (t6 _ (by omega) (by omega)) (t6 _ (by omega) (by omega))) (h5'.cong (t6 _ (by omega) (by omega)) (t6 _ (by omega) (by omega)) (t6 _ (by omega) (by omega))) (by rw [t6 _ (by decide) (by decide)]; exact g3) (by rw [t6 _ (by decide) (by decide)]; exact g4) f2 (by rw [List.drop_zero]; omega)
      rw [k1, bd1_s]
      have t7 : ∀ x, x ≠ 264 → x ≠ 265 → I3 x = I1 x := fun x g g' => by rw [k3 x g g', t6 x g g']
      rw [List.drop_zero] at k2
      have h4'' : TmC I3 t l := h4'.cong (t7 _ (by omega) (by omega)) (t7 _ (by omega) (by omega)) (t7 _ (by omega) (by omega))
      rw [t7 263 (by decide) (by decide), ha', r1, l1, if_pos (inb_nI (by omega) (by omega)), nI_clamp (by omega), h4''.2.2 a hal]
      obtain ⟨I4, m1, m2, m3⟩ := blC_147 hT hc hB hR (by omega) (l.length - ep l a) FU (ep l a) I3 _ (by omega) (by rw [FU_eq]; omega) (by omega) h4'' k2 (by rw [List.length_append]; omega)
      rw [m1, bd1_s]
      obtain ⟨I5, n1, n2, n3⟩ := findEnds_ok hB h60 (I := I4) m2.1 m2.2
      rw [n1, bd1_s]
      refine ⟨I5, Or.inl ⟨h60, rfl, n2⟩, fun x x1 x2 x3 x4 => ?_⟩
      rw [n3 x x3, m3 x x1 x2, t7 x x1 x2, e2 x x4]
    · rw [show (60 : Int32) = nI 60 from rfl, if_neg (nI_ge (by omega) hsmall)]
      exact ⟨I1, Or.inr ⟨h60, rfl⟩, fun x x1 x2 x3 x4 => e2 x x4⟩
theorem tmC_L {t st m : Nat} {R : mR} {rs : List Ru} (hT : TO R t 60) (hB : TO R 264 60) (hR : R 263 0 = 264) (hR1 : R 263 1 = 267) (ht : WO t) (hS : SO R st) (hst : t = st + 2 ∨ 267 < t) (hr : RsOK rs) (hm : m ≤ 30) :
    ∀ (q n k : Nat) (I : mI) (l : List Int32), m - k = q → q < n → k ≤ m → TmC I t l → RsC I R st rs → Tm l → l.length ≤ 60 →
      ∃ I', f_X9_turnMany_L3 n 263 st t (nI m) (nI k) I R = some (if (iterS rs q l).1 = q then Sum.inr I' else Sum.inl (nI (k + (iterS rs q l).1), I')) ∧ TmC I' t (iterS rs q l).2 ∧ ∀ x, x ≠ t → x ≠ t + 1 → x ≠ t + 2 → (x < 263 ∨ 267 < x) → I' x = I x := by
  have hw := ht
  unfold WO at hw
  obtain ⟨s0, s1, s2, s3, s4, s5, s6⟩ := id hS
  intro q
  induction q with
  | zero =>
    intro n k I l g1 g2 g3 h1 h2 h3 h4
    obtain ⟨n, rfl⟩ : ∃ q, n = q + 1 := ⟨n - 1, by omega⟩
    rw [f_X9_turnMany_L3, if_pos (nI_le (by omega) (by omega))]
    exact ⟨I, rfl, h1, fun _ _ _ _ _ => rfl⟩
  | succ q ih =>
    intro n k I l g1 g2 g3 h1 h2 h3 h4
    obtain ⟨n, rfl⟩ : ∃ q, n = q + 1 := ⟨n - 1, by omega⟩
    rw [f_X9_turnMany_L3, if_neg (nI_ge (by omega) (by omega))]
    obtain ⟨I1, e1, e2⟩ := seekC_ok hT h4 hS hR1 ht hr h3 h1 h2
    have h1' : TmC I1 t l := h1.cong (e2 _ (by omega) (by omega)) (e2 _ (by omega) (by omega)) (e2 _ (by omega) (by omega))
    have h2' : RsC I1 R st rs := h2.cong hS hr.1 (by rw [e2 _ (by omega) (by omega)]) (fun a h6 h7 => e2 a (by omega) (by omega))
    rcases e1 with ⟨f1, f2⟩ | ⟨r, a, f1, f2, f3, f4⟩
    · have hs : stepS rs l = none := by unfold stepS; rw [f1]
      have hi : iterS rs (q + 1) l = (0, l) := by unfold iterS; rw [hs]
      rw [f2, bd2_s, if_pos rfl, hi]
      refine ⟨I1, rfl, h1', fun x x1 x2 x3 x4 => e2 x (by omega) (by omega)⟩
    · obtain ⟨hal, hrl, hfs⟩ := turnS_lt f1
      have hr5 := hr.1
      obtain ⟨hQ, hq5, hq6⟩ := s5 r (by omega)
      rw [f2, bd2_s, if_neg n10, s0, s2, f4, if_pos (inb_nI (by omega) (by omega)), nI_clamp (by omega)]
      obtain ⟨I2, k1, k2⟩ := buildC_ok hT h4 hB hR hR1 ht hQ (hr.get hrl) h3 h1' (h2'.2 r hrl) f3 hal hfs
      rcases k1 with ⟨m1, m2, m3⟩ | ⟨m1, m2⟩
      · have hs : stepS rs l = some (turned rs l r a) := by
          unfold stepS
          rw [f1]
          exact if_pos m1
        have hi : iterS rs (q + 1) l = ((iterS rs q (turned rs l r a)).1 + 1, (iterS rs q (turned rs l r a)).2) := by
          conv => lhs; unfold iterS
          rw [hs]
        rw [m2, bd2_s, if_neg n10, hR]
        have m3' : TmC I2 264 (turned rs l r a) := m3
        obtain ⟨I3, p1, p2, p3⟩ := copyT_ok hT hB (by omega) m3' m1 m1
        rw [p1, bd1_s, nI_1]
        have t5 : ∀ x, x ≠ t → x ≠ t + 1 → x ≠ t + 2 → (x < 263 ∨ 267 < x) → I3 x = I x := fun x x1 x2 x3 x4 => by rw [p3 x x1 x2 x3, k2 x (by omega) (by omega) (by omega) (by omega), e2 x (by omega) (by omega)]
        obtain ⟨hok1, hok2⟩ := stepS_ok hr h3 hs
        obtain ⟨I4, q1, q2, q3⟩ := ih n (k + 1) I3 (turned rs l r a) (by omega) (by omega) (by omega) p2 (h2.cong hS hr.1 (by rw [t5 _ (by omega) (by omega) (by omega) (by omega)]) (fun a h6 h7 => t5 a (by omega) (by omega) (by omega) (by omega))) hok1 hok2
        refine ⟨I4, ?_, by rw [hi]; exact q2, fun x x1 x2 x3 x4 => by rw [q3 x x1 x2 x3 x4, t5 x x1 x2 x3 x4]⟩
        rw [q1, hi]
        by_cases hz : (iterS rs q (turned rs l r a)).1 = q
        · rw [if_pos hz, if_pos (by rw [hz])]
        · rw [if_neg hz, if_neg (fun w => hz (Nat.succ.inj w)), show k + 1 + (iterS rs q (turned rs l r a)).1 = k + ((iterS rs q (turned rs l r a)).1 + 1) by omega]
      · have hs : stepS rs l = none := by
          unfold stepS
          rw [f1]
          exact if_neg m1
        have hi : iterS rs (q + 1) l = (0, l) := by unfold iterS; rw [hs]
        rw [m2, bd2_s, if_pos rfl, hi]
        refine ⟨I2, rfl, h1'.cong (k2 _ (by omega) (by omega) (by omega) (by omega)) (k2 _ (by omega) (by omega) (by omega) (by omega)) (k2 _ (by omega) (by omega) (by omega) (by omega)), fun x x1 x2 x3 x4 => by rw [k2 x (by omega) (by omega) (by omega) (by omega), e2 x (by omega) (by omega)]⟩
theorem tmC_ok {t st m : Nat} {R : mR} {rs : List Ru} (hT : TO R t 60) (hB : TO R 264 60) (hR : R 263 0 = 264) (hR1 : R 263 1 = 267) (ht : WO t) (hS : SO R st) (hst : t = st + 2 ∨ 267 < t) (hr : RsOK rs) (hm : m ≤ 30) {I : mI} {l : List Int32} (h1 : TmC I t l) (h2 : RsC I R st rs) (h3 : Tm l) (h4 : l.length ≤ 60) :
    ∃ I', f_X9_turnMany 263 st t (nI m) I R = some (nI (iterS rs m l).1, I') ∧ TmC I' t (iterS rs m l).2 ∧ ∀ x, x ≠ t → x ≠ t + 1 → x ≠ t + 2 → (x < 263 ∨ 267 < x) → I' x = I x := by
  obtain ⟨I', e1, e2, e3⟩ := tmC_L hT hB hR hR1 ht hS hst hr hm m FU 0 I l (by omega) (by rw [FU_eq]; omega) (by omega) h1 h2 h3 h4
  refine ⟨I', ?_, e2, e3⟩
  unfold f_X9_turnMany
  rw [show (0 : Int32) = nI 0 from rfl, e1]
  by_cases hz : (iterS rs m l).1 = m
  · rw [if_pos hz, bdS_r, hz]
    rfl
  · rw [if_neg hz, bdS_l, Nat.zero_add]
    rfl
