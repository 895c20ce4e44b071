/-! ===== what there is: states, and where the class keeps them ===== -/
abbrev Sn : Type := List Ru × List Int32
def dSn : Sn := ([], [])
def SnOK (s : Sn) : Prop := RsOK s.1 ∧ Tm s.2 ∧ s.2.length ≤ 60
def mainR : List (Nat × Nat × Nat) := [(0, 0, 1), (0, 1, 41), (0, 2, 243), (0, 3, 246), (0, 4, 248), (0, 5, 256), (0, 6, 263), (0, 7, 268), (0, 8, 271), (41, 0, 42), (243, 0, 244), (243, 1, 245), (246, 0, 247), (248, 0, 249), (248, 1, 250), (248, 2, 251), (248, 3, 252), (248, 4, 253), (248, 5, 254), (248, 6, 255), (256, 0, 257), (256, 1, 259), (256, 2, 261), (256, 3, 262), (257, 0, 258), (259, 0, 260), (263, 0, 264), (263, 1, 267), (264, 0, 265), (264, 1, 266), (268, 0, 269), (268, 1, 270)]
theorem mainR_n : ∀ t ∈ mainR, t.1 ≠ 2 ∧ t.1 ≠ 42 := by decide
def KO (R : mR) : Prop := (∀ i, i < 5 → ∃ j, j < 5 ∧ R 42 i = 43 + 40 * j) ∧ ∀ i i', i < 5 → i' < 5 → i ≠ i' → R 42 i ≠ R 42 i'
def RO (R : mR) : Prop := (∀ t ∈ mainR, R t.1 t.2.1 = t.2.2) ∧ SO R 1 ∧ (∀ j, j < 5 → SO R (43 + 40 * j)) ∧ KO R
theorem RO.f {R : mR} (h : RO R) {a k v : Nat} (ht : (a, k, v) ∈ mainR) : R a k = v := h.1 (a, k, v) ht
theorem TO.cong {R R' : mR} {t c : Nat} (h : TO R t c) (he : R' t = R t) : TO R' t c := by unfold TO; rw [he]; exact h
theorem QO.cong {R R' : mR} {q : Nat} (h : QO R q) (he : ∀ a, q ≤ a → a ≤ q + 6 → R' a = R a) : QO R' q := by
  obtain ⟨h1, h2, h3, h4, h5⟩ := h
  exact ⟨by rw [he q (by omega) (by omega)]; exact h1, by rw [he q (by omega) (by omega)]; exact h2, h3.cong (he _ (by omega) (by omega)), h4.cong (he _ (by omega) (by omega)), h5⟩
theorem SO.perm {R R' : mR} {st : Nat} (h : SO R st) (he : ∀ a, st ≤ a → a ≤ st + 39 → a ≠ st + 1 → R' a = R a) (σ : Nat → Nat) (h5 : ∀ i, i < 5 → σ i < 5) (hi : ∀ i j, i < 5 → j < 5 → i ≠ j → σ i ≠ σ j) (hr : ∀ i, i < 5 → R' (st + 1) i = R (st + 1) (σ i)) : SO R' st := by
  obtain ⟨s0, s1, s2, s3, s4, s5, s6⟩ := h
  refine ⟨by rw [he st (by omega) (by omega) (by omega)]; exact s0, by rw [he st (by omega) (by omega) (by omega)]; exact s1, s2, s3.cong (he _ (by omega) (by omega) (by omega)), s4, fun r hr5 => ?_, fun r r' hr5 hr5' hn => ?_⟩
  · rw [hr r hr5]
    obtain ⟨t1, t2, t3⟩ := s5 (σ r) (h5 r hr5)
    exact ⟨t1.cong (fun a h1 h2 => he a (by omega) (by omega) (by omega)), t2, t3⟩
  · rw [hr r hr5, hr r' hr5']
    exact s6 _ _ (h5 r hr5) (h5 r' hr5') (hi r r' hr5 hr5' hn)
theorem SO.cong {R R' : mR} {st : Nat} (h : SO R st) (he : ∀ a, st ≤ a → a ≤ st + 39 → R' a = R a) : SO R' st := h.perm (fun a h1 h2 _ => he a h1 h2) (fun i => i) (fun _ h => h) (fun _ _ _ _ h => h) (fun i _ => by rw [he _ (by omega) (by omega)])
/-- references that lie otherwise in the row of kept states -/
theorem RO.up42 {R R' : mR} (h : RO R) (he : ∀ a, a ≠ 42 → R' a = R a) (hk : KO R') : RO R' := by
  obtain ⟨h1, h2, h3, h4⟩ := h
  refine ⟨fun t ht => by rw [he _ (mainR_n t ht).2]; exact h1 t ht, h2.cong (fun a x y => he a (by omega)), fun j hj => (h3 j hj).cong (fun a x y => he a (by omega)), hk⟩
theorem RO.up2 {R R' : mR} (h : RO R) (he : ∀ a, a ≠ 2 → R' a = R a) (σ : Nat → Nat) (h5 : ∀ i, i < 5 → σ i < 5) (hi : ∀ i j, i < 5 → j < 5 → i ≠ j → σ i ≠ σ j) (hr : ∀ i, i < 5 → R' 2 i = R 2 (σ i)) : RO R' := by
  obtain ⟨h1, h2, h3, h4⟩ := h
  refine ⟨fun t ht => by rw [he _ (mainR_n t ht).1]; exact h1 t ht, h2.perm (fun a x y z => he a (by omega)) σ h5 hi hr, fun j hj => (h3 j hj).cong (fun a x y => he a (by omega)), ?_⟩
  unfold KO
  rw [he 42 (by decide)]
  exact h4
theorem RO.kept {R : mR} (h : RO R) {i : Nat} (hi : i < 5) : SO R (R 42 i) ∧ 43 ≤ R 42 i ∧ R 42 i + 39 ≤ 242 := by
  obtain ⟨j, hj, e⟩ := h.2.2.2.1 i hi
  rw [e]
  exact ⟨h.2.2.1 j hj, by omega, by omega⟩
theorem RO.apart {R : mR} (h : RO R) {i i' : Nat} (hi : i < 5) (hi' : i' < 5) (hn : i ≠ i') : R 42 i + 40 ≤ R 42 i' ∨ R 42 i' + 40 ≤ R 42 i := by
  obtain ⟨j, hj, e⟩ := h.2.2.2.1 i hi
  obtain ⟨j', hj', e'⟩ := h.2.2.2.1 i' hi'
  have := h.2.2.2.2 i i' hi hi' hn
  omega
def SnC (I : mI) (R : mR) (st : Nat) (s : Sn) : Prop := RsC I R st s.1 ∧ TmC I (st + 2) s.2
theorem SnC.cong {I I' : mI} {R R' : mR} {st : Nat} {s : Sn} (hS : SO R st) (hn : s.1.length ≤ 5) (h : SnC I R st s) (hI : ∀ a, st ≤ a → a ≤ st + 39 → I' a = I a) (hR : R' (st + 1) = R (st + 1)) : SnC I' R' st s := by
  refine ⟨?_, h.2.cong (hI _ (by omega) (by omega)) (hI _ (by omega) (by omega)) (hI _ (by omega) (by omega))⟩
  have := h.1.cong hS hn (I' := I') (by rw [hI st (by omega) (by omega)]) (fun a x y => hI a (by omega) (by omega))
  unfold RsC at this ⊢
  rw [hR]
  exact this
theorem copyR_ok {d s : Nat} {R : mR} (hd : QO R d) (hs : QO R s) (hap : d + 7 ≤ s ∨ s + 7 ≤ d) {I : mI} {u : Ru} (h : RuC I s u) (h1 : u.1.length ≤ 12) (h2 : u.2.length ≤ 12) : ∃ I', f_X3_copyFrom d s I R = some I' ∧ RuC I' d u ∧ ∀ a, (a < d ∨ d + 6 < a) → I' a = I a := by
  obtain ⟨d0, d1, d2, d3, d4⟩ := hd
  obtain ⟨s0, s1, s2, s3, s4⟩ := hs
  obtain ⟨I1, e1, e2, e3⟩ := copyT_ok d2 s2 (by omega) h.1 h1 h1
  obtain ⟨I2, f1, f2, f3⟩ := copyT_ok d3 s3 (by omega) (h.2.cong (e3 _ (by omega) (by omega) (by omega)) (e3 _ (by omega) (by omega) (by omega)) (e3 _ (by omega) (by omega) (by omega))) h2 h2
  refine ⟨I2, ?_, ⟨e2.cong (f3 _ (by omega) (by omega) (by omega)) (f3 _ (by omega) (by omega) (by omega)) (f3 _ (by omega) (by omega) (by omega)), f2⟩, fun a ha => by rw [f3 a (by omega) (by omega) (by omega), e3 a (by omega) (by omega) (by omega)]⟩
  unfold f_X3_copyFrom
  rw [d0, s0, d1, s1, e1, bd1_s, f1]
  rfl
theorem copyS_L {d s : Nat} {R : mR} (hd : SO R d) (hs : SO R s) (hap : d + 40 ≤ s ∨ s + 40 ≤ d) {rs : List Ru} (hr : RsOK rs) :
    ∀ (q n r : Nat) (I : mI), rs.length - r = q → q < n → r ≤ rs.length → I d 2 = nI rs.length → RsC I R s rs → (∀ j, j < r → RuC I (R (d + 1) j) (rs.getD j dRu)) →
      ∃ I', f_X7_copyFrom_L10 n d s (nI r) I R = some I' ∧ (∀ j, j < rs.length → RuC I' (R (d + 1) j) (rs.getD j dRu)) ∧ ∀ a, (a < d + 5 ∨ d + 39 < a) → I' a = I a := by
  have hr5 := hr.1
  obtain ⟨d0, d1, d2, d3, d4, d5, d6⟩ := id hd
  obtain ⟨s0, s1, s2, s3, s4, s5, s6⟩ := id hs
  intro q
  induction q with
  | zero =>
    intro n r I h1 h2 h3 h4 h5 h6
    obtain ⟨n, rfl⟩ : ∃ q, n = q + 1 := ⟨n - 1, by omega⟩
    refine ⟨I, ?_, fun j hj => h6 j (by omega), fun _ _ => rfl⟩
    rw [f_X7_copyFrom_L10, h4, if_pos (nI_le (by omega) (by omega))]
  | succ q ih =>
    intro n r I h1 h2 h3 h4 h5 h6
    obtain ⟨n, rfl⟩ : ∃ q, n = q + 1 := ⟨n - 1, by omega⟩
    have hk : r < rs.length := by omega
    have hu := hr.get hk
    obtain ⟨x1, x2, x3⟩ := d5 r (by omega)
    obtain ⟨y1, y2, y3⟩ := s5 r (by omega)
    rw [f_X7_copyFrom_L10, h4, if_neg (nI_ge (by omega) (by omega)), d0, s0, d2, s2, if_pos (inb_nI (by omega) (by omega)), if_pos (inb_nI (by omega) (by omega)), nI_clamp (by omega)]
    obtain ⟨I1, e1, e2, e3⟩ := copyR_ok x1 y1 (by omega) (h5.2 r hk) hu.2.2.1 hu.2.2.2.1
    rw [e1, bd1_s, nI_1 r]
    obtain ⟨I2, f1, f2, f3⟩ := ih n (r + 1) I1 (by omega) (by omega) (by omega) (by rw [e3 d (by omega)]; exact h4) (h5.cong hs hr5 (by rw [e3 s (by omega)]) (fun a z1 z2 => e3 a (by omega))) (fun j hj => by
      by_cases hjr : j = r
      · rw [hjr]; exact e2
      · have := d6 j r (by omega) (by omega) hjr
        exact (h6 j (by omega)).cong (fun a z1 z2 => e3 a (by omega)))
    exact ⟨I2, f1, f2, fun a ha => by rw [f3 a ha, e3 a (by omega)]⟩
theorem copyS_ok {d s : Nat} {R : mR} (hd : SO R d) (hs : SO R s) (hap : d + 40 ≤ s ∨ s + 40 ≤ d) {sn : Sn} (hr : SnOK sn) {I : mI} (h : SnC I R s sn) : ∃ I', f_X7_copyFrom d s I R = some I' ∧ SnC I' R d sn ∧ ∀ a, (a < d ∨ d + 39 < a) → I' a = I a := by
  obtain ⟨d0, d1, d2, d3, d4, d5, d6⟩ := id hd
  obtain ⟨s0, s1, s2, s3, s4, s5, s6⟩ := id hs
  have hr5 := hr.1.1
  have t1 : ∀ a, a ≠ d → u2 I d 2 (nI sn.1.length) a = I a := fun a ha => by rw [u2_n _ _ _ ha]
  obtain ⟨I1, e1, e2, e3⟩ := copyS_L hd hs hap hr.1 sn.1.length FU 0 (u2 I d 2 (nI sn.1.length)) (by omega) (by rw [FU_eq]; omega) (by omega) (by rw [u2_e]) (h.1.cong hs hr5 (by rw [t1 s (by omega)]) (fun a z1 z2 => t1 a (by omega))) (fun j hj => by omega)
  obtain ⟨I2, f1, f2, f3⟩ := copyT_ok (I := I1) d3 s3 (by omega) (h.2.cong (by rw [e3 _ (by omega), t1 _ (by omega)]) (by rw [e3 _ (by omega), t1 _ (by omega)]) (by rw [e3 _ (by omega), t1 _ (by omega)])) hr.2.2 hr.2.2
  refine ⟨I2, ?_, ⟨⟨by rw [f3 d (by omega) (by omega) (by omega), e3 d (by omega), u2_e], fun r hr2 => ?_⟩, f2⟩, fun a ha => by rw [f3 a (by omega) (by omega) (by omega), e3 a (by omega), t1 a (by omega)]⟩
  · unfold f_X7_copyFrom
    simp only [bnd]
    rw [nI0] at e1
    rw [h.1.1, e1, bd1_s, d1, s1, f1]
    rfl
  · obtain ⟨x1, x2, x3⟩ := d5 r (by omega)
    exact (e2 r hr2).cong (fun a z1 z2 => f3 a (by omega) (by omega) (by omega))
/-- the kept states -/
def HsC (I : mI) (R : mR) (ps : List Sn) : Prop := I 41 1 = nI ps.length ∧ ∀ i, i < ps.length → SnC I R (R 42 i) (ps.getD i dSn)
def HOK (ps : List Sn) : Prop := ps.length ≤ 5 ∧ ∀ i, i < ps.length → SnOK (ps.getD i dSn)
def pushS (ps : List Sn) (s : Sn) : List Sn := (if ps.length = 5 then ps.drop 1 else ps) ++ [s]
theorem gD_drop {α : Type} (d : α) {l : List α} {k j : Nat} : (l.drop k).getD j d = l.getD (k + j) d := by
  rw [List.getD_eq_getElem?_getD, List.getD_eq_getElem?_getD, List.getElem?_drop]
theorem gD_app_l {α : Type} (d : α) {l r : List α} {k : Nat} (h : k < l.length) : (l ++ r).getD k d = l.getD k d := by
  rw [List.getD_eq_getElem?_getD, List.getD_eq_getElem?_getD, List.getElem?_append_left h]
theorem gD_app_e {α : Type} (d : α) {l : List α} {x : α} : (l ++ [x]).getD l.length d = x := by
  rw [List.getD_eq_getElem?_getD, List.getElem?_append_right (by omega), Nat.sub_self]
  rfl
theorem HOK.push {ps : List Sn} {s : Sn} (h : HOK ps) (hs : SnOK s) : HOK (pushS ps s) := by
  unfold pushS
  have key : ∀ qs : List Sn, qs.length < 5 → (∀ i, i < qs.length → SnOK (qs.getD i dSn)) → HOK (qs ++ [s]) := by
    intro qs h1 h2
    refine ⟨by rw [List.length_append, List.length_singleton]; omega, fun i hi => ?_⟩
    rw [List.length_append, List.length_singleton] at hi
    by_cases he : i = qs.length
    · rw [he, gD_app_e]; exact hs
    · rw [gD_app_l _ (by omega)]; exact h2 i (by omega)
  by_cases h5 : ps.length = 5
  · rw [if_pos h5]
    exact key _ (by rw [List.length_drop]; omega) (fun i hi => by rw [List.length_drop] at hi; rw [gD_drop]; exact h.2 _ (by omega))
  · rw [if_neg h5]
    have := h.1
    exact key _ (by omega) h.2
theorem loseS {n k x1 : Nat} {I : mI} {R : mR} (hR : R 41 0 = 42) (hk : k < 4) : f_X1_loseOldest_L9 (n + 1) 41 x1 (nI k) I R = f_X1_loseOldest_L9 n 41 x1 (nI (k + 1)) I (u2 R 42 k (R 42 (k + 1))) := by
  rw [f_X1_loseOldest_L9]
  simp only [bnd]
  rw [nI_1 k, show (5 : Int32) = nI 5 from rfl, if_neg (nI_ge (by omega) (by omega)), hR, show lnC 42 = 5 from rfl, if_pos (inb_nI (by omega) (by omega)), if_pos (inb_nI (by omega) (by omega)), nI_clamp (show k < 2 ^ 31 by omega), nI_clamp (show k + 1 < 2 ^ 31 by omega)]
theorem loseC_ok {I : mI} {R : mR} {ps : List Sn} (hR : RO R) (h : HsC I R ps) (hO : HOK ps) (h5 : ps.length = 5) : ∃ I' R', f_X1_loseOldest 41 I R = some (I', R') ∧ RO R' ∧ (∀ a, a ≠ 42 → R' a = R a) ∧ HsC I' R' (ps.drop 1) ∧ ∀ a, a ≠ 41 → I' a = I a := by
  have h42 : R 41 0 = 42 := hR.f (by decide)
  have up : ∀ (k v : Nat) (S : mR), S 41 0 = 42 → u2 S 42 k v 41 0 = 42 := fun k v S hS => by rw [u2_n _ _ _ (by decide)]; exact hS
  have e : f_X1_loseOldest_L9 FU 41 (R 42 0) 0 I R = some (u2 (u2 (u2 (u2 R 42 0 (R 42 1)) 42 1 (R 42 2)) 42 2 (R 42 3)) 42 3 (R 42 4)) := by
    rw [FU_eq, ← nI0, loseS h42 (by decide), loseS (up _ _ _ h42) (by decide), loseS (up _ _ _ (up _ _ _ h42)) (by decide), loseS (up _ _ _ (up _ _ _ (up _ _ _ h42))) (by decide), f_X1_loseOldest_L9, if_pos (by decide)]
    simp only [u2_s, va_up_n _ _ (show (2 : Nat) ≠ 0 by decide), va_up_n _ _ (show (2 : Nat) ≠ 1 by decide), va_up_n _ _ (show (3 : Nat) ≠ 0 by decide), va_up_n _ _ (show (3 : Nat) ≠ 1 by decide), va_up_n _ _ (show (3 : Nat) ≠ 2 by decide), va_up_n _ _ (show (4 : Nat) ≠ 0 by decide), va_up_n _ _ (show (4 : Nat) ≠ 1 by decide), va_up_n _ _ (show (4 : Nat) ≠ 2 by decide), va_up_n _ _ (show (4 : Nat) ≠ 3 by decide)]
  refine ⟨u2 I 41 1 (nI 4), u2 (u2 (u2 (u2 (u2 R 42 0 (R 42 1)) 42 1 (R 42 2)) 42 2 (R 42 3)) 42 3 (R 42 4)) 42 4 (R 42 0), ?_, ?_⟩
  · unfold f_X1_loseOldest
    simp only [bnd]
    rw [h42, show lnC 42 = 5 from rfl, if_pos (show inb 0 5 = true from rfl), i0, e, bd1_s, up _ _ _ (up _ _ _ (up _ _ _ (up _ _ _ h42))), show lnC 42 = 5 from rfl, if_pos (show inb 4 5 = true from rfl), h.1, h5]
    rfl
  · generalize hS : u2 (u2 (u2 (u2 (u2 R 42 0 (R 42 1)) 42 1 (R 42 2)) 42 2 (R 42 3)) 42 3 (R 42 4)) 42 4 (R 42 0) = S
    have ho : ∀ a, a ≠ 42 → S a = R a := fun a ha => by rw [← hS, u2_n _ _ _ ha, u2_n _ _ _ ha, u2_n _ _ _ ha, u2_n _ _ _ ha, u2_n _ _ _ ha]
    have hS4 : S 42 4 = R 42 0 := by rw [← hS, u2_e]
    have hSi : ∀ i, i < 4 → S 42 i = R 42 (i + 1) := by
      intro i hi
      rw [← hS]
      obtain rfl | rfl | rfl | rfl : i = 0 ∨ i = 1 ∨ i = 2 ∨ i = 3 := by omega
      · rw [u2_o _ _ _ (by decide), u2_o _ _ _ (by decide), u2_o _ _ _ (by decide), u2_o _ _ _ (by decide), u2_e]
      · rw [u2_o _ _ _ (by decide), u2_o _ _ _ (by decide), u2_o _ _ _ (by decide), u2_e]
      · rw [u2_o _ _ _ (by decide), u2_o _ _ _ (by decide), u2_e]
      · rw [u2_o _ _ _ (by decide), u2_e]
    have hSx : ∀ i, i < 5 → ∃ j, j < 5 ∧ S 42 i = R 42 j ∧ (i < 4 → j = i + 1) ∧ (i = 4 → j = 0) := by
      intro i hi
      by_cases h4 : i < 4
      · exact ⟨i + 1, by omega, hSi i h4, fun _ => rfl, fun q => by omega⟩
      · have : i = 4 := by omega
        subst this
        exact ⟨0, by decide, hS4, fun q => by omega, fun _ => rfl⟩
    have hKO : KO S := by
      refine ⟨fun i hi => ?_, fun i i' hi hi' hn => ?_⟩
      · obtain ⟨j, hj, e1, -⟩ := hSx i hi
        rw [e1]
        exact hR.2.2.2.1 j hj
      · obtain ⟨j, hj, e1, e2, e3⟩ := hSx i hi
        obtain ⟨j', hj', e1', e2', e3'⟩ := hSx i' hi'
        rw [e1, e1']
        refine hR.2.2.2.2 j j' hj hj' (fun q => ?_)
        by_cases h4 : i < 4
        · have := e2 h4
          by_cases h4' : i' < 4
          · have := e2' h4'; omega
          · have := e3' (by omega); omega
        · have := e3 (by omega)
          by_cases h4' : i' < 4
          · have := e2' h4'; omega
          · omega
    refine ⟨hR.up42 ho hKO, ho, ⟨by rw [u2_e, List.length_drop, h5], fun i hi => ?_⟩, fun a ha => by rw [u2_n _ _ _ ha]⟩
    rw [List.length_drop] at hi
    rw [hSi i (by omega), gD_drop, Nat.add_comm 1 i]
    obtain ⟨k1, k2, k3⟩ := hR.kept (i := i + 1) (by omega)
    exact (h.2 (i + 1) (by omega)).cong k1 (hO.2 (i + 1) (by omega)).1.1 (fun a x y => by rw [u2_n _ _ _ (by omega)]) (ho _ (by omega))
theorem keepC_ok {I : mI} {R : mR} {ps : List Sn} {sn : Sn} (hR : RO R) (h : HsC I R ps) (hO : HOK ps) (hn : SnC I R 1 sn) (hs : SnOK sn) : ∃ I' R', f_X1_keep 41 1 I R = some (I', R') ∧ RO R' ∧ (∀ a, a ≠ 42 → R' a = R a) ∧ HsC I' R' (pushS ps sn) ∧ ∀ a, (a < 41 ∨ 242 < a) → I' a = I a := by
  have main : ∀ (J : mI) (S : mR) (qs : List Sn), RO S → HsC J S qs → (∀ i, i < qs.length → SnOK (qs.getD i dSn)) → qs.length < 5 → SnC J S 1 sn → ∃ I', (if inb (J 41 1) (lnC (S 41 0)) = true then (bd1 (f_X7_copyFrom (S (S 41 0) ((J 41 1)).toNatClampNeg) 1 J S) (fun I5 => (bnd (u2 I5 41 1 ((I5 41 1) + (1 : Int32))) (fun I6 => (some (I6, S)))))) else none) = some (I', S) ∧ HsC I' S (qs ++ [sn]) ∧ ∀ a, (a < 41 ∨ 242 < a) → I' a = J a := by
    intro J S qs hS h1 h2 h3 h4
    obtain ⟨k1, k2, k3⟩ := hS.kept (i := qs.length) (by omega)
    obtain ⟨I1, e1, e2, e3⟩ := copyS_ok k1 hS.2.1 (by omega) hs h4
    refine ⟨u2 I1 41 1 (nI (qs.length + 1)), ?_, ⟨by rw [u2_e, List.length_append]; rfl, fun i hi => ?_⟩, fun a ha => by rw [u2_n _ _ _ (by omega), e3 a (by omega)]⟩
    · rw [h1.1, hS.f (a := 41) (k := 0) (v := 42) (by decide), show lnC 42 = 5 from rfl, if_pos (inb_nI (by omega) (by omega)), nI_clamp (by omega), e1, bd1_s, e3 41 (by omega), h1.1, nI_1]
      rfl
    · rw [List.length_append, List.length_singleton] at hi
      by_cases he : i = qs.length
      · rw [he, gD_app_e]
        exact e2.cong k1 hs.1.1 (fun a x y => by rw [u2_n _ _ _ (by omega)]) rfl
      · rw [gD_app_l _ (by omega)]
        obtain ⟨m1, m2, m3⟩ := hS.kept (i := i) (by omega)
        have ap := hS.apart (i := i) (i' := qs.length) (by omega) (by omega) he
        exact (h1.2 i (by omega)).cong m1 (h2 i (by omega)).1.1 (fun a x y => by rw [u2_n _ _ _ (by omega), e3 a (by omega)]) rfl
  unfold f_X1_keep pushS
  by_cases h5 : ps.length = 5
  · obtain ⟨I1, R1, e1, e2, e3, e4, e5⟩ := loseC_ok hR h hO h5
    obtain ⟨I2, f1, f2, f3⟩ := main I1 R1 (ps.drop 1) e2 e4 (fun i hi => by rw [List.length_drop] at hi; rw [gD_drop]; exact hO.2 _ (by omega)) (by rw [List.length_drop]; omega) (hn.cong hR.2.1 hs.1.1 (fun a x y => e5 a (by omega)) (e3 _ (by decide)))
    refine ⟨I2, R1, ?_, e2, e3, by rw [if_pos h5]; exact f2, fun a ha => by rw [f3 a ha, e5 a (by omega)]⟩
    rw [h.1, h5, e1]
    exact f1
  · have hl := hO.1
    obtain ⟨I2, f1, f2, f3⟩ := main I R ps hR h hO.2 (by omega) hn
    refine ⟨I2, R, ?_, hR, fun _ _ => rfl, by rw [if_neg h5]; exact f2, f3⟩
    simp only [bnd] at f1 ⊢
    rw [if_neg (show ¬ I 41 1 = 5 from fun q => h5 (nI_inj (b := 5) (by omega) (by omega) (h.1.symm.trans q)))]
    exact f1
theorem giveC_ok {I : mI} {R : mR} {ps : List Sn} (hR : RO R) (h : HsC I R ps) (hO : HOK ps) (hp : 0 < ps.length) : ∃ I', f_X1_giveBack 41 1 I R = some I' ∧ SnC I' R 1 (ps.getD (ps.length - 1) dSn) ∧ HsC I' R (ps.take (ps.length - 1)) ∧ ∀ a, ((a < 1 ∨ 40 < a) ∧ a ≠ 41) → I' a = I a := by
  have hl := hO.1
  obtain ⟨k1, k2, k3⟩ := hR.kept (i := ps.length - 1) (by omega)
  have hst : ∀ i, i < ps.length → SnC (u2 I 41 1 (nI (ps.length - 1))) R (R 42 i) (ps.getD i dSn) := by
    intro i hi
    obtain ⟨m1, m2, m3⟩ := hR.kept (i := i) (by omega)
    exact (h.2 i hi).cong m1 (hO.2 i hi).1.1 (fun a x y => by rw [u2_n _ _ _ (by omega)]) rfl
  obtain ⟨I1, e1, e2, e3⟩ := copyS_ok hR.2.1 k1 (by omega) (hO.2 (ps.length - 1) (by omega)) (hst (ps.length - 1) (by omega))
  refine ⟨I1, ?_, e2, ⟨by rw [e3 41 (by omega), u2_e, List.length_take]; congr 1; omega, fun i hi => ?_⟩, fun a ha => by rw [e3 a (by omega), u2_n _ _ _ ha.2]⟩
  · unfold f_X1_giveBack
    simp only [bnd]
    rw [h.1, show (1 : Int32) = nI 1 from rfl, nI_sub (by omega), u2_e, hR.f (a := 41) (k := 0) (v := 42) (by decide), show lnC 42 = 5 from rfl, if_pos (inb_nI (by omega) (by omega)), nI_clamp (by omega), e1]
    rfl
  · rw [List.length_take] at hi
    obtain ⟨m1, m2, m3⟩ := hR.kept (i := i) (by omega)
    have hg : (ps.take (ps.length - 1)).getD i dSn = ps.getD i dSn := by
      rw [List.getD_eq_getElem?_getD, List.getD_eq_getElem?_getD, List.getElem?_take, if_pos (by omega)]
    rw [hg]
    exact (hst i (by omega)).cong m1 (hO.2 i (by omega)).1.1 (fun a x y => e3 a (by omega)) rfl
