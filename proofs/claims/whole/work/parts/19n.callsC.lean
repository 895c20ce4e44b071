/-! ===== calls: the class collects them ===== -/
def BkO (R : mR) : Prop := R 248 0 = 249 ∧ R 248 1 = 250 ∧ R 248 2 = 251 ∧ R 248 3 = 252 ∧ R 248 4 = 253 ∧ R 248 5 = 254 ∧ R 248 6 = 255
theorem RO.bk {R : mR} (h : RO R) : BkO R := ⟨h.f (by decide), h.f (by decide), h.f (by decide), h.f (by decide), h.f (by decide), h.f (by decide), h.f (by decide)⟩
theorem lc249 : lnC 249 = 60 := rfl
theorem lc250 : lnC 250 = 60 := rfl
theorem lc251 : lnC 251 = 60 := rfl
theorem lc252 : lnC 252 = 60 := rfl
theorem lc253 : lnC 253 = 60 := rfl
theorem lc254 : lnC 254 = 5 := rfl
theorem lc255 : lnC 255 = 60 := rfl
/-- rules as they lie in now -/
def NoC (I : mI) (R : mR) (rs : List Ru) : Prop := I 1 2 = nI rs.length ∧ ∀ r, r < rs.length → RuC I (R 2 r) (rs.getD r dRu)
theorem NoC.cong {I I' : mI} {R : mR} {rs : List Ru} (hR : RO R) (hn : rs.length ≤ 5) (h : NoC I R rs) (he : ∀ a, a < 41 → I' a = I a) : NoC I' R rs := by
  obtain ⟨s0, s1, s2, s3, s5, s6⟩ := hR.now
  refine ⟨by rw [he 1 (by decide)]; exact h.1, fun r hr => ?_⟩
  obtain ⟨z1, z2, z3⟩ := s5 r (by omega)
  exact (h.2 r hr).cong (fun a x y => he a (by omega))
theorem fhC_L {R : mR} {rs : List Ru} (hR : RO R) (hr : RsOK rs) :
    ∀ (q n r : Nat) (I : mI), rs.length - r = q → q < n → r ≤ rs.length → NoC I R rs → ∃ I', f_X0_findHeads_L7 n 248 1 (nI r) I R = some I' ∧ I' 248 7 = hvF (I 248 7) (rs.drop r) ∧ (∀ a, a ≠ 248 → I' a = I a) ∧ ∀ k, k ≠ 7 → I' 248 k = I 248 k := by
  obtain ⟨s0, s1, s2, s3, s5, s6⟩ := hR.now
  have hr5 := hr.1
  intro q
  induction q with
  | zero =>
    intro n r I h1 h2 h3 h4
    obtain ⟨n, rfl⟩ : ∃ q, n = q + 1 := ⟨n - 1, by omega⟩
    refine ⟨I, ?_, ?_, fun _ _ => rfl, fun _ _ => rfl⟩
    · rw [f_X0_findHeads_L7, h4.1, if_pos (nI_le (by omega) (by omega))]
    · rw [List.drop_of_length_le (by omega)]; rfl
  | succ q ih =>
    intro n r I h1 h2 h3 h4
    obtain ⟨n, rfl⟩ : ∃ q, n = q + 1 := ⟨n - 1, by omega⟩
    have hk : r < rs.length := by omega
    obtain ⟨z1, z2, z3⟩ := s5 r (by omega)
    obtain ⟨q1, q2, q3, q4, q5⟩ := z1
    have hu := hr.get hk
    have hd : rs.drop r = rs.getD r dRu :: rs.drop (r + 1) := by
      rw [List.drop_eq_getElem_cons hk, List.getD_eq_getElem?_getD, List.getElem?_eq_getElem hk]
      rfl
    rw [f_X0_findHeads_L7]
    simp only [bnd]
    rw [h4.1, if_neg (nI_ge (by omega) (by omega)), s0, s2, if_pos (inb_nI (by omega) (by omega)), nI_clamp (by omega), q1, q3.1, q3.2.2.1, if_pos (show inb 0 12 = true from rfl), i0, (h4.2 r hk).1.2.1 0 hu.1.pos, nI_1 r]
    obtain ⟨I', e1, e2, e3, e4⟩ := ih n (r + 1) (u2 I 248 7 ((I 248 7) ||| ((1 : Int32) <<< (((rs.getD r dRu).1.getD 0 0 - 97) &&& 31)))) (by omega) (by omega) (by omega) (h4.cong hR hr5 (fun a ha => by rw [u2_n _ _ _ (by omega)]))
    refine ⟨I', e1, ?_, fun a ha => by rw [e3 a ha, u2_n _ _ _ ha], fun k hk => by rw [e4 k hk, u2_o _ _ _ hk]⟩
    rw [e2, u2_e, hd]
    rfl
theorem fhC_ok {R : mR} {rs : List Ru} (hR : RO R) (hr : RsOK rs) {I : mI} (h4 : NoC I R rs) : ∃ I', f_X0_findHeads 248 1 I R = some I' ∧ I' 248 7 = hv rs ∧ (∀ a, a ≠ 248 → I' a = I a) ∧ ∀ k, k ≠ 7 → I' 248 k = I 248 k := by
  have hr5 := hr.1
  obtain ⟨I', e1, e2, e3, e4⟩ := fhC_L hR hr rs.length FU 0 (u2 I 248 7 0) (by omega) (by rw [FU_eq]; omega) (by omega) (h4.cong hR hr5 (fun a ha => by rw [u2_n _ _ _ (by omega)]))
  refine ⟨I', ?_, ?_, fun a ha => by rw [e3 a ha, u2_n _ _ _ ha], fun k hk => by rw [e4 k hk, u2_o _ _ _ hk]⟩
  · unfold f_X0_findHeads
    simp only [bnd]
    rw [nI0] at e1
    rw [e1]
    rfl
  · rw [e2, u2_e, List.drop_zero]
    rfl
/-- calls collected so far -/
def CkC (I : mI) (cs : List (Nat × Nat)) : Prop := I 248 8 = nI cs.length ∧ ∀ i, i < cs.length → I 249 i = nI (cs.getD i dC).1 ∧ I 250 i = nI (cs.getD i dC).2
def FrK (I' I : mI) : Prop := (∀ a, a ≠ 248 → a ≠ 249 → a ≠ 250 → I' a = I a) ∧ ∀ k, k ≠ 8 → I' 248 k = I 248 k
theorem FrK.rfl' (I : mI) : FrK I I := ⟨fun _ _ _ _ => rfl, fun _ _ => rfl⟩
theorem FrK.trans {I I' I'' : mI} (h : FrK I'' I') (h' : FrK I' I) : FrK I'' I := ⟨fun a x y z => (h.1 a x y z).trans (h'.1 a x y z), fun k x => (h.2 k x).trans (h'.2 k x)⟩
theorem NoC.frK {I I' : mI} {R : mR} {rs : List Ru} (hR : RO R) (hn : rs.length ≤ 5) (h : NoC I R rs) (hf : FrK I' I) : NoC I' R rs := h.cong hR hn (fun a ha => hf.1 a (by omega) (by omega) (by omega))
theorem coC_in {R : mR} {t r : Nat} {h : Int32} {l : List Int32} (hB : BkO R) (hT : TO R t 12) (ht : t + 2 < 243) (hl : l.length ≤ 12) (hv2 : VLs l) (hr : r < 5) :
    ∀ (q n k : Nat) (I : mI) (L : mL) (cs : List (Nat × Nat)), l.length - k = q → q < n → k ≤ l.length → TmC I t l → I 248 7 = h → CkC I cs → cs.length + q ≤ 60 → (∀ r', r' ≤ r → BS (L 254 r') (ofP cs r')) →
      ∃ I' L', f_X0_collect_L35 n 248 1 (nI r) t (nI k) I L R = some (I', L') ∧ CkC I' (cs ++ csF h r (l.drop k) k) ∧ (∀ r', r' ≤ r → BS (L' 254 r') (ofP (cs ++ csF h r (l.drop k) k) r')) ∧ FrK I' I ∧ (∀ a, a ≠ 254 → L' a = L a) ∧ ∀ k, r < k → L' 254 k = L 254 k := by
  obtain ⟨b0, b1, b2, b3, b4, b5, b6⟩ := hB
  obtain ⟨t0, t1, t2, t3, t4⟩ := id hT
  intro q
  induction q with
  | zero =>
    intro n k I L cs h1 h2 h3 h4 h5 h6 h7 h8
    obtain ⟨n, rfl⟩ : ∃ q, n = q + 1 := ⟨n - 1, by omega⟩
    refine ⟨I, L, ?_, ?_, ?_, FrK.rfl' I, fun _ _ => rfl, fun _ _ => rfl⟩
    · rw [f_X0_collect_L35, h4.1, if_pos (nI_le (by omega) (by omega))]
    · rw [List.drop_of_length_le (by omega), show csF h r [] k = [] from rfl, List.append_nil]; exact h6
    · rw [List.drop_of_length_le (by omega), show csF h r [] k = [] from rfl, List.append_nil]; exact h8
  | succ q ih =>
    intro n k I L cs h1 h2 h3 h4 h5 h6 h7 h8
    obtain ⟨n, rfl⟩ : ∃ q, n = q + 1 := ⟨n - 1, by omega⟩
    have hk : k < l.length := by omega
    rw [f_X0_collect_L35]
    simp only [bnd]
    rw [h4.1, if_neg (nI_ge (by omega) (by omega)), t0, t2, if_pos (inb_nI (by omega) (by omega)), nI_clamp (show k < 2 ^ 31 by omega), h4.2.1 k hk, isHdC h5 (VLs_get hv2 hk), bd1_s, nI_1 k, drop_c hk]
    by_cases hh : hb h (l.getD k 0) = true
    · have hcs : csF h r (l.getD k 0 :: l.drop (k + 1)) k = (r, k) :: csF h r (l.drop (k + 1)) (k + 1) := by
        show (if hb h (l.getD k 0) = true then _ else _) = _
        rw [if_pos hh]
      rw [if_pos hh, if_neg n10, h6.1, show (60 : Int32) = nI 60 from rfl, if_neg (nI_ge (by omega) (by omega)), b0, b1, b5, lc249, lc250, lc254, if_pos (inb_nI (by omega) (by omega)), nI_clamp (show cs.length < 2 ^ 31 by omega), u2_n _ _ _ (show (248 : Nat) ≠ 249 by decide), h6.1, if_pos (inb_nI (by omega) (by omega)), nI_clamp (show cs.length < 2 ^ 31 by omega), if_pos (inb_nI (by omega) (by omega)), nI_clamp (show r < 2 ^ 31 by omega), u2_n _ _ _ (show (248 : Nat) ≠ 250 by decide), u2_n _ _ _ (show (248 : Nat) ≠ 249 by decide), h6.1, nI_1]
      generalize hJ : u2 (u2 (u2 I 249 cs.length (nI r)) 250 cs.length (nI k)) 248 8 (nI (cs.length + 1)) = J
      generalize hM : u2 L 254 r (L 254 r ||| (1 : Int64) <<< ((nI cs.length).toInt64 &&& 63)) = M
      have FJ : FrK J I := ⟨fun a x y z => by rw [← hJ, u2_n _ _ _ x, u2_n _ _ _ z, u2_n _ _ _ y], fun k x => by rw [← hJ, u2_o _ _ _ x, u2_n _ _ _ (by decide), u2_n _ _ _ (by decide)]⟩
      have hC : CkC J (cs ++ [(r, k)]) := by
        refine ⟨by rw [← hJ, u2_e, List.length_append]; rfl, fun i hi => ?_⟩
        rw [List.length_append, List.length_singleton] at hi
        have j1 : J 249 = u2 I 249 cs.length (nI r) 249 := by rw [← hJ, u2_n _ _ _ (by decide), u2_n _ _ _ (by decide)]
        have j2 : J 250 = u2 (u2 I 249 cs.length (nI r)) 250 cs.length (nI k) 250 := by rw [← hJ, u2_n _ _ _ (by decide)]
        rw [j1, j2]
        by_cases hi2 : i = cs.length
        · rw [hi2, u2_e, u2_e, gD_app_e]
          exact ⟨rfl, rfl⟩
        · rw [u2_o _ _ _ hi2, u2_o _ _ _ hi2, u2_n _ _ _ (by decide), gD_app_l _ (by omega)]
          exact h6.2 i (by omega)
      have hS : ∀ r', r' ≤ r → BS (M 254 r') (ofP (cs ++ [(r, k)]) r') := by
        intro r' hr'
        by_cases he : r' = r
        · subst he
          rw [← hM, u2_e]
          exact (BS_or (h8 r' (Nat.le_refl _)) (BS_bit (by omega))).cong (fun i _ => (ofP_app).symm)
        · rw [← hM, u2_o _ _ _ he]
          exact (h8 r' hr').cong (fun i _ => (ofP_o he).symm)
      obtain ⟨I', L', e1, e2, e3, e4, e5, e6⟩ := ih n (k + 1) J M (cs ++ [(r, k)]) (by omega) (by omega) (by omega) (h4.cong (FJ.1 _ (by omega) (by omega) (by omega)) (FJ.1 _ (by omega) (by omega) (by omega)) (FJ.1 _ (by omega) (by omega) (by omega))) (by rw [FJ.2 7 (by decide)]; exact h5) hC (by rw [List.length_append, List.length_singleton]; omega) hS
      rw [List.append_assoc] at e2 e3
      refine ⟨I', L', e1, by rw [hcs]; exact e2, by rw [hcs]; exact e3, e4.trans FJ, fun a ha => by rw [e5 a ha, ← hM, u2_n _ _ _ ha], fun x hx => by rw [e6 x hx, ← hM, u2_o _ _ _ (by omega)]⟩
    · have hcs : csF h r (l.getD k 0 :: l.drop (k + 1)) k = csF h r (l.drop (k + 1)) (k + 1) := by
        show (if hb h (l.getD k 0) = true then _ else _) = _
        rw [if_neg hh]
      rw [if_neg hh, if_pos rfl, hcs]
      exact ih n (k + 1) I L cs (by omega) (by omega) (by omega) h4 h5 h6 (by omega) h8
theorem ofP_none {cs : List (Nat × Nat)} {r : Nat} (h : ∀ x ∈ cs, x.1 < r) (i : Nat) : ofP cs r i = false := by
  unfold ofP
  apply decide_eq_false
  intro q
  have := h _ (gD_mem dC q.1)
  omega
theorem coC_L {R : mR} {rs : List Ru} {h : Int32} (hR : RO R) (hr : RsOK rs) :
    ∀ (q n r : Nat) (I : mI) (L : mL) (cs : List (Nat × Nat)), rs.length - r = q → q < n → r ≤ rs.length → NoC I R rs → I 248 7 = h → CkC I cs → cs.length ≤ 12 * r → (∀ x ∈ cs, x.1 < r) → (∀ r', r' < r → BS (L 254 r') (ofP cs r')) →
      ∃ I' L', f_X0_collect_L7 n 248 1 (nI r) I L R = some (I', L') ∧ CkC I' (cs ++ csA h (rs.drop r) r) ∧ (∀ r', r' < rs.length → BS (L' 254 r') (ofP (cs ++ csA h (rs.drop r) r) r')) ∧ FrK I' I ∧ (∀ a, a ≠ 254 → L' a = L a) := by
  obtain ⟨s0, s1, s2, s3, s5, s6⟩ := hR.now
  have hr5 := hr.1
  have hB := hR.bk
  intro q
  induction q with
  | zero =>
    intro n r I L cs h1 h2 h3 h4 h5 h6 h7 h8 h9
    obtain ⟨n, rfl⟩ : ∃ q, n = q + 1 := ⟨n - 1, by omega⟩
    refine ⟨I, L, ?_, ?_, ?_, FrK.rfl' I, fun _ _ => rfl⟩
    · rw [f_X0_collect_L7, h4.1, if_pos (nI_le (by omega) (by omega))]
    · rw [List.drop_of_length_le (by omega), show csA h [] r = [] from rfl, List.append_nil]; exact h6
    · rw [List.drop_of_length_le (by omega), show csA h [] r = [] from rfl, List.append_nil]; exact fun r' hr' => h9 r' (by omega)
  | succ q ih =>
    intro n r I L cs h1 h2 h3 h4 h5 h6 h7 h8 h9
    obtain ⟨n, rfl⟩ : ∃ q, n = q + 1 := ⟨n - 1, by omega⟩
    have hk : r < rs.length := by omega
    obtain ⟨z1, z2, z3⟩ := s5 r (by omega)
    obtain ⟨q1, q2, q3, q4, q5⟩ := z1
    have hu := hr.get hk
    have hu12 := hu.2.2.2.1
    have hd : rs.drop r = rs.getD r dRu :: rs.drop (r + 1) := by
      rw [List.drop_eq_getElem_cons hk, List.getD_eq_getElem?_getD, List.getElem?_eq_getElem hk]
      rfl
    rw [f_X0_collect_L7]
    simp only [bnd]
    rw [h4.1, if_neg (nI_ge (by omega) (by omega)), hB.2.2.2.2.2.1, lc254, if_pos (inb_nI (by omega) (by omega)), nI_clamp (by omega), s0, s2, if_pos (inb_nI (by omega) (by omega)), q2]
    obtain ⟨I1, L1, e1, e2, e3, e4, e5, e6⟩ := coC_in (h := h) hB q4 (by omega) hu12 hu.2.1.2 (show r < 5 by omega) (rs.getD r dRu).2.length FU 0 I (u2 L 254 r 0) cs (by omega) (by rw [FU_eq]; omega) (by omega) (h4.2 r hk).2 h5 h6 (by omega) (fun r' hr' => by
      by_cases he : r' = r
      · rw [he, u2_e]
        exact BS_0.cong (fun i _ => (ofP_none h8 i).symm)
      · rw [u2_o _ _ _ he]
        exact h9 r' (by omega))
    rw [nI0] at e1
    rw [List.drop_zero] at e2 e3
    have hlen := csF_len h r (rs.getD r dRu).2 0
    obtain ⟨I2, L2, f1, f2, f3, f4, f5⟩ := ih n (r + 1) I1 L1 (cs ++ csF h r (rs.getD r dRu).2 0) (by omega) (by omega) (by omega) (h4.frK hR hr5 e4) (by rw [e4.2 7 (by decide)]; exact h5) e2 (by rw [List.length_append]; omega) (fun x hx => (List.mem_append.mp hx).elim (fun w => by have := h8 x w; omega) (fun w => by have := (csF_mem _ _ _ w).1; omega)) (fun r' hr' => e3 r' (by omega))
    rw [e1, bd2_s, nI_1 r, hd, show csA h (rs.getD r dRu :: rs.drop (r + 1)) r = csF h r (rs.getD r dRu).2 0 ++ csA h (rs.drop (r + 1)) (r + 1) from rfl, ← List.append_assoc]
    exact ⟨I2, L2, f1, f2, f3, f4.trans e4, fun a ha => by rw [f5 a ha, e5 a ha, u2_n _ _ _ ha]⟩
theorem coC_ok {R : mR} {rs : List Ru} (hR : RO R) (hr : RsOK rs) {I : mI} {L : mL} (h4 : NoC I R rs) (h5 : I 248 7 = hv rs) :
    ∃ I' L', f_X0_collect 248 1 I L R = some (I', L') ∧ CkC I' (callsS rs) ∧ (∀ r', r' < rs.length → BS (L' 254 r') (ofP (callsS rs) r')) ∧ FrK I' I ∧ (∀ a, a ≠ 254 → L' a = L a) := by
  have hr5 := hr.1
  have F0 : FrK (u2 I 248 8 0) I := ⟨fun a x _ _ => by rw [u2_n _ _ _ x], fun k x => by rw [u2_o _ _ _ x]⟩
  obtain ⟨I', L', e1, e2, e3, e4, e5⟩ := coC_L (h := hv rs) hR hr rs.length FU 0 (u2 I 248 8 0) L [] (by omega) (by rw [FU_eq]; omega) (by omega) (h4.frK hR hr5 F0) (by rw [F0.2 7 (by decide)]; exact h5) ⟨by rw [u2_e]; rfl, fun i hi => by cases hi⟩ (Nat.zero_le _) (fun x hx => by cases hx) (fun r' hr' => by omega)
  rw [List.drop_zero, List.nil_append] at e2 e3
  refine ⟨I', L', ?_, e2, e3, e4.trans F0, e5⟩
  unfold f_X0_collect
  simp only [bnd]
  rw [nI0] at e1
  rw [e1]
  rfl
