/-! ===== heads and calls: the model ===== -/
theorem hdM_L {rs : List Ru} {I : mI} (hr : RsOK rs) (hM : RsM (I 1) rs) :
    ∀ (q n r : Nat) (s : Int32), rs.length - r = q → q < n → r ≤ rs.length → f_X11_heads_L4 n 0 s (nI r) I R1M = some (hvF s (rs.drop r)) := by
  have hr5 := hr.1
  intro q
  induction q with
  | zero =>
    intro n r s h1 h2 h3
    obtain ⟨n, rfl⟩ : ∃ x, n = x + 1 := ⟨n - 1, by omega⟩
    rw [f_X11_heads_L4, mr0, lm1, if_pos (show inb 0 192 = true from rfl), i0, hM.1, if_pos (nI_le (by omega) (by omega)), List.drop_of_length_le (by omega)]
    rfl
  | succ q ih =>
    intro n r s h1 h2 h3
    obtain ⟨n, rfl⟩ : ∃ x, n = x + 1 := ⟨n - 1, by omega⟩
    have hk : r < rs.length := by omega
    have hu := hr.get hk
    have hd : rs.drop r = rs.getD r dRu :: rs.drop (r + 1) := by
      rw [List.drop_eq_getElem_cons hk, List.getD_eq_getElem?_getD, List.getElem?_eq_getElem hk]
      rfl
    have h0 := (hM.2 r hk).2.2.1 0 hu.1.pos
    rw [Nat.add_zero] at h0
    rw [f_X11_heads_L4, mr0, lm1, if_pos (show inb 0 192 = true from rfl), i0, hM.1, if_neg (nI_ge (by omega) (by omega)), leftOf_ok, bd1_s, if_pos (inb_nI (by omega) (by omega)), nI_clamp (by omega), h0, nI_1 r, ih n (r + 1) _ (by omega) (by omega) (by omega), hd]
    rfl
theorem hdM_ok {rs : List Ru} {I : mI} (hr : RsOK rs) (hM : RsM (I 1) rs) : f_X11_heads 0 I R1M = some (hv rs) := by
  unfold f_X11_heads
  have hr5 := hr.1
  have e := hdM_L hr hM rs.length FU 0 0 (by omega) (by rw [FU_eq]; omega) (by omega)
  rw [nI0, List.drop_zero] at e
  rw [e]
  rfl
theorem isHdM {rs : List Ru} {I : mI} (hr : RsOK rs) (hM : RsM (I 1) rs) (c : Int32) : f_X11_isHead 0 c I R1M = some (if hb (hv rs) c = true then 1 else 0) := by
  unfold f_X11_isHead
  rw [hdM_ok hr hM, bd1_s]
  unfold hb
  by_cases h : ((hv rs >>> ((c - 97) &&& 31)) &&& 1) = 1
  · rw [if_pos h, if_pos (decide_eq_true h)]
  · rw [if_neg h, if_neg (fun q => h (of_decide_eq_true q))]
/-- how many calls a right side has -/
theorem rtM_L {rs : List Ru} {I : mI} {r : Nat} (hr : RsOK rs) (hM : RsM (I 1) rs) (hk : r < rs.length) :
    ∀ (q n k s : Nat), (rs.getD r dRu).2.length - k = q → q < n → k ≤ (rs.getD r dRu).2.length → f_X11_ruleTold_L109 n 0 (nI r) (nI s) (nI k) I R1M = some (nI (s + (csF (hv rs) r ((rs.getD r dRu).2.drop k) k).length)) := by
  have hr5 := hr.1
  have hu := hr.get hk
  have hu12 := hu.2.2.2.1
  intro q
  induction q with
  | zero =>
    intro n k s h1 h2 h3
    obtain ⟨n, rfl⟩ : ∃ x, n = x + 1 := ⟨n - 1, by omega⟩
    rw [f_X11_ruleTold_L109, mr0, rightLong_ok lm1 (by omega), bd1_s, (hM.2 r hk).2.1, if_pos (nI_le (by omega) (by omega)), List.drop_of_length_le (by omega)]
    rfl
  | succ q ih =>
    intro n k s h1 h2 h3
    obtain ⟨n, rfl⟩ : ∃ x, n = x + 1 := ⟨n - 1, by omega⟩
    have hkk : k < (rs.getD r dRu).2.length := by omega
    rw [f_X11_ruleTold_L109]
    simp only [bnd]
    rw [mr0, rightLong_ok lm1 (by omega), bd1_s, (hM.2 r hk).2.1, if_neg (nI_ge (by omega) (by omega)), rightOf_ok, bd1_s, nI_add, lm1, if_pos (inb_nI (by omega) (by omega)), nI_clamp (by omega), (hM.2 r hk).2.2.2 k hkk, isHdM hr hM, bd1_s, nI_1 k, drop_c hkk]
    by_cases hh : hb (hv rs) ((rs.getD r dRu).2.getD k 0) = true
    · have hcs : csF (hv rs) r ((rs.getD r dRu).2.getD k 0 :: (rs.getD r dRu).2.drop (k + 1)) k = (r, k) :: csF (hv rs) r ((rs.getD r dRu).2.drop (k + 1)) (k + 1) := by
        show (if hb (hv rs) ((rs.getD r dRu).2.getD k 0) = true then _ else _) = _
        rw [if_pos hh]
      rw [if_pos hh, if_neg n10, nI_1 s, hcs, ih n (k + 1) (s + 1) (by omega) (by omega) (by omega), List.length_cons]
      congr 2
      omega
    · have hcs : csF (hv rs) r ((rs.getD r dRu).2.getD k 0 :: (rs.getD r dRu).2.drop (k + 1)) k = csF (hv rs) r ((rs.getD r dRu).2.drop (k + 1)) (k + 1) := by
        show (if hb (hv rs) ((rs.getD r dRu).2.getD k 0) = true then _ else _) = _
        rw [if_neg hh]
      have hz : nI s + 0 = nI s := by grind
      rw [if_neg hh, if_pos rfl, hz, hcs, ih n (k + 1) s (by omega) (by omega) (by omega)]
theorem ctP {cs : List (Nat × Nat)} {r : Nat} : ∀ n, fb_ct (ofP cs r) n = ((cs.take n).filter (fun x => decide (x.1 = r))).length
  | 0 => by rw [List.take_zero]; rfl
  | n + 1 => by
    rw [fb_ct_succ, ctP n]
    unfold ofP
    by_cases h : n < cs.length
    · rw [List.take_succ, List.getElem?_eq_getElem h, List.filter_append, List.length_append]
      have hg : cs.getD n dC = cs[n] := by rw [List.getD_eq_getElem?_getD, List.getElem?_eq_getElem h]; rfl
      rw [hg]
      by_cases h2 : (cs[n]).1 = r
      · simp [h, h2]
      · simp [h, h2]
    · rw [List.take_of_length_le (show cs.length ≤ n by omega), List.take_of_length_le (show cs.length ≤ n + 1 by omega)]
      simp [h]
theorem csF_fil {h : Int32} {r r' : Nat} (l : List Int32) (p : Nat) : (csF h r l p).filter (fun x => decide (x.1 = r')) = if r = r' then csF h r l p else [] := by
  by_cases he : r = r'
  · rw [if_pos he, List.filter_eq_self]
    intro x hx
    rw [(csF_mem _ _ _ hx).1]
    exact decide_eq_true he
  · rw [if_neg he, List.filter_eq_nil_iff]
    intro x hx q
    have := of_decide_eq_true q
    rw [(csF_mem _ _ _ hx).1] at this
    exact he this
theorem csA_fil {h : Int32} : ∀ (us : List Ru) (r k : Nat), k < us.length → (csA h us r).filter (fun x => decide (x.1 = r + k)) = csF h (r + k) (us.getD k dRu).2 0
  | [], r, k, hk => by cases hk
  | u :: us, r, k, hk => by
    show (csF h r u.2 0 ++ csA h us (r + 1)).filter _ = _
    rw [List.filter_append, csF_fil]
    cases k with
    | zero =>
      rw [Nat.add_zero, if_pos rfl]
      have : (csA h us (r + 1)).filter (fun x => decide (x.1 = r)) = [] := by
        rw [List.filter_eq_nil_iff]
        intro x hx q
        have h1 := of_decide_eq_true q
        have h2 := (csA_mem _ _ _ hx).1
        omega
      rw [this, List.append_nil]
      rfl
    | succ k =>
      rw [if_neg (by omega), List.nil_append, show r + (k + 1) = r + 1 + k by omega]
      exact csA_fil us (r + 1) k (by rw [List.length_cons] at hk; omega)
theorem ofP_ct {rs : List Ru} {r : Nat} (hr : RsOK rs) (hk : r < rs.length) : fb_ct (ofP (callsS rs) r) 64 = (csF (hv rs) r (rs.getD r dRu).2 0).length := by
  have h60 := callsS_len hr
  rw [ctP, List.take_of_length_le (by omega)]
  have := csA_fil (h := hv rs) rs 0 r hk
  rw [Nat.zero_add] at this
  unfold callsS
  rw [this]
/-- calls collected so far -/
def CkM (I : mI) (cs : List (Nat × Nat)) : Prop := I 0 18 = nI cs.length ∧ ∀ i, i < cs.length → I 12 i = nI (cs.getD i dC).1 ∧ I 13 i = nI (15 + 26 * (cs.getD i dC).1 + (cs.getD i dC).2)
def FrCk (I' I : mI) : Prop := (∀ a, a ≠ 0 → a ≠ 12 → a ≠ 13 → I' a = I a) ∧ ∀ k, k ≠ 18 → I' 0 k = I 0 k
theorem FrCk.rfl' (I : mI) : FrCk I I := ⟨fun _ _ _ _ => rfl, fun _ _ => rfl⟩
theorem FrCk.trans {I I' I'' : mI} (h : FrCk I'' I') (h' : FrCk I' I) : FrCk I'' I := ⟨fun a x y z => (h.1 a x y z).trans (h'.1 a x y z), fun k x => (h.2 k x).trans (h'.2 k x)⟩
theorem lcM_in {rs : List Ru} {ρ : Nat → Int32} {r : Nat} (hr : RsOK rs) (hM : RsM ρ rs) (hk : r < rs.length) :
    ∀ (q n k : Nat) (I : mI) (cs : List (Nat × Nat)), (rs.getD r dRu).2.length - k = q → q < n → k ≤ (rs.getD r dRu).2.length → I 1 = ρ → CkM I cs → cs.length + q ≤ 60 →
      ∃ I', f_X11_laysCalls_L19 n 0 (nI r) (nI k) I R1M = some I' ∧ CkM I' (cs ++ csF (hv rs) r ((rs.getD r dRu).2.drop k) k) ∧ FrCk I' I := by
  have hr5 := hr.1
  have hu := hr.get hk
  have hu12 := hu.2.2.2.1
  intro q
  induction q with
  | zero =>
    intro n k I cs h1 h2 h3 h4 h5 h6
    obtain ⟨n, rfl⟩ : ∃ x, n = x + 1 := ⟨n - 1, by omega⟩
    refine ⟨I, ?_, ?_, FrCk.rfl' I⟩
    · rw [f_X11_laysCalls_L19, mr0, rightLong_ok lm1 (by omega), bd1_s, h4, (hM.2 r hk).2.1, if_pos (nI_le (by omega) (by omega))]
    · rw [List.drop_of_length_le (by omega), show csF (hv rs) r [] k = [] from rfl, List.append_nil]; exact h5
  | succ q ih =>
    intro n k I cs h1 h2 h3 h4 h5 h6
    obtain ⟨n, rfl⟩ : ∃ x, n = x + 1 := ⟨n - 1, by omega⟩
    have hkk : k < (rs.getD r dRu).2.length := by omega
    have hM' : RsM (I 1) rs := by rw [h4]; exact hM
    rw [f_X11_laysCalls_L19]
    simp only [bnd]
    rw [mr0, rightLong_ok lm1 (by omega), bd1_s, h4, (hM.2 r hk).2.1, if_neg (nI_ge (by omega) (by omega)), rightOf_ok, bd1_s, nI_add, lm1, if_pos (inb_nI (by omega) (by omega)), nI_clamp (show 15 + 26 * r + k < 2 ^ 31 by omega), (hM.2 r hk).2.2.2 k hkk, isHdM hr hM', bd1_s, nI_1 k, drop_c hkk]
    by_cases hh : hb (hv rs) ((rs.getD r dRu).2.getD k 0) = true
    · have hcs : csF (hv rs) r ((rs.getD r dRu).2.getD k 0 :: (rs.getD r dRu).2.drop (k + 1)) k = (r, k) :: csF (hv rs) r ((rs.getD r dRu).2.drop (k + 1)) (k + 1) := by
        show (if hb (hv rs) ((rs.getD r dRu).2.getD k 0) = true then _ else _) = _
        rw [if_pos hh]
      rw [if_pos hh, if_neg n10, h5.1, mr16, mr17, lm12, lm13, if_pos (inb_nI (by omega) (by omega)), nI_clamp (show cs.length < 2 ^ 31 by omega), bd1_s, u2_n _ _ _ (show (0 : Nat) ≠ 12 by decide), h5.1, if_pos (inb_nI (by omega) (by omega)), nI_clamp (show cs.length < 2 ^ 31 by omega), nI_add, u2_n _ _ _ (show (0 : Nat) ≠ 13 by decide), u2_n _ _ _ (show (0 : Nat) ≠ 12 by decide), h5.1, nI_1]
      generalize hJ : u2 (u2 (u2 I 12 cs.length (nI r)) 13 cs.length (nI (15 + 26 * r + k))) 0 18 (nI (cs.length + 1)) = J
      have FJ : FrCk J I := ⟨fun a x y z => by rw [← hJ, u2_n _ _ _ x, u2_n _ _ _ z, u2_n _ _ _ y], fun k x => by rw [← hJ, u2_o _ _ _ x, u2_n _ _ _ (by decide), u2_n _ _ _ (by decide)]⟩
      have hC : CkM J (cs ++ [(r, k)]) := by
        refine ⟨by rw [← hJ, u2_e, List.length_append]; rfl, fun i hi => ?_⟩
        rw [List.length_append, List.length_singleton] at hi
        have j1 : J 12 = u2 I 12 cs.length (nI r) 12 := by rw [← hJ, u2_n _ _ _ (by decide), u2_n _ _ _ (by decide)]
        have j2 : J 13 = u2 (u2 I 12 cs.length (nI r)) 13 cs.length (nI (15 + 26 * r + k)) 13 := by rw [← hJ, u2_n _ _ _ (by decide)]
        rw [j1, j2]
        by_cases hi2 : i = cs.length
        · rw [hi2, u2_e, u2_e, gD_app_e]
          exact ⟨rfl, rfl⟩
        · rw [u2_o _ _ _ hi2, u2_o _ _ _ hi2, u2_n _ _ _ (by decide), gD_app_l _ (by omega)]
          exact h5.2 i (by omega)
      obtain ⟨I', e1, e2, e3⟩ := ih n (k + 1) J (cs ++ [(r, k)]) (by omega) (by omega) (by omega) (by rw [FJ.1 1 (by decide) (by decide) (by decide)]; exact h4) hC (by rw [List.length_append, List.length_singleton]; omega)
      rw [List.append_assoc] at e2
      exact ⟨I', e1, by rw [hcs]; exact e2, e3.trans FJ⟩
    · have hcs : csF (hv rs) r ((rs.getD r dRu).2.getD k 0 :: (rs.getD r dRu).2.drop (k + 1)) k = csF (hv rs) r ((rs.getD r dRu).2.drop (k + 1)) (k + 1) := by
        show (if hb (hv rs) ((rs.getD r dRu).2.getD k 0) = true then _ else _) = _
        rw [if_neg hh]
      rw [if_neg hh, if_pos rfl, hcs]
      exact ih n (k + 1) I cs (by omega) (by omega) (by omega) h4 h5 (by omega)
theorem lcM_L {rs : List Ru} {ρ : Nat → Int32} (hr : RsOK rs) (hM : RsM ρ rs) :
    ∀ (q n r : Nat) (I : mI) (cs : List (Nat × Nat)), rs.length - r = q → q < n → r ≤ rs.length → I 1 = ρ → CkM I cs → cs.length ≤ 12 * r →
      ∃ I', f_X11_laysCalls_L7 n 0 (nI r) I R1M = some I' ∧ CkM I' (cs ++ csA (hv rs) (rs.drop r) r) ∧ FrCk I' I := by
  have hr5 := hr.1
  intro q
  induction q with
  | zero =>
    intro n r I cs h1 h2 h3 h4 h5 h6
    obtain ⟨n, rfl⟩ : ∃ x, n = x + 1 := ⟨n - 1, by omega⟩
    refine ⟨I, ?_, ?_, FrCk.rfl' I⟩
    · rw [f_X11_laysCalls_L7, mr0, lm1, if_pos (show inb 0 192 = true from rfl), i0, h4, hM.1, if_pos (nI_le (by omega) (by omega))]
    · rw [List.drop_of_length_le (by omega), show csA (hv rs) [] r = [] from rfl, List.append_nil]; exact h5
  | succ q ih =>
    intro n r I cs h1 h2 h3 h4 h5 h6
    obtain ⟨n, rfl⟩ : ∃ x, n = x + 1 := ⟨n - 1, by omega⟩
    have hk : r < rs.length := by omega
    have hu12 := (hr.get hk).2.2.2.1
    have hd : rs.drop r = rs.getD r dRu :: rs.drop (r + 1) := by
      rw [List.drop_eq_getElem_cons hk, List.getD_eq_getElem?_getD, List.getElem?_eq_getElem hk]
      rfl
    obtain ⟨I1, e1, e2, e3⟩ := lcM_in hr hM hk (rs.getD r dRu).2.length FU 0 I cs (by omega) (by rw [FU_eq]; omega) (by omega) h4 h5 (by omega)
    rw [nI0] at e1
    rw [List.drop_zero] at e2
    have hlen := csF_len (hv rs) r (rs.getD r dRu).2 0
    obtain ⟨I2, f1, f2, f3⟩ := ih n (r + 1) I1 (cs ++ csF (hv rs) r (rs.getD r dRu).2 0) (by omega) (by omega) (by omega) (by rw [e3.1 1 (by decide) (by decide) (by decide)]; exact h4) e2 (by rw [List.length_append]; omega)
    rw [f_X11_laysCalls_L7, mr0, lm1, if_pos (show inb 0 192 = true from rfl), i0, h4, hM.1, if_neg (nI_ge (by omega) (by omega)), e1, bd1_s, nI_1 r, hd, show csA (hv rs) (rs.getD r dRu :: rs.drop (r + 1)) r = csF (hv rs) r (rs.getD r dRu).2 0 ++ csA (hv rs) (rs.drop (r + 1)) (r + 1) from rfl, ← List.append_assoc]
    exact ⟨I2, f1, f2, f3.trans e3⟩
