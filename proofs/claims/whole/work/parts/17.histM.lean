/-! ===== states: the model ===== -/
theorem copiesM_L {a b o1 o2 : Nat} (hab : a ≠ b) (h1 : o1 + 192 ≤ lnM a) (h2 : o2 + 192 ≤ lnM b) (h3 : lnM a ≤ 5000) (h4 : lnM b ≤ 5000) :
    ∀ (q n k : Nat) (I : mI), 192 - k = q → q < n → k ≤ 192 → ∃ I', f_X11_copies_L3 n a (nI o1) b (nI o2) (nI k) I = some I' ∧ (∀ j, k ≤ j → j < 192 → I' b (o2 + j) = I a (o1 + j)) ∧ (∀ j, (j < o2 + k ∨ o2 + 192 ≤ j) → I' b j = I b j) ∧ ∀ c, c ≠ b → I' c = I c := by
  intro q
  induction q with
  | zero =>
    intro n k I g1 g2 g3
    obtain ⟨n, rfl⟩ : ∃ q, n = q + 1 := ⟨n - 1, by omega⟩
    refine ⟨I, ?_, fun j hj hj2 => by omega, fun _ _ => rfl, fun _ _ => rfl⟩
    rw [f_X11_copies_L3, show (192 : Int32) = nI 192 from rfl, if_pos (nI_le (by omega) (by omega))]
  | succ q ih =>
    intro n k I g1 g2 g3
    obtain ⟨n, rfl⟩ : ∃ q, n = q + 1 := ⟨n - 1, by omega⟩
    rw [f_X11_copies_L3]
    simp only [bnd]
    rw [show (192 : Int32) = nI 192 from rfl, if_neg (nI_ge (by omega) (by omega)), nI_add, nI_add, if_pos (inb_nI (by omega) (by omega)), if_pos (inb_nI (by omega) (by omega)), nI_clamp (show o1 + k < 2 ^ 31 by omega), nI_clamp (show o2 + k < 2 ^ 31 by omega), nI_1 k]
    obtain ⟨I', e1, e2, e3, e4⟩ := ih n (k + 1) (u2 I b (o2 + k) (I a (o1 + k))) (by omega) (by omega) (by omega)
    refine ⟨I', e1, fun j hj hj2 => ?_, fun j hj => by rw [e3 j (by omega), u2_o _ _ _ (by omega)], fun c hc => by rw [e4 c hc, u2_n _ _ _ hc]⟩
    by_cases hk : j = k
    · rw [hk, e3 _ (by omega), u2_e]
    · rw [e2 j (by omega) hj2, u2_n _ _ _ hab]
theorem copiesM_ok {a b o1 o2 : Nat} (hab : a ≠ b) (h1 : o1 + 192 ≤ lnM a) (h2 : o2 + 192 ≤ lnM b) (h3 : lnM a ≤ 5000) (h4 : lnM b ≤ 5000) (I : mI) :
    ∃ I', f_X11_copies a (nI o1) b (nI o2) I = some I' ∧ (∀ j, j < 192 → I' b (o2 + j) = I a (o1 + j)) ∧ (∀ j, (j < o2 ∨ o2 + 192 ≤ j) → I' b j = I b j) ∧ ∀ c, c ≠ b → I' c = I c := by
  obtain ⟨I', e1, e2, e3, e4⟩ := copiesM_L hab h1 h2 h3 h4 192 FU 0 I (by omega) (by rw [FU_eq]; omega) (by omega)
  refine ⟨I', ?_, fun j hj => e2 j (by omega) hj, fun j hj => e3 j (by omega), e4⟩
  unfold f_X11_copies
  rw [nI0] at e1
  rw [e1]
  rfl
def SnM (ρ : Nat → Int32) (s : Sn) : Prop := RsM ρ s.1 ∧ WhM ρ s.2
theorem RuM.cong {ρ ρ' : Nat → Int32} {r r' : Nat} {u : Ru} (h : RuM ρ r u) (h1 : u.1.length ≤ 12) (h2 : u.2.length ≤ 12) (he : ∀ j, j < 26 → ρ' (1 + 26 * r' + j) = ρ (1 + 26 * r + j)) : RuM ρ' r' u := by
  obtain ⟨a1, a2, a3, a4⟩ := h
  refine ⟨?_, ?_, fun k hk => ?_, fun k hk => ?_⟩
  · have := he 0 (by omega)
    rw [Nat.add_zero, Nat.add_zero] at this
    rw [this]; exact a1
  · have := he 1 (by omega)
    rw [show 1 + 26 * r' + 1 = 2 + 26 * r' by omega, show 1 + 26 * r + 1 = 2 + 26 * r by omega] at this
    rw [this]; exact a2
  · have := he (2 + k) (by omega)
    rw [show 1 + 26 * r' + (2 + k) = 3 + 26 * r' + k by omega, show 1 + 26 * r + (2 + k) = 3 + 26 * r + k by omega] at this
    rw [this]; exact a3 k hk
  · have := he (14 + k) (by omega)
    rw [show 1 + 26 * r' + (14 + k) = 15 + 26 * r' + k by omega, show 1 + 26 * r + (14 + k) = 15 + 26 * r + k by omega] at this
    rw [this]; exact a4 k hk
theorem RsM.cong {ρ ρ' : Nat → Int32} {rs : List Ru} (h : RsM ρ rs) (hr : RsOK rs) (he : ∀ j, j < 131 → ρ' j = ρ j) : RsM ρ' rs := by
  have h5 := hr.1
  refine ⟨by rw [he 0 (by decide)]; exact h.1, fun r hrl => ?_⟩
  have hu := hr.get hrl
  exact (h.2 r hrl).cong hu.2.2.1 hu.2.2.2.1 (fun j hj => he _ (by omega))
theorem WhM.cong {ρ ρ' : Nat → Int32} {l : List Int32} (h : WhM ρ l) (h60 : l.length ≤ 60) (he : ∀ j, 131 ≤ j → j < 192 → ρ' j = ρ j) : WhM ρ' l := ⟨by rw [he 131 (by decide) (by decide)]; exact h.1, fun k hk => by rw [he _ (by omega) (by omega)]; exact h.2 k hk⟩
theorem SnM.cong {ρ ρ' : Nat → Int32} {s : Sn} (h : SnM ρ s) (hs : SnOK s) (he : ∀ j, j < 192 → ρ' j = ρ j) : SnM ρ' s := ⟨h.1.cong hs.1 (fun j hj => he j (by omega)), h.2.cong hs.2.2 (fun j _ hj => he j hj)⟩
def HsM (I : mI) (ps : List Sn) : Prop := I 0 3 = nI ps.length ∧ ∀ i, i < ps.length → SnM (fun j => I 3 (192 * i + j)) (ps.getD i dSn)
theorem HsM.cong {I I' : mI} {ps : List Sn} (h : HsM I ps) (h0 : I' 0 3 = I 0 3) (h3 : I' 3 = I 3) : HsM I' ps := by
  unfold HsM
  rw [h0, h3]
  exact h
theorem remM_L : ∀ (q n k : Nat) (I : mI), 768 - k = q → q < n → k ≤ 768 → ∃ I', f_X11_remembers_L10 n 0 (nI k) I R1M = some I' ∧ (∀ j, k ≤ j → j < 768 → I' 3 j = I 3 (j + 192)) ∧ (∀ j, (j < k ∨ 768 ≤ j) → I' 3 j = I 3 j) ∧ ∀ c, c ≠ 3 → I' c = I c := by
  intro q
  induction q with
  | zero =>
    intro n k I g1 g2 g3
    obtain ⟨n, rfl⟩ : ∃ q, n = q + 1 := ⟨n - 1, by omega⟩
    refine ⟨I, ?_, fun j hj hj2 => by omega, fun _ _ => rfl, fun _ _ => rfl⟩
    rw [f_X11_remembers_L10, show (768 : Int32) = nI 768 from rfl, if_pos (nI_le (by omega) (by omega))]
  | succ q ih =>
    intro n k I g1 g2 g3
    obtain ⟨n, rfl⟩ : ∃ q, n = q + 1 := ⟨n - 1, by omega⟩
    rw [f_X11_remembers_L10]
    simp only [bnd]
    rw [show (768 : Int32) = nI 768 from rfl, if_neg (nI_ge (by omega) (by omega)), mr2, lm3, show (192 : Int32) = nI 192 from rfl, nI_add, if_pos (inb_nI (by omega) (by omega)), if_pos (inb_nI (by omega) (by omega)), nI_clamp (show k + 192 < 2 ^ 31 by omega), nI_clamp (show k < 2 ^ 31 by omega), nI_1 k]
    obtain ⟨I', e1, e2, e3, e4⟩ := ih n (k + 1) (u2 I 3 k (I 3 (k + 192))) (by omega) (by omega) (by omega)
    refine ⟨I', e1, fun j hj hj2 => ?_, fun j hj => by rw [e3 j (by omega), u2_o _ _ _ (by omega)], fun c hc => by rw [e4 c hc, u2_n _ _ _ hc]⟩
    by_cases hk : j = k
    · rw [hk, e3 _ (by omega), u2_e]
    · rw [e2 j (by omega) hj2, u2_o _ _ _ (by omega)]
theorem remM_1 {J : mI} {qs : List Sn} {sn : Sn} (h1 : HsM J qs) (hO : ∀ i, i < qs.length → SnOK (qs.getD i dSn)) (h5 : qs.length < 5) (hn : SnM (J 1) sn) (hs : SnOK sn) :
    ∃ I', (bd1 (f_X11_copies (R1M 0 0) (0 : Int32) (R1M 0 2) ((192 : Int32) * (J 0 3)) J) (fun I4 => (bnd (u2 I4 0 3 ((I4 0 3) + (1 : Int32))) (fun I5 => (some I5))))) = some I' ∧ HsM I' (qs ++ [sn]) ∧ (∀ a, a ≠ 0 → a ≠ 3 → I' a = J a) ∧ ∀ k, k ≠ 3 → I' 0 k = J 0 k := by
  obtain ⟨I1, e1, e2, e3, e4⟩ := copiesM_ok (a := 1) (b := 3) (o1 := 0) (o2 := 192 * qs.length) (by decide) (by rw [lm1]; omega) (by rw [lm3]; omega) (by rw [lm1]; omega) (by rw [lm3]; omega) J
  refine ⟨u2 I1 0 3 (nI (qs.length + 1)), ?_, ⟨by rw [u2_e, List.length_append]; rfl, fun i hi => ?_⟩, fun a x y => by rw [u2_n _ _ _ x, e4 a y], fun k x => by rw [u2_o _ _ _ x, e4 0 (by decide)]⟩
  · rw [mr0, mr2, h1.1, show (192 : Int32) = nI 192 from rfl, pk_mul, show (0 : Int32) = nI 0 from rfl, e1, bd1_s, e4 0 (by decide), h1.1, nI_1]
    rfl
  · rw [List.length_append, List.length_singleton] at hi
    by_cases he : i = qs.length
    · rw [he, gD_app_e]
      refine hn.cong hs (fun j hj => ?_)
      show u2 I1 0 3 (nI (qs.length + 1)) 3 (192 * qs.length + j) = J 1 j
      rw [u2_n _ _ _ (by decide), e2 j hj, Nat.zero_add]
    · rw [gD_app_l _ (by omega)]
      refine (h1.2 i (by omega)).cong (hO i (by omega)) (fun j hj => ?_)
      show u2 I1 0 3 (nI (qs.length + 1)) 3 (192 * i + j) = J 3 (192 * i + j)
      rw [u2_n _ _ _ (by decide), e3 _ (by omega)]
theorem remM_ok {I : mI} {ps : List Sn} {sn : Sn} (h : HsM I ps) (hO : HOK ps) (hn : SnM (I 1) sn) (hs : SnOK sn) : ∃ I', f_X11_remembers 0 I R1M = some I' ∧ HsM I' (pushS ps sn) ∧ (∀ a, a ≠ 0 → a ≠ 3 → I' a = I a) ∧ ∀ k, k ≠ 3 → I' 0 k = I 0 k := by
  unfold f_X11_remembers pushS
  simp only [bnd]
  have hl := hO.1
  by_cases h5 : ps.length = 5
  · rw [if_pos h5]
    obtain ⟨I1, e1, e2, e3, e4⟩ := remM_L 768 FU 0 I (by omega) (by rw [FU_eq]; omega) (by omega)
    have hH : HsM (u2 I1 0 3 (nI 4)) (ps.drop 1) := by
      refine ⟨by rw [u2_e, List.length_drop, h5], fun i hi => ?_⟩
      rw [List.length_drop] at hi
      rw [gD_drop]
      refine (h.2 (1 + i) (by omega)).cong (hO.2 _ (by omega)) (fun j hj => ?_)
      show u2 I1 0 3 (nI 4) 3 (192 * i + j) = I 3 (192 * (1 + i) + j)
      rw [u2_n _ _ _ (by decide), e2 _ (by omega) (by omega), show 192 * i + j + 192 = 192 * (1 + i) + j by omega]
    obtain ⟨I2, f1, f2, f3, f4⟩ := remM_1 (J := u2 I1 0 3 (nI 4)) (sn := sn) hH (fun i hi => by rw [List.length_drop] at hi; rw [gD_drop]; exact hO.2 _ (by omega)) (by rw [List.length_drop]; omega) (by rw [u2_n _ _ _ (by decide), e4 1 (by decide)]; exact hn) hs
    refine ⟨I2, ?_, f2, fun a x y => by rw [f3 a x y, u2_n _ _ _ x, e4 a y], fun k x => by rw [f4 k x, u2_o _ _ _ x, e4 0 (by decide)]⟩
    rw [nI0] at e1
    rw [if_pos (show I 0 3 = 5 by rw [h.1, h5]; rfl), e1, bd1_s, e4 0 (by decide), h.1, h5]
    exact f1
  · rw [if_neg h5, if_neg (show ¬ I 0 3 = 5 from fun q => h5 (nI_inj (b := 5) (by omega) (by omega) (h.1.symm.trans q)))]
    exact remM_1 h hO.2 (by omega) hn hs
/-- rules dropped and moved -/
theorem movesM_L {x y : Nat} (hx : x < 5) (hy : y < 5) (hxy : x ≠ y) :
    ∀ (q n k : Nat) (I : mI), 26 - k = q → q < n → k ≤ 26 → ∃ I', f_X11_movesRule_L2 n 0 (nI x) (nI y) (nI k) I R1M = some I' ∧ (∀ j, k ≤ j → j < 26 → I' 1 (1 + 26 * y + j) = I 1 (1 + 26 * x + j)) ∧ (∀ j, (j < 1 + 26 * y + k ∨ 1 + 26 * y + 26 ≤ j) → I' 1 j = I 1 j) ∧ ∀ c, c ≠ 1 → I' c = I c := by
  intro q
  induction q with
  | zero =>
    intro n k I g1 g2 g3
    obtain ⟨n, rfl⟩ : ∃ q, n = q + 1 := ⟨n - 1, by omega⟩
    refine ⟨I, ?_, fun j hj hj2 => by omega, fun _ _ => rfl, fun _ _ => rfl⟩
    rw [f_X11_movesRule_L2, show (26 : Int32) = nI 26 from rfl, if_pos (nI_le (by omega) (by omega))]
  | succ q ih =>
    intro n k I g1 g2 g3
    obtain ⟨n, rfl⟩ : ∃ q, n = q + 1 := ⟨n - 1, by omega⟩
    rw [f_X11_movesRule_L2]
    simp only [bnd]
    rw [show (26 : Int32) = nI 26 from rfl, if_neg (nI_ge (by omega) (by omega)), mr0, lm1, nI_1 k, pk_mul, pk_mul, show (1 : Int32) = nI 1 from rfl, nI_add, nI_add, nI_add, nI_add, if_pos (inb_nI (by omega) (by omega)), if_pos (inb_nI (by omega) (by omega)), nI_clamp (show 1 + 26 * x + k < 2 ^ 31 by omega), nI_clamp (show 1 + 26 * y + k < 2 ^ 31 by omega)]
    obtain ⟨I', e1, e2, e3, e4⟩ := ih n (k + 1) (u2 I 1 (1 + 26 * y + k) (I 1 (1 + 26 * x + k))) (by omega) (by omega) (by omega)
    refine ⟨I', e1, fun j hj hj2 => ?_, fun j hj => by rw [e3 j (by omega), u2_o _ _ _ (by omega)], fun c hc => by rw [e4 c hc, u2_n _ _ _ hc]⟩
    by_cases hk : j = k
    · rw [hk, e3 _ (by omega), u2_e]
    · rw [e2 j (by omega) hj2, u2_o _ _ _ (by omega)]
theorem movesM_ok {x y : Nat} (hx : x < 5) (hy : y < 5) (hxy : x ≠ y) (I : mI) : ∃ I', f_X11_movesRule 0 (nI x) (nI y) I R1M = some I' ∧ (∀ j, j < 26 → I' 1 (1 + 26 * y + j) = I 1 (1 + 26 * x + j)) ∧ (∀ j, (j < 1 + 26 * y ∨ 1 + 26 * y + 26 ≤ j) → I' 1 j = I 1 j) ∧ ∀ c, c ≠ 1 → I' c = I c := by
  obtain ⟨I', e1, e2, e3, e4⟩ := movesM_L hx hy hxy 26 FU 0 I (by omega) (by rw [FU_eq]; omega) (by omega)
  refine ⟨I', ?_, fun j hj => e2 j (by omega) hj, fun j hj => e3 j (by omega), e4⟩
  unfold f_X11_movesRule
  rw [nI0] at e1
  rw [e1]
  rfl
theorem dropsM_L {m : Nat} (hm : m ≤ 5) :
    ∀ (q n k : Nat) (I : mI), m - 1 - k = q → q < n → k < m → I 1 0 = nI m → ∃ I', f_X11_drops_L21 n 0 (nI k) I R1M = some I' ∧ (∀ i j, k ≤ i → i < m - 1 → j < 26 → I' 1 (1 + 26 * i + j) = I 1 (1 + 26 * (i + 1) + j)) ∧ (∀ j, (j < 1 + 26 * k ∨ 131 ≤ j) → I' 1 j = I 1 j) ∧ ∀ c, c ≠ 1 → I' c = I c := by
  intro q
  induction q with
  | zero =>
    intro n k I h1 h2 h3 h4
    obtain ⟨n, rfl⟩ : ∃ q, n = q + 1 := ⟨n - 1, by omega⟩
    refine ⟨I, ?_, fun i j hi hi2 => by omega, fun _ _ => rfl, fun _ _ => rfl⟩
    rw [f_X11_drops_L21, mr0, lm1, if_pos (show inb 0 192 = true from rfl), i0, h4, show (1 : Int32) = nI 1 from rfl, nI_sub (by omega), if_pos (nI_le (by omega) (by omega))]
  | succ q ih =>
    intro n k I h1 h2 h3 h4
    obtain ⟨n, rfl⟩ : ∃ q, n = q + 1 := ⟨n - 1, by omega⟩
    rw [f_X11_drops_L21, mr0, lm1, if_pos (show inb 0 192 = true from rfl), i0, h4, nI_1 k, show (1 : Int32) = nI 1 from rfl, nI_sub (by omega), if_neg (nI_ge (by omega) (by omega))]
    obtain ⟨I1, e1, e2, e3, e4⟩ := movesM_ok (x := k + 1) (y := k) (by omega) (by omega) (by omega) I
    rw [e1, bd1_s]
    obtain ⟨I2, f1, f2, f3, f4⟩ := ih n (k + 1) I1 (by omega) (by omega) (by omega) (by rw [e3 0 (by omega)]; exact h4)
    refine ⟨I2, f1, fun i j hi hi2 hj => ?_, fun j hj => by rw [f3 j (by omega), e3 j (by omega)], fun c hc => by rw [f4 c hc, e4 c hc]⟩
    by_cases hk : i = k
    · rw [hk, f3 _ (by omega), e2 j hj]
    · rw [f2 i j (by omega) hi2 hj, e3 _ (by omega)]
theorem dropsM_ok {I : mI} {sn : Sn} {r : Nat} (h : SnM (I 1) sn) (hs : SnOK sn) (hr : r < sn.1.length) : ∃ I', f_X11_drops_L21 FU 0 (nI r) I R1M = some I' ∧ I' 1 0 = nI sn.1.length ∧ SnM (u2 I' 1 0 (nI (sn.1.length - 1)) 1) (dropS sn.1 r, sn.2) ∧ ∀ c, c ≠ 1 → I' c = I c := by
  have h5 := hs.1.1
  obtain ⟨I', e1, e2, e3, e4⟩ := dropsM_L h5 (sn.1.length - 1 - r) FU r I rfl (by rw [FU_eq]; omega) hr h.1.1
  refine ⟨I', e1, by rw [e3 0 (by omega)]; exact h.1.1, ⟨⟨by rw [u2_e, dropS_len hr], fun i hi => ?_⟩, h.2.cong hs.2.2 (fun j x y => by rw [u2_o _ _ _ (by omega), e3 j (by omega)])⟩, e4⟩
  rw [dropS_len hr] at hi
  by_cases c1 : i < r
  · rw [dropS_l hr c1]
    have hu := hs.1.get (r := i) (by omega)
    exact (h.1.2 i (by omega)).cong hu.2.2.1 hu.2.2.2.1 (fun j hj => by rw [u2_o _ _ _ (by omega), e3 _ (by omega)])
  · rw [dropS_r hr (by omega)]
    have hu := hs.1.get (r := i + 1) (by omega)
    exact (h.1.2 (i + 1) (by omega)).cong hu.2.2.1 hu.2.2.2.1 (fun j hj => by rw [u2_o _ _ _ (by omega), e2 i j (by omega) (by omega) hj])
theorem firstM_L {x1 : Int32} : ∀ (k n : Nat) (I : mI), k < n → k < 5 → ∃ I', f_X11_first_L34 n 0 x1 (nI k) I R1M = some I' ∧ (∀ i j, 0 < i → i ≤ k → j < 26 → I' 1 (1 + 26 * i + j) = I 1 (1 + 26 * (i - 1) + j)) ∧ (∀ j, (j < 27 ∨ 1 + 26 * (k + 1) ≤ j) → I' 1 j = I 1 j) ∧ ∀ c, c ≠ 1 → I' c = I c := by
  intro k
  induction k with
  | zero =>
    intro n I h1 h2
    obtain ⟨n, rfl⟩ : ∃ q, n = q + 1 := ⟨n - 1, by omega⟩
    refine ⟨I, ?_, fun i j hi hi2 => by omega, fun _ _ => rfl, fun _ _ => rfl⟩
    rw [f_X11_first_L34, if_pos (by decide)]
  | succ k ih =>
    intro n I h1 h2
    obtain ⟨n, rfl⟩ : ∃ q, n = q + 1 := ⟨n - 1, by omega⟩
    rw [f_X11_first_L34, if_neg (nI_nle (by omega) (by omega)), nI_m1, pk_m1]
    obtain ⟨I1, e1, e2, e3, e4⟩ := movesM_ok (x := k) (y := k + 1) (by omega) (by omega) (by omega) I
    rw [e1, bd1_s]
    obtain ⟨I2, f1, f2, f3, f4⟩ := ih n I1 (by omega) (by omega)
    refine ⟨I2, f1, fun i j hi hi2 hj => ?_, fun j hj => by rw [f3 j (by omega), e3 j (by omega)], fun c hc => by rw [f4 c hc, e4 c hc]⟩
    by_cases hk : i = k + 1
    · rw [hk, f3 _ (by omega), e2 j hj]
      rfl
    · rw [f2 i j (by omega) (by omega) hj, e3 _ (by omega)]
theorem firstM2_L {r : Nat} (hr : r < 5) :
    ∀ (q n k : Nat) (I : mI), 26 - k = q → q < n → k ≤ 26 → ∃ I', f_X11_first_L54 n 0 (nI r) (nI k) I R1M = some I' ∧ (∀ j, k ≤ j → j < 26 → I' 1 (1 + j) = I 2 (1 + 26 * r + j)) ∧ (∀ j, (j < 1 + k ∨ 27 ≤ j) → I' 1 j = I 1 j) ∧ ∀ c, c ≠ 1 → I' c = I c := by
  intro q
  induction q with
  | zero =>
    intro n k I g1 g2 g3
    obtain ⟨n, rfl⟩ : ∃ q, n = q + 1 := ⟨n - 1, by omega⟩
    refine ⟨I, ?_, fun j hj hj2 => by omega, fun _ _ => rfl, fun _ _ => rfl⟩
    rw [f_X11_first_L54, show (26 : Int32) = nI 26 from rfl, if_pos (nI_le (by omega) (by omega))]
  | succ q ih =>
    intro n k I g1 g2 g3
    obtain ⟨n, rfl⟩ : ∃ q, n = q + 1 := ⟨n - 1, by omega⟩
    rw [f_X11_first_L54]
    simp only [bnd]
    rw [show (26 : Int32) = nI 26 from rfl, if_neg (nI_ge (by omega) (by omega)), mr0, mr1, lm1, lm2, nI_1 k, pk_mul, show (1 : Int32) = nI 1 from rfl, nI_add, nI_add, nI_add, if_pos (inb_nI (by omega) (by omega)), if_pos (inb_nI (by omega) (by omega)), nI_clamp (show 1 + 26 * r + k < 2 ^ 31 by omega), nI_clamp (show 1 + k < 2 ^ 31 by omega)]
    obtain ⟨I', e1, e2, e3, e4⟩ := ih n (k + 1) (u2 I 1 (1 + k) (I 2 (1 + 26 * r + k))) (by omega) (by omega) (by omega)
    refine ⟨I', e1, fun j hj hj2 => ?_, fun j hj => by rw [e3 j (by omega), u2_o _ _ _ (by omega)], fun c hc => by rw [e4 c hc, u2_n _ _ _ hc]⟩
    by_cases hk : j = k
    · rw [hk, e3 _ (by omega), u2_e]
    · rw [e2 j (by omega) hj2, u2_n _ _ _ (by decide)]
theorem firstM_ok {I : mI} {sn : Sn} {r : Nat} (h : SnM (I 1) sn) (hs : SnOK sn) (hr : r < sn.1.length) (h2 : ∀ j, j < 192 → I 2 j = I 1 j) : ∃ I' I'', f_X11_first_L34 FU 0 (nI r) (nI r) I R1M = some I' ∧ f_X11_first_L54 FU 0 (nI r) 0 I' R1M = some I'' ∧ SnM (I'' 1) (firstS sn.1 r, sn.2) ∧ ∀ c, c ≠ 1 → I'' c = I c := by
  have h5 := hs.1.1
  obtain ⟨I1, e1, e2, e3, e4⟩ := firstM_L (x1 := nI r) r FU I (by rw [FU_eq]; omega) (by omega)
  obtain ⟨I2, f1, f2, f3, f4⟩ := firstM2_L (r := r) (by omega) 26 FU 0 I1 (by omega) (by rw [FU_eq]; omega) (by omega)
  refine ⟨I1, I2, e1, f1, ⟨⟨by rw [firstS_len hr, f3 0 (by omega), e3 0 (by omega)]; exact h.1.1, fun i hi => ?_⟩, h.2.cong hs.2.2 (fun j x y => by rw [f3 j (by omega), e3 j (by omega)])⟩, fun c hc => by rw [f4 c hc, e4 c hc]⟩
  rw [firstS_len hr] at hi
  by_cases c0 : i = 0
  · rw [c0, firstS_0]
    have hu := hs.1.get hr
    refine (h.1.2 r hr).cong hu.2.2.1 hu.2.2.2.1 (fun j hj => ?_)
    rw [show 1 + 26 * 0 + j = 1 + j by omega, f2 j (by omega) hj, e4 2 (by decide), h2 _ (by omega)]
  · by_cases c1 : i ≤ r
    · rw [firstS_l hr (by omega) c1]
      have hu := hs.1.get (r := i - 1) (by omega)
      exact (h.1.2 (i - 1) (by omega)).cong hu.2.2.1 hu.2.2.2.1 (fun j hj => by rw [f3 _ (by omega), e2 i j (by omega) c1 hj])
    · rw [firstS_r hr (by omega)]
      have hu := hs.1.get (r := i) (by omega)
      exact (h.1.2 i hi).cong hu.2.2.1 hu.2.2.2.1 (fun j hj => by rw [f3 _ (by omega), e3 _ (by omega)])
