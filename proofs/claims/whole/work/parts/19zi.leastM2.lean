/-! ===== the least weights: the model asks all rules, all calls of a ring ===== -/
def cmR (rs : List Ru) (F : Nat → Nat) (r : Nat) : Int32 := cmpS (vA F (rs.getD r dRu).1 0) (vA F (rs.getD r dRu).2 0)
def cmQ (rs : List Ru) (F : Nat → Nat) (c : Nat) : Int32 := cmpS (vA F (rs.getD ((callsS rs).getD c dC).1 dRu).1 0) (vA F (rs.getD ((callsS rs).getD c dC).1 dRu).2 ((callsS rs).getD c dC).2)
theorem FrLw.rfl' (L : mL) : FrLw L L := fun _ _ _ _ => rfl
theorem FrLw.trans {L L' L'' : mL} (h : FrLw L'' L') (h' : FrLw L' L) : FrLw L'' L := fun x a b c => (h x a b c).trans (h' x a b c)
theorem cmpS_3 (x y : Nat × Nat × Nat) : cmpS x y = 0 ∨ cmpS x y = 1 ∨ cmpS x y = 2 := by
  unfold cmpS
  split
  · exact Or.inl rfl
  · split
    · exact Or.inl rfl
    · split
      · exact Or.inr (Or.inl rfl)
      · exact Or.inr (Or.inr rfl)
theorem zb_bi (b : Bool) : zb (bi b) = true := by cases b <;> rfl
theorem aaM_L {rs : List Ru} {F : Nat → Nat} {t : Int32} (hr : RsOK rs) (hF : ∀ i, i < 7 → F i ≤ 9) {I : mI} (hM : RsM (I 1) rs) (hf : ∀ i, i < 7 → I 8 i = nI (F i)) :
    ∀ (z n r : Nat) (L : mL) (b : Bool), rs.length - r = z → z < n → r ≤ rs.length → ∃ L' b', f_X11_areAll_L4 n 0 t (bi b) (nI r) I L R1M = some (bi b', L') ∧ FrLw L' L ∧ (b' = true ↔ b = true ∧ ∀ r', r ≤ r' → r' < rs.length → ¬ cmR rs F r' < t) := by
  have hr5 := hr.1
  intro z
  induction z with
  | zero =>
    intro n r L b g1 g2 g3
    obtain ⟨n, rfl⟩ : ∃ x, n = x + 1 := ⟨n - 1, by omega⟩
    rw [f_X11_areAll_L4, mr0, lm1, if_pos (show inb 0 192 = true from rfl), i0, hM.1, if_pos (nI_le (by omega) (by omega))]
    exact ⟨L, b, rfl, FrLw.rfl' L, fun h => ⟨h, fun r' k1 k2 => by omega⟩, fun h => h.1⟩
  | succ z ih =>
    intro n r L b g1 g2 g3
    obtain ⟨n, rfl⟩ : ∃ x, n = x + 1 := ⟨n - 1, by omega⟩
    rw [f_X11_areAll_L4, mr0, lm1, if_pos (show inb 0 192 = true from rfl), i0, hM.1, if_neg (nI_ge (by omega) (by omega))]
    cases b with
    | false =>
      rw [bi_f, if_pos rfl]
      exact ⟨L, false, rfl, FrLw.rfl' L, (fun h => by cases h), fun h => h.1⟩
    | true =>
      obtain ⟨L1, e1, e2⟩ := crM_ok (r := r) (L := L) hr hM (by omega) hF hf
      rw [bi_t, if_neg (by decide), e1, bd2_s]
      simp only [bnd_e]
      rw [nI_1 r]
      by_cases hc : cmR rs F r < t
      · obtain ⟨L2, b2, e3, e4, e5⟩ := ih n (r + 1) L1 false (by omega) (by omega) (by omega)
        rw [if_pos (show cmpS (vA F (rs.getD r dRu).1 0) (vA F (rs.getD r dRu).2 0) < t from hc)]
        refine ⟨L2, b2, e3, e4.trans e2, fun h => ?_, fun h => absurd hc (h.2 r (Nat.le_refl _) (by omega))⟩
        cases (e5.mp h).1
      · obtain ⟨L2, b2, e3, e4, e5⟩ := ih n (r + 1) L1 true (by omega) (by omega) (by omega)
        rw [if_neg (show ¬ cmpS (vA F (rs.getD r dRu).1 0) (vA F (rs.getD r dRu).2 0) < t from hc)]
        refine ⟨L2, b2, e3, e4.trans e2, fun h => ⟨by trivial, fun r' k1 k2 => ?_⟩, fun h => e5.mpr ⟨rfl, fun r' k1 k2 => h.2 r' (by omega) k2⟩⟩
        by_cases w : r' = r
        · rw [w]; exact hc
        · exact (e5.mp h).2 r' (by omega) k2
theorem aaM_ok {rs : List Ru} {F : Nat → Nat} {t : Int32} (hr : RsOK rs) (hF : ∀ i, i < 7 → F i ≤ 9) {I : mI} {L : mL} (hM : RsM (I 1) rs) (hf : ∀ i, i < 7 → I 8 i = nI (F i)) :
    ∃ L' b', f_X11_areAll 0 t I L R1M = some (bi b', L') ∧ FrLw L' L ∧ (b' = true ↔ ∀ r', r' < rs.length → ¬ cmR rs F r' < t) := by
  have hr5 := hr.1
  obtain ⟨L1, b1, e1, e2, e3⟩ := aaM_L (t := t) hr hF hM hf rs.length FU 0 L true (by omega) (by rw [FU_eq]; omega) (by omega)
  rw [nI0, bi_t] at e1
  unfold f_X11_areAll
  rw [e1, bd2_s, if_pos (zb_bi b1)]
  exact ⟨L1, b1, rfl, e2, fun h r' k => (e3.mp h).2 r' (Nat.zero_le _) k, fun h => e3.mpr ⟨rfl, fun r' _ k => h r' k⟩⟩
def BkM (I : mI) (rs : List Ru) : Prop := CkM I (callsS rs) ∧ ∀ c, c < nCl rs → I 16 c = (rgS rs).1 c
theorem ilM_L {rs : List Ru} {F : Nat → Nat} {x : Int32} (hr : RsOK rs) (hF : ∀ i, i < 7 → F i ≤ 9) {I : mI} (hM : RsM (I 1) rs) (hB : BkM I rs) (hf : ∀ i, i < 7 → I 8 i = nI (F i)) :
    ∀ (z n c : Nat) (L : mL) (b : Bool), nCl rs - c = z → z < n → c ≤ nCl rs → ∃ L' b', f_X11_isLighter_L8 n 0 x (bi b) (nI c) I L R1M = some (bi b', L') ∧ FrLw L' L ∧ (b' = true ↔ b = true ∧ ∀ c', c ≤ c' → c' < nCl rs → (rgS rs).1 c' = x → cmQ rs F c' = 2) := by
  have hr5 := hr.1
  have h60 : nCl rs ≤ 60 := callsS_len hr
  have h18 : I 0 18 = nI (nCl rs) := hB.1.1
  intro z
  induction z with
  | zero =>
    intro n c L b g1 g2 g3
    obtain ⟨n, rfl⟩ : ∃ x, n = x + 1 := ⟨n - 1, by omega⟩
    rw [f_X11_isLighter_L8, h18, if_pos (nI_le (by omega) (by omega))]
    exact ⟨L, b, rfl, FrLw.rfl' L, fun h => ⟨h, fun r' k1 k2 => by omega⟩, fun h => h.1⟩
  | succ z ih =>
    intro n c L b g1 g2 g3
    obtain ⟨n, rfl⟩ : ∃ x, n = x + 1 := ⟨n - 1, by omega⟩
    rw [f_X11_isLighter_L8, h18, if_neg (nI_ge (by omega) (by omega))]
    cases b with
    | false =>
      rw [bi_f, if_pos rfl]
      exact ⟨L, false, rfl, FrLw.rfl' L, (fun h => by cases h), fun h => h.1⟩
    | true =>
      have hc : c < nCl rs := by omega
      obtain ⟨i1, i2⟩ := callsS_in (rs := rs) (c := c) hc
      obtain ⟨b1, b2⟩ := hB.1.2 c hc
      have b3 := hB.2 c hc
      rw [bi_t, if_neg (by decide)]
      simp only [bnd_e]
      rw [mr16, mr21, mr17, mr0, lm12, lm16, lm13, if_pos (inb_nI (by omega) (by omega)), if_pos (inb_nI (by omega) (by omega)), nI_clamp (by omega), b1, b2, b3, nI_1 c]
      by_cases hx : (rgS rs).1 c = x
      · have hMr := hM.2 _ i1
        obtain ⟨L1, e1, e2⟩ := ccM_ok (L := L) hr hM i1 i2 hF hf
        rw [if_pos hx, leftOf_ok, bd1_s, leftLong_ok lm1 (by omega), bd1_s, if_pos (inb_nI (by omega) (by omega)), longR hMr (hr.get i1) (by omega) i2, bd1_s, hMr.1, e1, bd2_s]
        by_cases h2 : cmQ rs F c = 2
        · obtain ⟨L2, b2, e3, e4, e5⟩ := ih n (c + 1) L1 true (by omega) (by omega) (by omega)
          rw [if_pos (show cmpS (vA F (rs.getD ((callsS rs).getD c dC).1 dRu).1 0) (vA F (rs.getD ((callsS rs).getD c dC).1 dRu).2 ((callsS rs).getD c dC).2) = 2 from h2)]
          refine ⟨L2, b2, e3, e4.trans e2, fun h => ⟨by trivial, fun r' k1 k2 k3 => ?_⟩, fun h => e5.mpr ⟨rfl, fun r' k1 k2 => h.2 r' (by omega) k2⟩⟩
          by_cases w : r' = c
          · rw [w]; exact h2
          · exact (e5.mp h).2 r' (by omega) k2 k3
        · obtain ⟨L2, b2, e3, e4, e5⟩ := ih n (c + 1) L1 false (by omega) (by omega) (by omega)
          rw [if_neg (show ¬ cmpS (vA F (rs.getD ((callsS rs).getD c dC).1 dRu).1 0) (vA F (rs.getD ((callsS rs).getD c dC).1 dRu).2 ((callsS rs).getD c dC).2) = 2 from h2)]
          refine ⟨L2, b2, e3, e4.trans e2, fun h => ?_, fun h => absurd (h.2 c (Nat.le_refl _) hc hx) h2⟩
          cases (e5.mp h).1
      · obtain ⟨L2, b2, e3, e4, e5⟩ := ih n (c + 1) L true (by omega) (by omega) (by omega)
        rw [if_neg hx]
        refine ⟨L2, b2, e3, e4, fun h => ⟨by trivial, fun r' k1 k2 k3 => ?_⟩, fun h => e5.mpr ⟨rfl, fun r' k1 k2 => h.2 r' (by omega) k2⟩⟩
        by_cases w : r' = c
        · rw [w] at k3; exact absurd k3 hx
        · exact (e5.mp h).2 r' (by omega) k2 k3
theorem lt2 {x y : Nat × Nat × Nat} : ¬ cmpS x y < 2 ↔ cmpS x y = 2 := by
  rcases cmpS_3 x y with h | h | h <;> rw [h] <;> decide
theorem lt1 {x y : Nat × Nat × Nat} : ¬ cmpS x y < 1 ↔ ¬ cmpS x y = 0 := by
  rcases cmpS_3 x y with h | h | h <;> rw [h] <;> decide
theorem aa2_ok {rs : List Ru} {F : Nat → Nat} (hr : RsOK rs) (hF : ∀ i, i < 7 → F i ≤ 9) {I : mI} {L : mL} (hM : RsM (I 1) rs) (hf : ∀ i, i < 7 → I 8 i = nI (F i)) :
    ∃ L' b', f_X11_areAll 0 2 I L R1M = some (bi b', L') ∧ FrLw L' L ∧ (b' = true ↔ Sat rs (-1) F) := by
  obtain ⟨L1, b1, e1, e2, e3⟩ := aaM_ok (t := 2) (L := L) hr hF hM hf
  refine ⟨L1, b1, e1, e2, e3.trans ⟨fun h => ⟨fun r hk => ?_, fun w => absurd rfl w⟩, fun h r hk => ?_⟩⟩
  · rw [if_pos rfl]; exact lt2.mp (h r hk)
  · have := h.1 r hk
    rw [if_pos rfl] at this
    exact lt2.mpr this
theorem ilM_ok {rs : List Ru} {F : Nat → Nat} {x : Int32} (hx : ¬ x = -1) (hr : RsOK rs) (hF : ∀ i, i < 7 → F i ≤ 9) {I : mI} {L : mL} (hM : RsM (I 1) rs) (hB : BkM I rs) (hf : ∀ i, i < 7 → I 8 i = nI (F i)) :
    ∃ L' b', f_X11_isLighter 0 x I L R1M = some (bi b', L') ∧ FrLw L' L ∧ (b' = true ↔ Sat rs x F) := by
  have h60 : nCl rs ≤ 60 := callsS_len hr
  obtain ⟨L1, b1, e1, e2, e3⟩ := aaM_ok (t := 1) (L := L) hr hF hM hf
  obtain ⟨L2, b2, f1, f2, f3⟩ := ilM_L (x := x) hr hF hM hB hf (nCl rs) FU 0 L1 b1 (by omega) (by rw [FU_eq]; omega) (by omega)
  unfold f_X11_isLighter
  rw [nI0] at f1
  rw [e1, bd2_s, f1, bd2_s, if_pos (zb_bi b2)]
  refine ⟨L2, b2, rfl, f2.trans e2, f3.trans ⟨fun h => ⟨fun r hk => ?_, fun _ c hc hg => h.2 c (Nat.zero_le _) hc hg⟩, fun h => ⟨e3.mpr (fun r hk => ?_), fun c _ hc hg => h.2 hx c hc hg⟩⟩⟩
  · rw [if_neg hx]; exact lt1.mp (e3.mp h.1 r hk)
  · have := h.1 r hk
    rw [if_neg hx] at this
    exact lt1.mpr this
