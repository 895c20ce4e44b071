/-! ===== the least weights: both find the same ===== -/
theorem fg_dg (B lo k : Nat) : fg (dg B lo k 0) (dg B lo k 1) (dg B lo k 2) (dg B lo k 3) (dg B lo k 4) (dg B lo k 5) (dg B lo k 6) = dg B lo k := by
  funext i
  rw [dg0, dg1, dg2, dg3, dg4, dg5, dg6]
  rfl
theorem dg_fg {B lo k a b c d e f g : Nat} (h0 : k / 27 / B / B / B = a) (h1 : k / 27 / B / B % B = b) (h2 : k / 27 / B % B = c) (h3 : k / 27 % B = d) (h4 : k / 9 % 3 + lo = e) (h5 : k / 3 % 3 + lo = f) (h6 : k % 3 + lo = g) : dg B lo k = fg a b c d e f g := by
  rw [← h0, ← h1, ← h2, ← h3, ← h4, ← h5, ← h6]
  rfl
theorem fg_le {a b c d k l m : Nat} (h0 : a ≤ 3) (h1 : b ≤ 3) (h2 : c ≤ 3) (h3 : d ≤ 3) (h4 : k ≤ 3) (h5 : l ≤ 3) (h6 : m ≤ 3) : ∀ i, i < 7 → fg a b c d k l m i ≤ 3 := by
  intro i _
  unfold fg
  split
  · exact h0
  split
  · exact h1
  split
  · exact h2
  split
  · exact h3
  split
  · exact h4
  split
  · exact h5
  · exact h6
def cfx (x : Int32) (B lo T : Nat) : Prop := (x = -1 ∧ B = 4 ∧ lo = 1 ∧ T = 6912) ∨ (¬ x = -1 ∧ B = 3 ∧ lo = 0 ∧ T = 2187)
theorem cfx.c {x : Int32} {B lo T : Nat} (h : cfx x B lo T) : cfg B lo T := h.elim (fun h => Or.inl h.2) (fun h => Or.inr h.2)
theorem dg_l {B lo T k : Nat} (h : cfg B lo T) (hk : k < T) : lo ≤ dg B lo k 4 ∧ lo ≤ dg B lo k 5 ∧ lo ≤ dg B lo k 6 := by
  rw [dg4, dg5, dg6]; omega
theorem good_iff {rs : List Ru} (hr : RsOK rs) {x : Int32} {B lo T : Nat} (h : cfx x B lo T) (N : Nat) : Goodw rs x N ↔ ∃ k, k < T ∧ Sat rs x (dg B lo k) ∧ N = nF (dg B lo k) := by
  constructor
  · rintro ⟨low, top, k, l, m, h1, h2, h3, h4, h5, h6, h7, a, b, c, d, k1, k2, k3, k4, k5, k6⟩
    have key : ∀ K, K < T → dg B lo K = fg a b c d k l m → ∃ k, k < T ∧ Sat rs x (dg B lo k) ∧ N = nF (dg B lo k) := by
      intro K hK e
      have hF : ∀ i, i < 7 → fg a b c d k l m i ≤ 3 := fg_le (by omega) (by omega) (by omega) (by omega) (by omega) (by omega) (by omega)
      refine ⟨K, hK, ?_, ?_⟩
      · rw [e]
        exact (ok_sat hr hF).mp k5
      · rw [e, k6]
        rfl
    rcases h with ⟨w, rfl, rfl, rfl⟩ | ⟨w, rfl, rfl, rfl⟩
    · rcases h1 with ⟨_, rfl, rfl⟩ | ⟨w', _⟩
      · refine key (((((((a * 4 + b) * 4 + c) * 4 + d) * 3 + (k - 1)) * 3 + (l - 1)) * 3 + (m - 1))) (by omega) (dg_fg (by omega) (by omega) (by omega) (by omega) (by omega) (by omega) (by omega))
      · exact absurd w w'
    · rcases h1 with ⟨w', _⟩ | ⟨_, rfl, rfl⟩
      · exact absurd w' w
      · refine key (((((((a * 3 + b) * 3 + c) * 3 + d) * 3 + k) * 3 + l) * 3 + m)) (by omega) (dg_fg (by omega) (by omega) (by omega) (by omega) (by omega) (by omega) (by omega))
  · rintro ⟨k, hk, h1, h2⟩
    have hD := dg_le h.c hk
    obtain ⟨l4, l5, l6⟩ := dg_l h.c hk
    have d0 := hD 0 (by omega)
    have d1 := hD 1 (by omega)
    have d2 := hD 2 (by omega)
    have d3 := hD 3 (by omega)
    have d4 := hD 4 (by omega)
    have d5 := hD 5 (by omega)
    have d6 := hD 6 (by omega)
    have hlo := h.c.lo
    refine ⟨lo, lo + 2, dg B lo k 4, dg B lo k 5, dg B lo k 6, ?_, l4, d4, l5, d5, l6, d6, dg B lo k 0, dg B lo k 1, dg B lo k 2, dg B lo k 3, d0, d1, d2, d3, ?_, h2⟩
    · rcases h with ⟨w, rfl, rfl, rfl⟩ | ⟨w, rfl, rfl, rfl⟩
      · exact Or.inl ⟨w, rfl, rfl⟩
      · exact Or.inr ⟨w, rfl, rfl⟩
    · unfold okA
      rw [fg_dg]
      exact (ok_sat hr (fun i hi => Nat.le_trans (hD i hi) (by omega))).mpr h1
/-- what a search ends with -/
def Fnd (rs : List Ru) (x : Int32) (B lo T k : Nat) (I : mI) (L : mL) (o : Option ((Int32 × mI × mL) ⊕ (mI × mL))) : Prop := ∃ I' L', (∀ a, a ≠ 8 → I' a = I a) ∧ FrLw L' L ∧ ((∃ k', k ≤ k' ∧ k' < T ∧ Sat rs x (dg B lo k') ∧ (∀ j, k ≤ j → j < k' → ¬ Sat rs x (dg B lo j)) ∧ o = some (Sum.inl (nI (nF (dg B lo k')), I', L'))) ∨ ((∀ j, k ≤ j → j < T → ¬ Sat rs x (dg B lo j)) ∧ o = some (Sum.inr (I', L'))))
theorem fallM_L {rs : List Ru} (hr : RsOK rs) :
    ∀ (z n k : Nat) (I : mI) (L : mL), 6912 - k = z → z < n → k < 6912 → RsM (I 1) rs → (∀ j, j < 7 → I 8 j = nI (dg 4 1 k j)) → Fnd rs (-1) 4 1 6912 k I L (f_X11_fall_L9 n 0 1 I L R1M) := by
  have hcf : cfg 4 1 6912 := Or.inl ⟨rfl, rfl, rfl⟩
  intro z
  induction z with
  | zero => intro n k I L g1 g2 g3; omega
  | succ z ih =>
    intro n k I L g1 g2 g3 g4 g5
    obtain ⟨n, rfl⟩ : ∃ x, n = x + 1 := ⟨n - 1, by omega⟩
    have hD := dg_le hcf g3
    obtain ⟨L1, b1, e1, e2, e3⟩ := aa2_ok (L := L) hr (fun i hi => Nat.le_trans (hD i hi) (by omega)) g4 g5
    rw [f_X11_fall_L9, if_neg (by decide), e1, bd2_s]
    cases b1 with
    | true =>
      rw [bi_t, if_neg (by decide), noM_ok g5, bd1_s]
      exact ⟨I, L1, fun _ _ => rfl, e2, Or.inl ⟨k, Nat.le_refl _, g3, e3.mp rfl, fun j k1 k2 => by omega, rfl⟩⟩
    | false =>
      have hn : ¬ Sat rs (-1) (dg 4 1 k) := fun w => by cases e3.mpr w
      rw [bi_f, if_pos rfl]
      obtain ⟨I1, f1, f2⟩ := go_ok (hi := 3) (lo := 1) (by omega) rfl hD g5
      rw [show f_X11_goesOn 0 1 3 I R1M = f_X11_goesOn 0 (nI 1) (nI 3) I R1M from rfl]
      rcases f2 with ⟨f2, f3⟩ | ⟨i, hi, f2, f3, f4, f5⟩
      · have hl := dg_last hcf g3 f3
        obtain ⟨n, rfl⟩ : ∃ x, n = x + 1 := ⟨n - 1, by omega⟩
        rw [f2, bd2_s, f_X11_fall_L9, if_pos rfl]
        refine ⟨I1, L1, f1, e2, Or.inr ⟨fun j k1 k2 => ?_, rfl⟩⟩
        rw [show j = k by omega]
        exact hn
      · obtain ⟨x1, x2⟩ := dg_next hcf g3 hi f3 f4
        obtain ⟨I2, L2, y1, y2, y3⟩ := ih n (k + 1) I1 L1 (by omega) (by omega) x1 (by rw [f1 1 (by decide)]; exact g4) (fun j hj => by rw [f5 j hj, x2 j hj])
        rw [f2, bd2_s]
        refine ⟨I2, L2, fun a ha => (y1 a ha).trans (f1 a ha), y2.trans e2, ?_⟩
        rcases y3 with ⟨k', j1, j2, j3, j4, j5⟩ | ⟨j1, j2⟩
        · refine Or.inl ⟨k', by omega, j2, j3, fun j m1 m2 => ?_, j5⟩
          by_cases w : j = k
          · rw [w]; exact hn
          · exact j4 j (by omega) m2
        · refine Or.inr ⟨fun j m1 m2 => ?_, j2⟩
          by_cases w : j = k
          · rw [w]; exact hn
          · exact j1 j (by omega) m2
theorem ltM_L {rs : List Ru} {x : Int32} (hx : ¬ x = -1) (hr : RsOK rs) :
    ∀ (z n k : Nat) (I : mI) (L : mL), 2187 - k = z → z < n → k < 2187 → RsM (I 1) rs → BkM I rs → (∀ j, j < 7 → I 8 j = nI (dg 3 0 k j)) → Fnd rs x 3 0 2187 k I L (f_X11_lighterOf_L8 n 0 x 1 I L R1M) := by
  have hcf : cfg 3 0 2187 := Or.inr ⟨rfl, rfl, rfl⟩
  intro z
  induction z with
  | zero => intro n k I L g1 g2 g3; omega
  | succ z ih =>
    intro n k I L g1 g2 g3 g4 gB g5
    obtain ⟨n, rfl⟩ : ∃ x, n = x + 1 := ⟨n - 1, by omega⟩
    have hD := dg_le hcf g3
    obtain ⟨L1, b1, e1, e2, e3⟩ := ilM_ok (L := L) hx hr (fun i hi => Nat.le_trans (hD i hi) (by omega)) g4 gB g5
    rw [f_X11_lighterOf_L8, if_neg (by decide), e1, bd2_s]
    cases b1 with
    | true =>
      rw [bi_t, if_neg (by decide), noM_ok g5, bd1_s]
      exact ⟨I, L1, fun _ _ => rfl, e2, Or.inl ⟨k, Nat.le_refl _, g3, e3.mp rfl, fun j k1 k2 => by omega, rfl⟩⟩
    | false =>
      have hn : ¬ Sat rs x (dg 3 0 k) := fun w => by cases e3.mpr w
      rw [bi_f, if_pos rfl]
      obtain ⟨I1, f1, f2⟩ := go_ok (hi := 2) (lo := 0) (by omega) rfl hD g5
      rw [show f_X11_goesOn 0 0 2 I R1M = f_X11_goesOn 0 (nI 0) (nI 2) I R1M from rfl]
      rcases f2 with ⟨f2, f3⟩ | ⟨i, hi, f2, f3, f4, f5⟩
      · have hl := dg_last hcf g3 f3
        obtain ⟨n, rfl⟩ : ∃ x, n = x + 1 := ⟨n - 1, by omega⟩
        rw [f2, bd2_s, f_X11_lighterOf_L8, if_pos rfl]
        refine ⟨I1, L1, f1, e2, Or.inr ⟨fun j k1 k2 => ?_, rfl⟩⟩
        rw [show j = k by omega]
        exact hn
      · obtain ⟨x1, x2⟩ := dg_next hcf g3 hi f3 f4
        have gB' : BkM I1 rs := by
          unfold BkM CkM
          rw [f1 0 (by decide), f1 12 (by decide), f1 13 (by decide), f1 16 (by decide)]
          exact gB
        obtain ⟨I2, L2, y1, y2, y3⟩ := ih n (k + 1) I1 L1 (by omega) (by omega) x1 (by rw [f1 1 (by decide)]; exact g4) gB' (fun j hj => by rw [f5 j hj, x2 j hj])
        rw [f2, bd2_s]
        refine ⟨I2, L2, fun a ha => (y1 a ha).trans (f1 a ha), y2.trans e2, ?_⟩
        rcases y3 with ⟨k', j1, j2, j3, j4, j5⟩ | ⟨j1, j2⟩
        · refine Or.inl ⟨k', by omega, j2, j3, fun j m1 m2 => ?_, j5⟩
          by_cases w : j = k
          · rw [w]; exact hn
          · exact j4 j (by omega) m2
        · refine Or.inr ⟨fun j m1 m2 => ?_, j2⟩
          by_cases w : j = k
          · rw [w]; exact hn
          · exact j1 j (by omega) m2
theorem Fnd_min {rs : List Ru} (hr : RsOK rs) {x : Int32} {B lo T : Nat} (h : cfx x B lo T) {I : mI} {L : mL} {o : Option ((Int32 × mI × mL) ⊕ (mI × mL))} (f : Fnd rs x B lo T 0 I L o) :
    ∃ I' L' w, (∀ a, a ≠ 8 → I' a = I a) ∧ FrLw L' L ∧ Min (Goodw rs x) w ∧ bdS o (un3 (fun r_7 I_7 L_7 => some (r_7, I_7, L_7))) (un2 (fun I_7 L_7 => (some ((-1 : Int32), I_7, L_7)))) = some (bv w, I', L') := by
  obtain ⟨I', L', f1, f2, f3⟩ := f
  rcases f3 with ⟨k', k1, k2, k3, k4, k5⟩ | ⟨k1, k2⟩
  · refine ⟨I', L', some (nF (dg B lo k')), f1, f2, ⟨(good_iff hr h _).mpr ⟨k', k2, k3, rfl⟩, fun N hN => ?_⟩, by rw [k5]; rfl⟩
    obtain ⟨j, j1, j2, rfl⟩ := (good_iff hr h N).mp hN
    by_cases w : j < k'
    · exact absurd j2 (k4 j (Nat.zero_le _) w)
    · have := nF_mono h.c (j - k') k' (by omega)
      rw [show k' + (j - k') = j by omega] at this
      omega
  · refine ⟨I', L', none, f1, f2, fun N hN => ?_, by rw [k2]; rfl⟩
    obtain ⟨j, j1, j2, _⟩ := (good_iff hr h N).mp hN
    exact k1 j (Nat.zero_le _) j1 j2
theorem fallM_ok {rs : List Ru} (hr : RsOK rs) {I : mI} {L : mL} (g4 : RsM (I 1) rs) : ∃ I' L' w, f_X11_fall 0 I L R1M = some (bv w, I', L') ∧ (∀ a, a ≠ 8 → I' a = I a) ∧ FrLw L' L ∧ Min (Goodw rs (-1)) w := by
  obtain ⟨I1, e1, e2, e3⟩ := lfM_t (t := 9) (N := 111) (by omega) (by omega) I
  have h := fallM_L hr 6912 FU 0 I1 L (by omega) (by rw [FU_eq]; omega) (by omega) (by rw [e1 1 (by decide)]; exact g4) (fun j hj => by
    rw [e3 j hj]
    rcases (show j = 0 ∨ j = 1 ∨ j = 2 ∨ j = 3 ∨ j = 4 ∨ j = 5 ∨ j = 6 by omega) with rfl | rfl | rfl | rfl | rfl | rfl | rfl <;> rfl)
  obtain ⟨I2, L2, w, f1, f2, f3, f4⟩ := Fnd_min hr (Or.inl ⟨rfl, rfl, rfl, rfl⟩) h
  refine ⟨I2, L2, w, ?_, fun a ha => (f1 a ha).trans (e1 a ha), f2, f3⟩
  unfold f_X11_fall
  have e2' : f_X11_laysFigures 0 111 9 I R1M = some (1, I1) := e2
  rw [e2', bd2_s, f4]
theorem ltM_ok {rs : List Ru} {x : Int32} (hx : ¬ x = -1) (hr : RsOK rs) {I : mI} {L : mL} (g4 : RsM (I 1) rs) (gB : BkM I rs) : ∃ I' L' w, f_X11_lighterOf 0 x I L R1M = some (bv w, I', L') ∧ (∀ a, a ≠ 8 → I' a = I a) ∧ FrLw L' L ∧ Min (Goodw rs x) w := by
  obtain ⟨I1, e1, e2, e3⟩ := lfM_t (t := 9) (N := 0) (by omega) (by omega) I
  have gB' : BkM I1 rs := by
    unfold BkM CkM
    rw [e1 0 (by decide), e1 12 (by decide), e1 13 (by decide), e1 16 (by decide)]
    exact gB
  have h := ltM_L hx hr 2187 FU 0 I1 L (by omega) (by rw [FU_eq]; omega) (by omega) (by rw [e1 1 (by decide)]; exact g4) gB' (fun j hj => by
    rw [e3 j hj]
    rcases (show j = 0 ∨ j = 1 ∨ j = 2 ∨ j = 3 ∨ j = 4 ∨ j = 5 ∨ j = 6 by omega) with rfl | rfl | rfl | rfl | rfl | rfl | rfl <;> rfl)
  obtain ⟨I2, L2, w, f1, f2, f3, f4⟩ := Fnd_min hr (Or.inr ⟨hx, rfl, rfl, rfl⟩) h
  refine ⟨I2, L2, w, ?_, fun a ha => (f1 a ha).trans (e1 a ha), f2, f3⟩
  unfold f_X11_lighterOf
  have e2' : f_X11_laysFigures 0 0 9 I R1M = some (1, I1) := e2
  rw [e2', bd2_s, f4]
/-- the least weights, if any -/
noncomputable def lstS (rs : List Ru) (x : Int32) : Option Nat := by
  classical
  exact if h : ∃ w, Min (Goodw rs x) w then Classical.choose h else none
theorem lstS_e {rs : List Ru} {x : Int32} {w : Option Nat} (h : Min (Goodw rs x) w) : w = lstS rs x := by
  unfold lstS
  have h' : ∃ w, Min (Goodw rs x) w := ⟨w, h⟩
  rw [dif_pos h']
  exact h.uniq (Classical.choose_spec h')
