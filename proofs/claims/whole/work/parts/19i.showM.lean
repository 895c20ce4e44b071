/-! ===== writing: the model ===== -/
def WrM (I : mI) (w : List Int32) : Prop := I 0 11 = nI w.length ∧ ∀ k, k < w.length → I 7 k = w.getD k 0
def FrV (I' I : mI) : Prop := (∀ a, a ≠ 0 → a ≠ 6 → a ≠ 7 → I' a = I a) ∧ ∀ k, k ≠ 9 → k ≠ 11 → I' 0 k = I 0 k
theorem FrV.rfl' (I : mI) : FrV I I := ⟨fun _ _ _ _ => rfl, fun _ _ _ => rfl⟩
theorem FrV.trans {I I' I'' : mI} (h : FrV I'' I') (h' : FrV I' I) : FrV I'' I := ⟨fun a x y z => (h.1 a x y z).trans (h'.1 a x y z), fun k x y => (h.2 k x y).trans (h'.2 k x y)⟩
theorem FrZ.v {I I' : mI} (h : FrZ I' I) : FrV I' I := ⟨fun a x y _ => h.1 a x y, fun k x _ => h.2 k x⟩
theorem wtM_ok {I : mI} {w ds : List Int32} (h : WrM I w) (hd : DuM I ds) (hl : w.length < 100) (c : Int32) : ∃ I', f_X11_writes 0 c I R1M = some I' ∧ WrM I' (w ++ [c]) ∧ DuM I' ds ∧ FrV I' I := by
  refine ⟨u2 (u2 I 7 w.length c) 0 11 (nI (w.length + 1)), ?_, ⟨by rw [u2_e, List.length_append]; rfl, fun k hk => ?_⟩, ?_, fun a x _ y => by rw [u2_n _ _ _ x, u2_n _ _ _ y], fun k _ x => by rw [u2_o _ _ _ x, u2_n _ _ _ (by decide)]⟩
  · unfold f_X11_writes
    simp only [bnd]
    rw [h.1, mr10, lm7, if_pos (inb_nI hl (by omega)), nI_clamp (by omega), u2_n _ _ _ (show (0 : Nat) ≠ 7 by decide), h.1, nI_1]
  · rw [u2_n _ _ _ (by decide)]
    rw [List.length_append, List.length_singleton] at hk
    by_cases hk2 : k = w.length
    · rw [hk2, u2_e, show w.length = w.length + 0 by rfl, getD_app_r]
      rfl
    · rw [u2_o _ _ _ hk2, getD_app_l (by omega)]
      exact h.2 k (by omega)
  · unfold DuM
    rw [u2_o _ _ _ (by decide), u2_n _ _ _ (show (0 : Nat) ≠ 7 by decide), u2_n _ _ _ (show (6 : Nat) ≠ 0 by decide), u2_n _ _ _ (show (6 : Nat) ≠ 7 by decide)]
    exact hd
theorem DuM.top {I : mI} {d : Int32} {ds : List Int32} (h : DuM I (d :: ds)) : I 6 ds.length = d := by
  have := h.2 0 (by rw [List.length_cons]; omega)
  rw [List.length_cons, show ds.length + 1 - 1 - 0 = ds.length by omega] at this
  exact this
theorem DuM.pop {I : mI} {d : Int32} {ds : List Int32} (h : DuM I (d :: ds)) : DuM (u2 I 0 9 (nI ds.length)) ds ∧ FrV (u2 I 0 9 (nI ds.length)) I := by
  refine ⟨⟨by rw [u2_e], fun k hk => ?_⟩, fun a x _ _ => by rw [u2_n _ _ _ x], fun k x _ => by rw [u2_o _ _ _ x]⟩
  rw [u2_n _ _ _ (by decide)]
  have := h.2 (k + 1) (by rw [List.length_cons]; omega)
  rw [List.length_cons, List.getD_cons_succ, show ds.length + 1 - 1 - (k + 1) = ds.length - 1 - k by omega] at this
  exact this
theorem WrM.pop {I : mI} {w : List Int32} {v : Int32} (h : WrM I w) : WrM (u2 I 0 9 v) w := by
  unfold WrM
  rw [u2_o _ _ _ (by decide), u2_n _ _ _ (show (7 : Nat) ≠ 0 by decide)]
  exact h
/-- what stands before the next part is written -/
theorem flM_L {x1 x2 x3 : Int32} : ∀ (pd : List Int32) (n : Nat) (I : mI) (w ds : List Int32), pd.length < n → (∀ c ∈ pd, ¬ c = 84) → DuM I (pd ++ 84 :: ds) → WrM I w → w.length + pd.length ≤ 100 → pd.length + ds.length < 299 → ∃ I', f_X11_writesTerm_L12 n 0 x1 x2 x3 I R1M = some I' ∧ DuM I' (84 :: ds) ∧ WrM I' (w ++ pd) ∧ FrV I' I := by
  intro pd
  induction pd with
  | nil =>
    intro n I w ds h1 h2 h3 h4 h5 h6
    obtain ⟨n, rfl⟩ : ∃ q, n = q + 1 := ⟨n - 1, by omega⟩
    rw [List.nil_append] at h3
    rw [List.length_nil] at h6
    refine ⟨I, ?_, h3, by rw [List.append_nil]; exact h4, FrV.rfl' I⟩
    rw [f_X11_writesTerm_L12, h3.1, List.length_cons, if_neg (nI_nle (by omega) (by omega)), show (1 : Int32) = nI 1 from rfl, nI_sub (by omega), show ds.length + 1 - 1 = ds.length by omega, mr8, lm6, if_pos (inb_nI (by omega) (by omega)), nI_clamp (by omega), h3.top, if_pos rfl]
  | cons d pd ih =>
    intro n I w ds h1 h2 h3 h4 h5 h6
    obtain ⟨n, rfl⟩ : ∃ q, n = q + 1 := ⟨n - 1, by omega⟩
    rw [List.length_cons] at h1 h5 h6
    rw [List.cons_append] at h3
    have hL : (pd ++ 84 :: ds).length = pd.length + (ds.length + 1) := by rw [List.length_append, List.length_cons]
    obtain ⟨p1, p2⟩ := h3.pop
    rw [f_X11_writesTerm_L12]
    simp only [bnd]
    rw [h3.1, List.length_cons, if_neg (nI_nle (by omega) (by omega)), show (1 : Int32) = nI 1 from rfl, nI_sub (by omega), show (pd ++ 84 :: ds).length + 1 - 1 = (pd ++ 84 :: ds).length by omega, mr8, lm6, if_pos (inb_nI (by omega) (by omega)), nI_clamp (by omega), h3.top, if_neg (h2 d List.mem_cons_self), u2_e, if_pos (inb_nI (by omega) (by omega)), nI_clamp (by omega), u2_n _ _ _ (show (6 : Nat) ≠ 0 by decide), h3.top]
    obtain ⟨I1, e1, e2, e3, e4⟩ := wtM_ok (h4.pop (v := nI (pd ++ 84 :: ds).length)) p1 (by omega) d
    rw [e1, bd1_s]
    obtain ⟨I2, f1, f2, f3, f4⟩ := ih n I1 (w ++ [d]) ds (by omega) (fun c hc => h2 c (List.mem_cons_of_mem _ hc)) e3 e2 (by rw [List.length_append, List.length_singleton]; omega) (by omega)
    refine ⟨I2, f1, f2, ?_, f4.trans (e4.trans p2)⟩
    rw [List.append_assoc] at f3
    exact f3
/-- what stands at the end is written -/
theorem enM_L : ∀ (pd : List Int32) (n : Nat) (I : mI) (w : List Int32), pd.length < n → DuM I pd → WrM I w → w.length + pd.length ≤ 100 → ∃ I', f_X11_writesTerm_L112 n 0 I R1M = some I' ∧ WrM I' (w ++ pd) ∧ FrV I' I := by
  intro pd
  induction pd with
  | nil =>
    intro n I w h1 h3 h4 h5
    obtain ⟨n, rfl⟩ : ∃ q, n = q + 1 := ⟨n - 1, by omega⟩
    refine ⟨I, ?_, by rw [List.append_nil]; exact h4, FrV.rfl' I⟩
    rw [f_X11_writesTerm_L112, h3.1, if_pos (by decide)]
  | cons d pd ih =>
    intro n I w h1 h3 h4 h5
    obtain ⟨n, rfl⟩ : ∃ q, n = q + 1 := ⟨n - 1, by omega⟩
    rw [List.length_cons] at h1 h5
    obtain ⟨p1, p2⟩ := h3.pop
    rw [f_X11_writesTerm_L112]
    simp only [bnd]
    rw [h3.1, List.length_cons, if_neg (nI_nle (by omega) (by omega)), show (1 : Int32) = nI 1 from rfl, nI_sub (by omega), show pd.length + 1 - 1 = pd.length by omega, u2_e, mr8, lm6, if_pos (inb_nI (by omega) (by omega)), nI_clamp (by omega), u2_n _ _ _ (show (6 : Nat) ≠ 0 by decide), h3.top]
    obtain ⟨I1, e1, e2, e3, e4⟩ := wtM_ok (h4.pop (v := nI pd.length)) p1 (by omega) d
    rw [e1, bd1_s]
    obtain ⟨I2, f1, f2, f3⟩ := ih n I1 (w ++ [d]) (by omega) e3 e2 (by rw [List.length_append, List.length_singleton]; omega)
    refine ⟨I2, f1, ?_, f3.trans (e4.trans p2)⟩
    rw [List.append_assoc] at f2
    exact f2
theorem enc_len : ∀ (ms : List Nat), (enc ms).length ≤ 3 * ms.length
  | [] => Nat.le_refl _
  | m :: ms => by
    show ((if m = 2 then [44, 84, 41] else [41]) ++ enc ms).length ≤ _
    rw [List.length_append, List.length_cons]
    have := enc_len ms
    split
    · show 3 + _ ≤ _; omega
    · show 1 + _ ≤ _; omega
theorem opS_len (c : Int32) : (opS c).length ≤ 5 := by
  unfold opS
  split
  · decide
  · split <;> decide
theorem bh_op {l : List Int32} {i : Nat} (h : ¬ wn (l.getD i 0) = 0) : bh l i = [40] := by unfold bh; rw [if_neg h]
/-- behind a letter: what is written, and what is due then -/
theorem due_next {l : List Int32} {i : Nat} {ms : List Nat} (h : WI l i ms) : (∃ ms', opS (l.getD i 0) ++ enc ms = bh l i ++ 84 :: enc ms' ∧ WI l (i + 1) ms') ∨ (opS (l.getD i 0) ++ enc ms = bh l i ∧ l.length = i + 1) := by
  by_cases hw : wn (l.getD i 0) = 0
  · rw [wn_vl hw, List.nil_append]
    exact h.leaf hw
  · left
    exact ⟨_, by rw [(wn_op hw ms).2, bh_op hw]; rfl, h.op hw⟩
/-- one letter -/
theorem leM_1 {l : List Int32} {o : Nat} (ho : o + l.length ≤ 192) (hl12 : l.length ≤ 12) {I : mI} {i : Nat} {w ds : List Int32} (hI : ∀ k, k < l.length → I 1 (o + k) = l.getD k 0) (hi : i < l.length) (hw : WrM I w) (hd : DuM I ds) (hwl : w.length < 100) (hdl : ds.length + 5 ≤ 300) (x2 : Int32) (n : Nat) :
    ∃ I', (if inb (nI o + nI i) (lnM (R1M 0 0)) = true then (bd1 (f_X11_writes 0 (I (R1M 0 0) ((nI o + nI i)).toNatClampNeg) I R1M) (fun I15 => (bd1 (f_X11_opens 0 (I15 (R1M 0 0) ((nI o + nI i)).toNatClampNeg) I15 R1M) (fun I16 => (f_X11_writesTerm_L7 n 0 (nI o) x2 (nI i + (1 : Int32)) I16 R1M))))) else none) = f_X11_writesTerm_L7 n 0 (nI o) x2 (nI (i + 1)) I' R1M ∧ WrM I' (w ++ [l.getD i 0]) ∧ DuM I' (opS (l.getD i 0) ++ ds) ∧ FrV I' I := by
  obtain ⟨I1, e1, e2, e3, e4⟩ := wtM_ok hw hd hwl (l.getD i 0)
  obtain ⟨I2, f1, f2, f3⟩ := opensM_ok e3 hdl (l.getD i 0)
  refine ⟨I2, ?_, ?_, f2, f3.v.trans e4⟩
  · rw [mr0, lm1, nI_add, if_pos (inb_nI (by omega) (by omega)), nI_clamp (by omega), hI i hi, e1, bd1_s, e4.1 1 (by decide) (by decide) (by decide), hI i hi, f1, bd1_s, nI_1]
  · unfold WrM
    rw [f3.2 11 (by decide), f3.1 7 (by decide) (by decide)]
    exact e2
theorem wtsM_L {l : List Int32} {o : Nat} (ho : o + l.length ≤ 192) (hl12 : l.length ≤ 12) {ρ : Nat → Int32} (hρ : ∀ k, k < l.length → ρ (o + k) = l.getD k 0) :
    ∀ (q n i : Nat) (I : mI) (w pd rest : List Int32), l.length - i = q → q < n → i ≤ l.length → I 1 = ρ → (∀ c ∈ pd, ¬ c = 84) → DuM I (pd ++ rest) → ((∃ ms, rest = 84 :: enc ms ∧ WI l i ms ∧ (enc ms).length ≤ 4 * i) ∨ (rest = [] ∧ i = l.length)) → WrM I w → w.length + (pd.length + (wrF l q i).length) ≤ 100 → pd.length ≤ 100 →
      ∃ I' I'', f_X11_writesTerm_L7 n 0 (nI o) (nI l.length) (nI i) I R1M = some I' ∧ f_X11_writesTerm_L112 FU 0 I' R1M = some I'' ∧ WrM I'' (w ++ (pd ++ wrF l q i)) ∧ FrV I'' I := by
  intro q
  induction q with
  | zero =>
    intro n i I w pd rest h1 h2 h3 h4 h5 h6 h7 h8 h9 ha
    obtain ⟨n, rfl⟩ : ∃ q, n = q + 1 := ⟨n - 1, by omega⟩
    rcases h7 with ⟨ms, k1, k2, k3⟩ | ⟨k1, k2⟩
    · have := k2.lt; omega
    · rw [k1, List.append_nil] at h6
      rw [show wrF l 0 i = [] from rfl, List.append_nil]
      obtain ⟨I', e1, e2, e3⟩ := enM_L pd FU I w (by rw [FU_eq]; omega) h6 h8 (by omega)
      refine ⟨I, I', ?_, e1, e2, e3⟩
      rw [f_X11_writesTerm_L7, if_pos (nI_le (by omega) (by omega))]
  | succ q ih =>
    intro n i I w pd rest h1 h2 h3 h4 h5 h6 h7 h8 h9 ha
    obtain ⟨n, rfl⟩ : ∃ q, n = q + 1 := ⟨n - 1, by omega⟩
    rw [show wrF l (q + 1) i = l.getD i 0 :: (bh l i ++ wrF l q (i + 1)) from rfl] at h9 ⊢
    rw [List.length_cons, List.length_append] at h9
    rcases h7 with ⟨ms, k1, k2, k3⟩ | ⟨k1, k2⟩
    · subst k1
      obtain ⟨I1, e1, e2, e3, e4⟩ := flM_L (x1 := nI o) (x2 := nI l.length) (x3 := nI i) pd FU I w (enc ms) (by rw [FU_eq]; omega) h5 h6 h8 (by omega) (by omega)
      obtain ⟨p1, p2⟩ := e2.pop
      rw [f_X11_writesTerm_L7]
      simp only [bnd]
      rw [if_neg (nI_ge (by omega) (by omega)), e1, bd1_s, e2.1, List.length_cons, if_neg (nI_nle (by omega) (by omega)), show nI ((enc ms).length + 1) - 1 = nI (enc ms).length by rw [show (1 : Int32) = nI 1 from rfl, nI_sub (by omega)]; rfl]
      have F1 : FrV (u2 I1 0 9 (nI (enc ms).length)) I := p2.trans e4
      obtain ⟨I2, f1, f2, f3, f4⟩ := leM_1 ho hl12 (I := u2 I1 0 9 (nI (enc ms).length)) (i := i) (fun k hk => by rw [F1.1 1 (by decide) (by decide) (by decide), h4]; exact hρ k hk) (by omega) (e3.pop) p1 (by rw [List.length_append]; omega) (by omega) (nI l.length) n
      rw [f1]
      have F2 : FrV I2 I := f4.trans F1
      have hlen : (w ++ pd ++ [l.getD i 0]).length = w.length + pd.length + 1 := by rw [List.length_append, List.length_append, List.length_singleton]
      rcases due_next k2 with ⟨ms', m1, m2⟩ | ⟨m1, m2⟩
      · rw [m1] at f3
        have hms' : (enc ms').length ≤ 4 * (i + 1) := by
          have h1 := congrArg List.length m1
          rw [List.length_append, List.length_append, List.length_cons] at h1
          have h2 := opS_len (l.getD i 0)
          omega
        obtain ⟨J', J'', g1, g2, g3, g4⟩ := ih n (i + 1) I2 (w ++ pd ++ [l.getD i 0]) (bh l i) (84 :: enc ms') (by omega) (by omega) (by omega) (by rw [F2.1 1 (by decide) (by decide) (by decide)]; exact h4) (bh_84 l i) f3 (Or.inl ⟨ms', rfl, m2, hms'⟩) f2 (by omega) (by omega)
        refine ⟨J', J'', g1, g2, ?_, g4.trans F2⟩
        rw [List.append_assoc, List.append_assoc] at g3
        exact g3
      · rw [m1] at f3
        have hq : q = 0 := by omega
        obtain ⟨J', J'', g1, g2, g3, g4⟩ := ih n (i + 1) I2 (w ++ pd ++ [l.getD i 0]) (bh l i) [] (by omega) (by omega) (by omega) (by rw [F2.1 1 (by decide) (by decide) (by decide)]; exact h4) (bh_84 l i) (by rw [List.append_nil]; exact f3) (Or.inr ⟨rfl, m2.symm⟩) f2 (by omega) (by omega)
        refine ⟨J', J'', g1, g2, ?_, g4.trans F2⟩
        rw [List.append_assoc, List.append_assoc] at g3
        exact g3
    · omega
theorem wtsM_ok {l : List Int32} {o : Nat} (ho : o + l.length ≤ 192) (hl12 : l.length ≤ 12) (hl : Tm l) {I : mI} (hI : ∀ k, k < l.length → I 1 (o + k) = l.getD k 0) {w : List Int32} (hw : WrM I w) (hwl : w.length + (wrS l).length ≤ 100) :
    ∃ I', f_X11_writesTerm 0 (nI o) (nI l.length) I R1M = some I' ∧ WrM I' (w ++ wrS l) ∧ FrV I' I := by
  have hp := hl.pos
  obtain ⟨q, hq⟩ : ∃ q, l.length = q + 1 := ⟨l.length - 1, by omega⟩
  have hwr : wrS l = l.getD 0 0 :: (bh l 0 ++ wrF l q 1) := by
    unfold wrS
    rw [hq]
    rfl
  rw [hwr, List.length_cons, List.length_append] at hwl
  have F0 : FrV (u2 I 0 9 0) I := ⟨fun a x _ _ => by rw [u2_n _ _ _ x], fun k x _ => by rw [u2_o _ _ _ x]⟩
  have hz : (0 : Int32) - 0 = 0 := by decide
  have huu : u2 (u2 I 0 9 0) 0 9 0 = u2 (u2 I 0 9 0) 0 9 (nI ([] : List Int32).length) := rfl
  have hD0 : DuM (u2 (u2 I 0 9 0) 0 9 0) [] := ⟨by rw [u2_e]; rfl, fun k hk => by cases hk⟩
  have F1 : FrV (u2 (u2 I 0 9 0) 0 9 0) I := ⟨fun a x _ _ => by rw [u2_n _ _ _ x, u2_n _ _ _ x], fun k x _ => by rw [u2_o _ _ _ x, u2_o _ _ _ x]⟩
  obtain ⟨n, hn⟩ : ∃ n, FU = n + 1 := ⟨99999, FU_eq⟩
  obtain ⟨I2, f1, f2, f3, f4⟩ := leM_1 ho hl12 (I := u2 (u2 I 0 9 0) 0 9 0) (i := 0) (fun k hk => by rw [F1.1 1 (by decide) (by decide) (by decide)]; exact hI k hk) (by omega) (hw.pop.pop) hD0 (by omega) (by decide) (nI l.length) n
  have F2 : FrV I2 I := f4.trans F1
  have h7 : f_X11_writesTerm_L7 FU 0 (nI o) (nI l.length) 0 (u2 I 0 9 0) R1M = f_X11_writesTerm_L7 n 0 (nI o) (nI l.length) (nI 1) I2 R1M := by
    have e12 : f_X11_writesTerm_L12 FU 0 (nI o) (nI l.length) 0 (u2 I 0 9 0) R1M = some (u2 I 0 9 0) := by rw [FU_eq, f_X11_writesTerm_L12, u2_e, if_pos (by decide)]
    rw [hn, f_X11_writesTerm_L7]
    simp only [bnd]
    rw [if_neg (show ¬ nI l.length ≤ 0 from nI_nle (by omega) (by omega)), e12, bd1_s, u2_e, if_pos (show (0 : Int32) ≤ 0 by decide), hz]
    exact f1
  have fin : ∀ rest, opS (l.getD 0 0) ++ [] = bh l 0 ++ rest → ((∃ ms, rest = 84 :: enc ms ∧ WI l 1 ms ∧ (enc ms).length ≤ 4 * 1) ∨ (rest = [] ∧ 1 = l.length)) → ∃ I', f_X11_writesTerm 0 (nI o) (nI l.length) I R1M = some I' ∧ WrM I' (w ++ wrS l) ∧ FrV I' I := by
    intro rest h1 h2
    rw [h1] at f3
    obtain ⟨J', J'', g1, g2, g3, g4⟩ := wtsM_L ho hl12 (ρ := I2 1) (fun k hk => by rw [F2.1 1 (by decide) (by decide) (by decide)]; exact hI k hk) q n 1 I2 (w ++ [l.getD 0 0]) (bh l 0) rest (by omega) (by rw [FU_eq] at hn; omega) (by omega) rfl (bh_84 l 0) f3 h2 f2 (by rw [List.length_append, List.length_singleton]; omega) (by omega)
    refine ⟨J'', ?_, ?_, g4.trans F2⟩
    · unfold f_X11_writesTerm
      simp only [bnd]
      rw [h7, g1, bd1_s, g2]
      rfl
    · rw [List.append_assoc] at g3
      rw [hwr]
      exact g3
  rcases due_next (WI_0 hl) with ⟨ms', m1, m2⟩ | ⟨m1, m2⟩
  · refine fin _ m1 (Or.inl ⟨ms', rfl, m2, ?_⟩)
    have h1 := congrArg List.length m1
    rw [List.length_append, List.length_append, List.length_cons] at h1
    have h2 := opS_len (l.getD 0 0)
    have h3 : (enc []).length = 0 := rfl
    omega
  · exact fin [] (m1.trans (List.append_nil _).symm) (Or.inr ⟨rfl, m2.symm⟩)
