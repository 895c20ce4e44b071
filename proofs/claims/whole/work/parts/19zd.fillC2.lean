/-! ===== the class fills its rows ===== -/
theorem all_app (p : Rq → Bool) (a b : List Rq) : (a ++ b).all p = (a.all p && b.all p) := List.all_append
theorem acC_L {R : mR} {rs : List Ru} {k l m r : Nat} {x : Int32} (hR : RO R) (hr : RsOK rs) (hk : k ≤ 3) (hl : l ≤ 3) (hm : m ≤ 3) (hrl : r < rs.length) :
    ∀ (z n c : Nat) (I : mI) (qs : List Rq), nCl rs - c = z → z < n → c ≤ nCl rs → CkC I (callsS rs) → (∀ d, d < nCl rs → I 251 d = (rgS rs).1 d) → TiC I 258 0 (rs.getD r dRu).1.length (cv k l m (rs.getD r dRu).1) → TiC I 260 0 (rs.getD r dRu).2.length (cv k l m (rs.getD r dRu).2) → RwC I k l m qs → qs.length + (cqF rs x r z c).length ≤ 65 →
      ∃ I', FrRw I' I ∧ (((cqF rs x r z c).all (xyOK k l m) = true ∧ f_X4_addCallRows_L3 n 256 248 x (nI r) (nI c) I R = some (Sum.inr I') ∧ RwC I' k l m (qs ++ cqF rs x r z c)) ∨ ((cqF rs x r z c).all (xyOK k l m) = false ∧ f_X4_addCallRows_L3 n 256 248 x (nI r) (nI c) I R = some (Sum.inl (0, I')))) := by
  have h60 : nCl rs ≤ 60 := callsS_len hr
  have hr5 := hr.1
  obtain ⟨b0, b1, b2, b3, b4, b5, b6⟩ := hR.bk
  have hS := hR.sc
  intro z
  induction z with
  | zero =>
    intro n c I qs g1 g2 g3 g4 g5 g6 g7 g8 g9
    obtain ⟨n, rfl⟩ : ∃ y, n = y + 1 := ⟨n - 1, by omega⟩
    refine ⟨I, ⟨fun _ _ _ => rfl, fun _ _ => rfl⟩, Or.inl ⟨rfl, ?_, by rw [show cqF rs x r 0 c = [] from rfl, List.append_nil]; exact g8⟩⟩
    rw [f_X4_addCallRows_L3, show I 248 8 = nI (nCl rs) from g4.1, if_pos (nI_le (by omega) (by omega))]
  | succ z ih =>
    intro n c I qs g1 g2 g3 g4 g5 g6 g7 g8 g9
    obtain ⟨n, rfl⟩ : ∃ y, n = y + 1 := ⟨n - 1, by omega⟩
    have hc : c < nCl rs := by omega
    obtain ⟨i1, i2⟩ := callsS_in (rs := rs) (c := c) hc
    rw [f_X4_addCallRows_L3]
    simp only [bnd_e]
    rw [show I 248 8 = nI (nCl rs) from g4.1, if_neg (nI_ge hc (by omega)), b0, b1, b2, lc249, lc250, lc251, if_pos (inb_nI (show c < 60 by omega) (by omega)), nI_clamp (show c < 2 ^ 31 by omega), (g4.2 c hc).1, (g4.2 c hc).2, if_pos (inb_nI (show c < 60 by omega) (by omega)), if_pos (inb_nI (show c < 60 by omega) (by omega)), g5 c hc, nI_1 c]
    rw [cqF_s] at g9 ⊢
    have no : ∀ (_ : ¬ (((callsS rs).getD c dC).1 = r ∧ (rgS rs).1 c = x)), ∃ I', FrRw I' I ∧ (((cqF rs x r z (c + 1)).all (xyOK k l m) = true ∧ f_X4_addCallRows_L3 n 256 248 x (nI r) (nI (c + 1)) I R = some (Sum.inr I') ∧ RwC I' k l m (qs ++ cqF rs x r z (c + 1))) ∨ ((cqF rs x r z (c + 1)).all (xyOK k l m) = false ∧ f_X4_addCallRows_L3 n 256 248 x (nI r) (nI (c + 1)) I R = some (Sum.inl (0, I')))) := by
      intro hno
      rw [if_neg hno] at g9
      exact ih n (c + 1) I qs (by omega) (by omega) (by omega) g4 g5 g6 g7 g8 g9
    by_cases h1 : ((callsS rs).getD c dC).1 = r
    · rw [if_pos (show nI ((callsS rs).getD c dC).1 = nI r by rw [h1])]
      by_cases h2 : (rgS rs).1 c = x
      · rw [if_pos h2]
        rw [if_pos ⟨h1, h2⟩] at g9 ⊢
        rw [List.length_cons] at g9
        rw [h1] at i2
        have hq : RqOK (rs.getD r dRu, ((callsS rs).getD c dC).2, 1) := ⟨hr.get hrl, i2, Nat.le_refl _⟩
        obtain ⟨I1, G1, f1⟩ := arC_ok (q := (rs.getD r dRu, ((callsS rs).getD c dC).2, 1)) hS hk hl hm hq (by omega) g6 g7 g8
        have e0 : f_X4_addRow 256 (nI ((callsS rs).getD c dC).2) 1 I R = f_X4_addRow 256 (nI ((callsS rs).getD c dC).2) (nI 1) I R := rfl
        rw [e0, List.all_cons]
        rcases f1 with ⟨k1, k2, k3⟩ | ⟨k1, k2⟩
        · have k2' : f_X4_addRow 256 (nI ((callsS rs).getD c dC).2) (nI 1) I R = some (1, I1) := k2
          rw [k2', bd2_s, if_neg n10, k1, Bool.true_and]
          obtain ⟨I2, G2, f2⟩ := ih n (c + 1) I1 (qs ++ [(rs.getD r dRu, ((callsS rs).getD c dC).2, 1)]) (by omega) (by omega) (by omega) ⟨by rw [G1.1 248 (by decide) (by decide)]; exact g4.1, fun i hi => by rw [G1.1 249 (by decide) (by decide), G1.1 250 (by decide) (by decide)]; exact g4.2 i hi⟩ (fun d hd => by rw [G1.1 251 (by decide) (by decide)]; exact g5 d hd) (fun p i a b cc => by rw [G1.1 258 (by decide) (by decide)]; exact g6 p i a b cc) (fun p i a b cc => by rw [G1.1 260 (by decide) (by decide)]; exact g7 p i a b cc) k3 (by rw [List.length_append, List.length_singleton]; omega)
          rw [List.append_assoc] at f2
          exact ⟨I2, G2.trans G1, f2⟩
        · have k2' : f_X4_addRow 256 (nI ((callsS rs).getD c dC).2) (nI 1) I R = some (0, I1) := k2
          rw [k2', bd2_s, if_pos rfl, k1, Bool.false_and]
          exact ⟨I1, G1, Or.inr ⟨rfl, rfl⟩⟩
      · rw [if_neg h2, if_neg (fun w => h2 w.2)]
        exact no (fun w => h2 w.2)
    · rw [if_neg (fun w => h1 (nI_inj (by omega) (by omega) w)), if_neg (fun w => h1 w.1)]
      exact no (fun w => h1 w.1)
