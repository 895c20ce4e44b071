/-! ===== comparing: what is meant, and the model ===== -/
theorem stk_app {α : Type} {lf : Int32 → α} {f1 : α → α} {g2 : α → α → α} : ∀ (a b : List Int32) (n : Nat), wfb n a = true → stk lf f1 g2 (a ++ b) = stk lf f1 g2 a ++ stk lf f1 g2 b
  | [], b, n, _ => rfl
  | c :: cs, b, 0, h => by cases h
  | c :: cs, b, n + 1, h => by
    rw [wfb_cons] at h
    have ih := stk_app (lf := lf) (f1 := f1) (g2 := g2) cs b _ h
    have hl := stk_len (lf := lf) (f1 := f1) (g2 := g2) cs _ h
    rw [List.cons_append]
    rcases wn_3 c with ⟨h1, h2⟩ | ⟨h1, h2⟩ | ⟨_, _, h2⟩
    · rw [h2] at hl
      subst h1
      cases hs : stk lf f1 g2 cs with
      | nil => rw [hs] at hl; cases hl
      | cons x t =>
        rw [hs] at ih
        rw [stk_f hs, stk_f (ih.trans (List.cons_append))]
        rfl
    · rw [h2] at hl
      subst h1
      cases hs : stk lf f1 g2 cs with
      | nil => rw [hs] at hl; cases hl
      | cons x t =>
        cases t with
        | nil => rw [hs, List.length_singleton] at hl; omega
        | cons y t =>
          rw [hs] at ih
          rw [stk_g hs, stk_g (a := x) (b := y) (t := t ++ stk lf f1 g2 b) (ih.trans rfl)]
          rfl
    · rw [stk_l h2, stk_l h2, ih]
      rfl
theorem vA_pt {F : Nat → Nat} {l : List Int32} {p : Nat} (hl : wfb 1 l = true) (hp : p < l.length) : (wst3 F (pt l p)).headD d3 = vA F l p := by
  have hw := pt_wf hl hp
  have hs : pt l p ++ l.drop (ep l p) = l.drop p := by
    unfold pt
    rw [show l.drop (ep l p) = (l.drop p).drop (ep l p - p) by rw [List.drop_drop]; congr 1; have := ep_gt hp; omega]
    exact List.take_append_drop _ _
  unfold vA vAt wst3
  rw [← hs, stk_app _ _ 1 hw]
  have h1 := stk_len (lf := wl F) (f1 := wf1 F) (g2 := wg2 F) _ _ hw
  cases hq : stk (wl F) (wf1 F) (wg2 F) (pt l p) with
  | nil => rw [hq] at h1; cases h1
  | cons x t => rfl
theorem vA_0 {F : Nat → Nat} {l : List Int32} : (wst3 F l).headD d3 = vA F l 0 := by
  unfold vA vAt wst3
  rw [List.drop_zero]
theorem vA_cv {F : Nat → Nat} (hF : ∀ i, i < 7 → F i ≤ 3) {t : List Int32} (h12 : t.length ≤ 12) (ht : Tm t) {p : Nat} (hp : p < t.length) : vA F t p = phi F (cv (F 4) (F 5) (F 6) t p) := by
  obtain ⟨m, hm⟩ := wfb_drop t 1 p ht.1 hp
  have h1 := stk_len (lf := cvl) (f1 := cvf (F 4)) (g2 := cvg (F 5) (F 6)) _ _ hm
  have h2 := wst_cv hF (t.drop p) (by rw [List.length_drop]; omega) (fun c hc => ht.2 c (List.mem_of_mem_drop hc))
  unfold wst3 cvs at h2
  unfold vA cv vAt
  rw [h2]
  cases hq : stk cvl (cvf (F 4)) (cvg (F 5) (F 6)) (t.drop p) with
  | nil => rw [hq] at h1; cases h1
  | cons x s => rfl
/-- 2: heavier, 1: as heavy, 0: neither -/
def cmpS (x y : Nat × Nat × Nat) : Int32 := if x.2.1 < y.2.1 ∨ x.2.2 < y.2.2 then 0 else if x.1 < y.1 then 0 else if x.1 = y.1 then 1 else 2
theorem lgcN {a b : Nat} (ha : a < 2 ^ 63) (hb : b < 2 ^ 63) : lg_cmp (lN a) (lN b) = if b < a then 1 else if a = b then 0 else -1 := by
  unfold lg_cmp
  have e1 : lN a > lN b ↔ b < a := by
    show lN b < lN a ↔ _
    rw [Int64.lt_iff_toInt_lt, pk_lT ha, pk_lT hb]
    omega
  have e2 : lN a = lN b ↔ a = b := by
    rw [← Int64.toInt_inj, pk_lT ha, pk_lT hb]
    omega
  by_cases h1 : b < a
  · rw [if_pos (e1.mpr h1), if_pos h1]
  · rw [if_neg (fun q => h1 (e1.mp q)), if_neg h1]
    by_cases h2 : a = b
    · rw [if_pos (e2.mpr h2), if_pos h2]
    · rw [if_neg (fun q => h2 (e2.mp q)), if_neg h2]
theorem lgc_lt {a b : Nat} (ha : a < 2 ^ 63) (hb : b < 2 ^ 63) : lg_cmp (lN a) (lN b) < 0 ↔ a < b := by
  rw [lgcN ha hb]
  by_cases h1 : b < a
  · rw [if_pos h1]; exact ⟨fun q => absurd q (by decide), fun q => by omega⟩
  · rw [if_neg h1]
    by_cases h2 : a = b
    · rw [if_pos h2]; exact ⟨fun q => absurd q (by decide), fun q => by omega⟩
    · rw [if_neg h2]; exact ⟨fun _ => by omega, fun _ => by decide⟩
theorem lgc_ge {a b : Nat} (ha : a < 2 ^ 63) (hb : b < 2 ^ 63) : (0 : Int32) ≤ lg_cmp (lN a) (lN b) ↔ ¬ a < b := by
  rw [lgcN ha hb]
  by_cases h1 : b < a
  · rw [if_pos h1]; exact ⟨fun _ => by omega, fun _ => by decide⟩
  · rw [if_neg h1]
    by_cases h2 : a = b
    · rw [if_pos h2]; exact ⟨fun _ => by omega, fun _ => by decide⟩
    · rw [if_neg h2]; exact ⟨fun q => absurd q (by decide), fun q => by omega⟩
theorem lgc_le {a b : Nat} (ha : a < 2 ^ 63) (hb : b < 2 ^ 63) : lg_cmp (lN a) (lN b) ≤ (0 : Int32) ↔ a ≤ b := by
  rw [lgcN ha hb]
  by_cases h1 : b < a
  · rw [if_pos h1]; exact ⟨fun q => absurd q (by decide), fun q => by omega⟩
  · rw [if_neg h1]
    by_cases h2 : a = b
    · rw [if_pos h2]; exact ⟨fun _ => by omega, fun _ => by decide⟩
    · rw [if_neg h2]; exact ⟨fun _ => by omega, fun _ => by decide⟩
def FrLw (L' L : mL) : Prop := ∀ x, x ≠ 9 → x ≠ 10 → x ≠ 11 → L' x = L x
theorem cpM_ok {o1 o2 : Nat} {s1 s2 : List Int32} {F : Nat → Nat} {I : mI} {L : mL} (h1 : o1 + s1.length ≤ 192) (h2 : o2 + s2.length ≤ 192) (h12 : s1.length ≤ 12) (h22 : s2.length ≤ 12) (g1 : ∀ j, j < s1.length → I 1 (o1 + j) = s1.getD j 0) (g2 : ∀ j, j < s2.length → I 1 (o2 + j) = s2.getD j 0) (hF : ∀ i, i < 7 → F i ≤ 9) (hf : ∀ i, i < 7 → I 8 i = nI (F i)) (w1 : wfb 1 s1 = true) (w2 : wfb 1 s2 = true) :
    ∃ L', f_X11_compares 0 (nI o1) (nI s1.length) (nI o2) (nI s2.length) I L R1M = some (cmpS ((wst3 F s1).headD d3) ((wst3 F s2).headD d3), L') ∧ FrLw L' L := by
  obtain ⟨L1, e1, ⟨e2, e3, e4⟩, e5⟩ := wtM_ok1 (L := L) (a := 1) (by rw [lm1]; omega) (by rw [lm1]; exact h1) (by omega) g1 hF hf w1
  obtain ⟨L2, f1, ⟨f2, f3, f4⟩, f5⟩ := wtM_ok1 (L := L1) (a := 1) (by rw [lm1]; omega) (by rw [lm1]; exact h2) (by omega) g2 hF hf w2
  have sm : ∀ s : List Int32, Sm3 ((wst3 F s).headD d3) := by
    intro s
    have := sm_mem hF s
    cases hq : wst3 F s with
    | nil => exact ⟨by decide, by decide, by decide⟩
    | cons x t => rw [hq] at this; exact this x List.mem_cons_self
  obtain ⟨a1, a2, a3⟩ := sm s1
  obtain ⟨b1, b2, b3⟩ := sm s2
  refine ⟨L2, ?_, fun x x1 x2 x3 => by rw [f5 x x1 x2 x3, e5 x x1 x2 x3]⟩
  unfold f_X11_compares
  simp only [bnd_e]
  rw [mr0, mr13, mr14, mr15, lm9, lm10, lm11, e1, bd1_s, if_pos (show inb 0 64 = true from rfl), if_pos (show inb 0 64 = true from rfl), if_pos (show inb 0 64 = true from rfl), f1, bd1_s, i0, e2, e3, e4, f2, f3, f4]
  generalize (wst3 F s1).headD d3 = x at *
  generalize (wst3 F s2).headD d3 = y at *
  have l1 : x.1 < 2 ^ 63 := by unfold PR at a1; omega
  have l2 : x.2.1 < 2 ^ 63 := by unfold PR at a2; omega
  have l3 : x.2.2 < 2 ^ 63 := by unfold PR at a3; omega
  have k1 : y.1 < 2 ^ 63 := by unfold PR at b1; omega
  have k2 : y.2.1 < 2 ^ 63 := by unfold PR at b2; omega
  have k3 : y.2.2 < 2 ^ 63 := by unfold PR at b3; omega
  unfold cmpS
  by_cases c1 : x.2.1 < y.2.1
  · rw [if_pos ((lgc_lt l2 k2).mpr c1), if_pos (Or.inl c1)]
    rfl
  · rw [if_neg (fun q => c1 ((lgc_lt l2 k2).mp q))]
    by_cases c2 : x.2.2 < y.2.2
    · rw [if_pos ((lgc_lt l3 k3).mpr c2), if_pos (Or.inr c2)]
      rfl
    · rw [if_neg (fun q => c2 ((lgc_lt l3 k3).mp q)), if_neg n10, if_neg (show ¬ (x.2.1 < y.2.1 ∨ x.2.2 < y.2.2) from fun q => q.elim c1 c2)]
      by_cases c3 : x.1 < y.1
      · rw [if_neg (fun q => (lgc_ge l1 k1).mp q c3), if_pos c3]
      · rw [if_pos ((lgc_ge l1 k1).mpr c3), if_neg c3]
        by_cases c4 : x.1 = y.1
        · rw [if_pos ((lgc_le l1 k1).mpr (by omega)), if_pos c4]
        · rw [if_neg (fun q => by have := (lgc_le l1 k1).mp q; omega), if_neg c4]
