/-! ===== how often each weight goes in: what is meant, and the class ===== -/
def slt (c : Int32) : Nat := if c = 97 then 0 else if c = 98 then 1 else if c = 102 then 2 else if c = 103 then 3 else if c = 120 then 4 else 5
def cvl (c : Int32) : Nat → Nat := fun i => if i = slt c then 1 else 0
def cvf (k : Nat) (a : Nat → Nat) : Nat → Nat := fun i => (if i = 2 then 1 else 0) + k * a i
def cvg (l m : Nat) (a b : Nat → Nat) : Nat → Nat := fun i => (if i = 3 then 1 else 0) + l * a i + m * b i
def zv : Nat → Nat := fun _ => 0
def cvs (k l m : Nat) (t : List Int32) : List (Nat → Nat) := stk cvl (cvf k) (cvg l m) t
def cv (k l m : Nat) (t : List Int32) (p : Nat) : Nat → Nat := vAt zv cvl (cvf k) (cvg l m) t p
def smi (i : Nat) : List (Nat → Nat) → Nat
  | [] => 0
  | a :: s => a i + smi i s
theorem cvs_sum {k l m : Nat} (hk : k ≤ 3) (hl : l ≤ 3) (hm : m ≤ 3) (i : Nat) : ∀ (t : List Int32), smi i (cvs k l m t) ≤ 4 ^ t.length
  | [] => Nat.zero_le _
  | c :: cs => by
    have ih := cvs_sum hk hl hm i cs
    have hp : 0 < 4 ^ cs.length := Nat.pow_pos (by decide)
    unfold cvs at ih ⊢
    rw [List.length_cons, Nat.pow_succ]
    rcases wn_3 c with ⟨h1, h2⟩ | ⟨h1, h2⟩ | ⟨_, _, h2⟩
    · subst h1
      cases hs : stk cvl (cvf k) (cvg l m) cs with
      | nil =>
        have : stk cvl (cvf k) (cvg l m) (102 :: cs) = [] := by
          conv => lhs; unfold stk
          rw [if_pos rfl, hs]
        rw [this]; exact Nat.zero_le _
      | cons a s =>
        rw [stk_f hs]
        rw [hs] at ih
        have ih' : a i + smi i s ≤ 4 ^ cs.length := ih
        show ((if i = 2 then 1 else 0) + k * a i) + smi i s ≤ _
        have h3 : k * a i ≤ 3 * a i := Nat.mul_le_mul_right _ hk
        split <;> omega
    · subst h1
      cases hs : stk cvl (cvf k) (cvg l m) cs with
      | nil =>
        have : stk cvl (cvf k) (cvg l m) (103 :: cs) = [] := by
          conv => lhs; unfold stk
          rw [if_neg (by decide), if_pos rfl, hs]
        rw [this]; exact Nat.zero_le _
      | cons a s =>
        cases s with
        | nil =>
          have : stk cvl (cvf k) (cvg l m) (103 :: cs) = [] := by
            conv => lhs; unfold stk
            rw [if_neg (by decide), if_pos rfl, hs]
          rw [this]; exact Nat.zero_le _
        | cons b s =>
          rw [stk_g hs]
          rw [hs] at ih
          have ih' : a i + (b i + smi i s) ≤ 4 ^ cs.length := ih
          show ((if i = 3 then 1 else 0) + l * a i + m * b i) + smi i s ≤ _
          have h3 : l * a i ≤ 3 * a i := Nat.mul_le_mul_right _ hl
          have h4 : m * b i ≤ 3 * b i := Nat.mul_le_mul_right _ hm
          split <;> omega
    · rw [stk_l h2]
      have hcv : cvl c i ≤ 1 := by
        unfold cvl
        split <;> omega
      show cvl c i + smi i (stk cvl (cvf k) (cvg l m) cs) ≤ _
      omega
theorem cv_le {k l m : Nat} (hk : k ≤ 3) (hl : l ≤ 3) (hm : m ≤ 3) {t : List Int32} (ht : t.length ≤ 12) (p i : Nat) : cv k l m t p i ≤ 16777216 := by
  have h := cvs_sum hk hl hm i (t.drop p)
  have h2 : 4 ^ (t.drop p).length ≤ 4 ^ 12 := Nat.pow_le_pow_right (by decide) (by rw [List.length_drop]; omega)
  unfold cv vAt
  unfold cvs at h
  cases hs : stk cvl (cvf k) (cvg l m) (t.drop p) with
  | nil => exact Nat.zero_le _
  | cons a s =>
    rw [hs] at h
    have h3 : a i + smi i s ≤ 4 ^ (t.drop p).length := h
    show a i ≤ _
    omega
/-- shares of each part, in the class -/
def TiC (I : mI) (a j n : Nat) (V : Nat → Nat → Nat) : Prop := ∀ p i, j ≤ p → p < n → i < 6 → I a (p * 6 + i) = nI (V p i)
theorem n6 (p i : Nat) : nI p * (6 : Int32) + nI i = nI (p * 6 + i) := by rw [show (6 : Int32) = nI 6 from rfl, pk_mul, nI_add]
theorem apC_L {R : mR} {s a w q o : Nat} (hR : R s 0 = a) (hln : lnC a = 72) (hw : w < 12) (hq : q < 12) (hwq : w ≠ q) (x y : Nat → Nat) :
    ∀ (z n i : Nat) (I : mI), 6 - i = z → z < n → i ≤ 6 → (∀ j, j < 6 → I a (q * 6 + j) = nI (y j)) → (∀ j, j < 6 → I a (w * 6 + j) = nI (if j < i then x j + o * y j else x j)) → ∃ I', f_X6_addPart_L14 n s (nI w) (nI q) (nI o) (nI i) I R = some I' ∧ (∀ j, j < 6 → I' a (w * 6 + j) = nI (x j + o * y j)) ∧ (∀ j, (j < w * 6 ∨ w * 6 + 6 ≤ j) → I' a j = I a j) ∧ ∀ b, b ≠ a → I' b = I b := by
  intro z
  induction z with
  | zero =>
    intro n i I g1 g2 g3 g4 g5
    obtain ⟨n, rfl⟩ : ∃ x, n = x + 1 := ⟨n - 1, by omega⟩
    refine ⟨I, ?_, fun j hj => by rw [g5 j hj, if_pos (by omega)], fun _ _ => rfl, fun _ _ => rfl⟩
    rw [f_X6_addPart_L14, show (6 : Int32) = nI 6 from rfl, if_pos (nI_le (by omega) (by omega))]
  | succ z ih =>
    intro n i I g1 g2 g3 g4 g5
    obtain ⟨n, rfl⟩ : ∃ x, n = x + 1 := ⟨n - 1, by omega⟩
    have hc : ¬ (6 : Int32) ≤ nI i := by rw [show (6 : Int32) = nI 6 from rfl]; exact nI_ge (by omega) (by omega)
    rw [f_X6_addPart_L14]
    simp only [bnd]
    rw [if_neg hc, n6, n6, hR, hln, if_pos (inb_nI (by omega) (by omega)), if_pos (inb_nI (by omega) (by omega)), nI_clamp (show w * 6 + i < 2 ^ 31 by omega), nI_clamp (show q * 6 + i < 2 ^ 31 by omega), g5 i (by omega), if_neg (Nat.lt_irrefl i), g4 i (by omega), pk_mul, nI_add, nI_1 i]
    obtain ⟨I', e1, e2, e3, e4⟩ := ih n (i + 1) (u2 I a (w * 6 + i) (nI (x i + o * y i))) (by omega) (by omega) (by omega) (fun j hj => by rw [u2_o _ _ _ (by omega)]; exact g4 j hj) (fun j hj => by
      by_cases he : j = i
      · rw [he, u2_e, if_pos (by omega)]
      · rw [u2_o _ _ _ (by omega), g5 j hj]
        by_cases hl : j < i
        · rw [if_pos hl, if_pos (by omega)]
        · rw [if_neg hl, if_neg (by omega)])
    exact ⟨I', e1, e2, fun j hj => by rw [e3 j hj, u2_o _ _ _ (by omega)], fun b hb => by rw [e4 b hb, u2_n _ _ _ hb]⟩
theorem apC_ok {R : mR} {s a w q o : Nat} (hR : R s 0 = a) (hln : lnC a = 72) (hw : w < 12) (hq : q < 12) (hwq : w ≠ q) (x y : Nat → Nat) {I : mI} (g4 : ∀ j, j < 6 → I a (q * 6 + j) = nI (y j)) (g5 : ∀ j, j < 6 → I a (w * 6 + j) = nI (x j)) : ∃ I', f_X6_addPart s (nI w) (nI q) (nI o) I R = some I' ∧ (∀ j, j < 6 → I' a (w * 6 + j) = nI (x j + o * y j)) ∧ (∀ j, (j < w * 6 ∨ w * 6 + 6 ≤ j) → I' a j = I a j) ∧ ∀ b, b ≠ a → I' b = I b := by
  obtain ⟨I', e1, e2⟩ := apC_L (o := o) hR hln hw hq hwq x y 6 FU 0 I (by omega) (by rw [FU_eq]; omega) (by omega) g4 (fun j hj => by rw [if_neg (by omega)]; exact g5 j hj)
  refine ⟨I', ?_, e2⟩
  unfold f_X6_addPart
  rw [nI0] at e1
  rw [if_neg (nI_pos (by omega)), show (12 : Int32) = nI 12 from rfl, if_pos (nI_lt hq (by omega)), e1]
  rfl
theorem zrC_L {R : mR} {s a w : Nat} {x1 : Nat} {x2 x3 x4 : Int32} (hR : R s 0 = a) (hln : lnC a = 72) (hw : w < 12) :
    ∀ (z n i : Nat) (I : mI), 6 - i = z → z < n → i ≤ 6 → (∀ j, j < i → I a (w * 6 + j) = 0) → ∃ I', f_X6_countIn_L16 n s x1 x2 x3 x4 (nI w) (nI i) I R = some I' ∧ (∀ j, j < 6 → I' a (w * 6 + j) = 0) ∧ (∀ j, (j < w * 6 ∨ w * 6 + 6 ≤ j) → I' a j = I a j) ∧ ∀ b, b ≠ a → I' b = I b := by
  intro z
  induction z with
  | zero =>
    intro n i I g1 g2 g3 g4
    obtain ⟨n, rfl⟩ : ∃ x, n = x + 1 := ⟨n - 1, by omega⟩
    refine ⟨I, ?_, fun j hj => g4 j (by omega), fun _ _ => rfl, fun _ _ => rfl⟩
    rw [f_X6_countIn_L16, show (6 : Int32) = nI 6 from rfl, if_pos (nI_le (by omega) (by omega))]
  | succ z ih =>
    intro n i I g1 g2 g3 g4
    obtain ⟨n, rfl⟩ : ∃ x, n = x + 1 := ⟨n - 1, by omega⟩
    have hc : ¬ (6 : Int32) ≤ nI i := by rw [show (6 : Int32) = nI 6 from rfl]; exact nI_ge (by omega) (by omega)
    rw [f_X6_countIn_L16]
    simp only [bnd]
    rw [if_neg hc, n6, hR, hln, if_pos (inb_nI (by omega) (by omega)), nI_clamp (show w * 6 + i < 2 ^ 31 by omega), nI_1 i]
    obtain ⟨I', e1, e2, e3, e4⟩ := ih n (i + 1) (u2 I a (w * 6 + i) 0) (by omega) (by omega) (by omega) (fun j hj => by
      by_cases he : j = i
      · rw [he, u2_e]
      · rw [u2_o _ _ _ (by omega)]; exact g4 j (by omega))
    exact ⟨I', e1, e2, fun j hj => by rw [e3 j hj, u2_o _ _ _ (by omega)], fun b hb => by rw [e4 b hb, u2_n _ _ _ hb]⟩
theorem slt_ok {c : Int32} (h : VL c) : f_X10_slotOf c = some (nI (slt c)) ∧ slt c < 6 := by
  rcases h with rfl | rfl | rfl | rfl | rfl | rfl <;> exact ⟨rfl, by decide⟩
theorem slt_102 : slt 102 = 2 := by decide
theorem slt_103 : slt 103 = 3 := by decide
theorem cv_f {k l m : Nat} {T : List Int32} {p mm : Nat} (hp : p < T.length) (hw : wfb (mm + 1) (T.drop (p + 1)) = true) (h : T.getD p 0 = 102) (j : Nat) : cv k l m T p j = cvl (T.getD p 0) j + k * cv k l m T (p + 1) j := by
  have e : cv k l m T p = cvf k (cv k l m T (p + 1)) := vAt_f hp hw h
  rw [e, h]
  unfold cvf cvl
  rw [slt_102]
theorem cv_g {k l m : Nat} {T : List Int32} {p mm : Nat} (hp : p < T.length) (hw : wfb (mm + 2) (T.drop (p + 1)) = true) (h : T.getD p 0 = 103) (j : Nat) : cv k l m T p j = cvl (T.getD p 0) j + l * cv k l m T (p + 1) j + m * cv k l m T (ep T (p + 1)) j := by
  have e : cv k l m T p = cvg l m (cv k l m T (p + 1)) (cv k l m T (ep T (p + 1))) := vAt_g hp hw h
  rw [e, h]
  unfold cvg cvl
  rw [slt_103]
theorem cv_l {k l m : Nat} {T : List Int32} {p : Nat} (hp : p < T.length) (h : wn (T.getD p 0) = 0) (j : Nat) : cv k l m T p j = cvl (T.getD p 0) j := by
  have e : cv k l m T p = cvl (T.getD p 0) := vAt_l hp h
  rw [e]
theorem nI1' : nI 1 = 1 := rfl
theorem bnd_e {α β : Type} (a : α) (f : α → β) : bnd a f = f a := id rfl
theorem ciC_L {R : mR} {s a t k l m : Nat} {T : List Int32} (hR : R s 0 = a) (hln : lnC a = 72) (hT : TO R t 12) (hT12 : T.length ≤ 12) (hTm : Tm T) (hsep : a ≠ t ∧ a ≠ t + 1 ∧ a ≠ t + 2) :
    ∀ (p n : Nat) (I : mI), p < n → p ≤ T.length → TmC I t T → TiC I a p T.length (cv k l m T) → ∃ I', f_X6_countIn_L8 n s t (nI k) (nI l) (nI m) (nI p + (-1)) I R = some I' ∧ TiC I' a 0 T.length (cv k l m T) ∧ ∀ b, b ≠ a → I' b = I b := by
  obtain ⟨r0, r1, r2, r3, r4⟩ := hT
  intro p
  induction p with
  | zero =>
    intro n I g1 g2 g3 g4
    obtain ⟨n, rfl⟩ : ∃ x, n = x + 1 := ⟨n - 1, by omega⟩
    refine ⟨I, ?_, g4, fun _ _ => rfl⟩
    rw [f_X6_countIn_L8, if_pos (show nI 0 + (-1) < 0 by decide)]
  | succ p ih =>
    intro n I g1 g2 g3 g4
    obtain ⟨n, rfl⟩ : ∃ x, n = x + 1 := ⟨n - 1, by omega⟩
    have hp : p < T.length := by omega
    have hv := VLs_get hTm.2 hp
    obtain ⟨sl1, sl2⟩ := slt_ok hv
    obtain ⟨mm, hm⟩ := wfb_drop T 1 p hTm.1 hp
    have hm2 := hm
    rw [drop_c hp, wfb_cons] at hm2
    obtain ⟨I1, e1, e2, e3, e4⟩ := zrC_L (x1 := t) (x2 := nI k) (x3 := nI l) (x4 := nI m) hR hln (show p < 12 by omega) 6 FU 0 I (by omega) (by rw [FU_eq]; omega) (by omega) (fun j hj => by omega)
    rw [nI0] at e1
    have h31 : TmC I1 t T := g3.cong (e4 _ hsep.1.symm) (e4 _ hsep.2.1.symm) (e4 _ hsep.2.2.symm)
    generalize hJ : u2 I1 a (p * 6 + slt (T.getD p 0)) 1 = J
    have J0 : ∀ b, b ≠ a → J b = I b := fun b hb => by rw [← hJ, u2_n _ _ _ hb, e4 b hb]
    have h3J : TmC J t T := g3.cong (J0 _ hsep.1.symm) (J0 _ hsep.2.1.symm) (J0 _ hsep.2.2.symm)
    have Jw : ∀ j, j < 6 → J a (p * 6 + j) = nI (cvl (T.getD p 0) j) := by
      intro j hj
      unfold cvl
      by_cases he : j = slt (T.getD p 0)
      · rw [if_pos he, he, ← hJ, u2_e, nI1']
      · rw [if_neg he, ← hJ, u2_o _ _ _ (by omega), e2 j hj, nI0]
    have Jo : ∀ j, (j < p * 6 ∨ p * 6 + 6 ≤ j) → J a j = I a j := fun j hj => by rw [← hJ, u2_o _ _ _ (by omega), e3 j hj]
    have Jq : ∀ q j, p + 1 ≤ q → q < T.length → j < 6 → J a (q * 6 + j) = nI (cv k l m T q j) := fun q j h1 h2 h3 => by rw [Jo _ (by omega)]; exact g4 q j h1 h2 h3
    rw [f_X6_countIn_L8]
    simp only [bnd_e]
    rw [pk_m1, if_neg (nI_pos (by omega)), e1, bd1_s, r0, r2, if_pos (inb_nI (by omega) (by omega)), nI_clamp (show p < 2 ^ 31 by omega), h31.2.1 p hp, sl1, bd1_s, if_neg (bv_ne (by omega)), n6, hR, hln, if_pos (inb_nI (by omega) (by omega)), nI_clamp (show p * 6 + slt (T.getD p 0) < 2 ^ 31 by omega), hJ, h3J.2.1 p hp, nI_1 p]
    have fin : ∀ (I2 : mI), (∀ j, j < 6 → I2 a (p * 6 + j) = nI (cv k l m T p j)) → (∀ j, (j < p * 6 ∨ p * 6 + 6 ≤ j) → I2 a j = J a j) → (∀ b, b ≠ a → I2 b = J b) → ∃ I', f_X6_countIn_L8 n s t (nI k) (nI l) (nI m) (nI p + (-1)) I2 R = some I' ∧ TiC I' a 0 T.length (cv k l m T) ∧ ∀ b, b ≠ a → I' b = I b := by
      intro I2 f1 f2 f3
      have f4 : ∀ b, b ≠ a → I2 b = I b := fun b hb => by rw [f3 b hb, J0 b hb]
      obtain ⟨I', k1, k2, k3⟩ := ih n I2 (by omega) (by omega) (g3.cong (f4 _ hsep.1.symm) (f4 _ hsep.2.1.symm) (f4 _ hsep.2.2.symm)) (fun q j h1 h2 h3 => by
        by_cases he : q = p
        · rw [he]; exact f1 j h3
        · rw [f2 _ (by omega)]; exact Jq q j (by omega) h2 h3)
      exact ⟨I', k1, k2, fun b hb => by rw [k3 b hb, f4 b hb]⟩
    rcases wn_3 (T.getD p 0) with ⟨c1, c2⟩ | ⟨c1, c2⟩ | ⟨c1, c1', c2⟩
    · rw [c2] at hm2
      have hp1 : p + 1 < T.length := by
        have := wfb_pos hm2
        rw [List.length_drop] at this
        omega
      rw [if_pos c1]
      obtain ⟨I2, f1, f2, f3, f4⟩ := apC_ok (o := k) hR hln (show p < 12 by omega) (show p + 1 < 12 by omega) (by omega) (cvl (T.getD p 0)) (cv k l m T (p + 1)) (fun j hj => Jq (p + 1) j (by omega) hp1 hj) Jw
      rw [f1, bd1_s]
      refine fin I2 (fun j hj => ?_) f3 f4
      rw [f2 j hj, cv_f hp hm2 c1]
    · rw [c2] at hm2
      have hp1 : p + 1 < T.length := by
        have := wfb_pos hm2
        rw [List.length_drop] at this
        omega
      have hn2 := (wf_next (a := mm + 1) (m := 0) (i := p + 1) (by rw [Nat.add_zero]; exact hm2)).2
      rw [Nat.add_zero] at hn2
      have hp2 : ep T (p + 1) < T.length := by
        have := wfb_pos hn2
        rw [List.length_drop] at this
        omega
      have hgt := ep_gt hp1
      rw [if_neg (show ¬ T.getD p 0 = 102 by rw [c1]; decide), if_pos c1]
      obtain ⟨I2, f1, f2, f3, f4⟩ := apC_ok (o := l) hR hln (show p < 12 by omega) (show p + 1 < 12 by omega) (by omega) (cvl (T.getD p 0)) (cv k l m T (p + 1)) (fun j hj => Jq (p + 1) j (by omega) hp1 hj) Jw
      have h32 : TmC I2 t T := h3J.cong (f4 _ hsep.1.symm) (f4 _ hsep.2.1.symm) (f4 _ hsep.2.2.symm)
      obtain ⟨I3, k1, k2, k3, k4⟩ := apC_ok (o := m) hR hln (show p < 12 by omega) (show ep T (p + 1) < 12 by omega) (by omega) _ (cv k l m T (ep T (p + 1))) (fun j hj => by rw [f3 _ (by omega)]; exact Jq (ep T (p + 1)) j (by omega) hp2 hj) f2
      rw [f1, bd1_s, h32.1, if_neg (nI_ge hp1 (by omega)), r1, r3, if_pos (inb_nI (by omega) (by omega)), nI_clamp (show p + 1 < 2 ^ 31 by omega), h32.2.2 (p + 1) hp1, k1, bd1_s]
      refine fin I3 (fun j hj => ?_) (fun j hj => by rw [k3 j hj, f3 j hj]) (fun b hb => by rw [k4 b hb, f4 b hb])
      rw [k2 j hj, cv_g hp hm2 c1]
    · rw [if_neg c1, if_neg c1']
      refine fin J (fun j hj => ?_) (fun _ _ => rfl) (fun _ _ => rfl)
      rw [Jw j hj, cv_l hp c2]
theorem ciC_ok {R : mR} {s a t k l m : Nat} {T : List Int32} (hR : R s 0 = a) (hln : lnC a = 72) (hT : TO R t 12) (hT12 : T.length ≤ 12) (hTm : Tm T) (hsep : a ≠ t ∧ a ≠ t + 1 ∧ a ≠ t + 2) {I : mI} (g3 : TmC I t T) : ∃ I', f_X6_countIn s t (nI k) (nI l) (nI m) I R = some I' ∧ TiC I' a 0 T.length (cv k l m T) ∧ ∀ b, b ≠ a → I' b = I b := by
  obtain ⟨I', e1, e2⟩ := ciC_L hR hln hT hT12 hTm hsep T.length FU I (by rw [FU_eq]; omega) (Nat.le_refl _) g3 (fun p i h1 h2 => by omega)
  refine ⟨I', ?_, e2⟩
  unfold f_X6_countIn
  rw [g3.1, nI_m1, e1]
  rfl
