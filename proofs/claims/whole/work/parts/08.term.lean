/-! ===== Term, as the class has it ===== -/
def TO (R : mR) (t c : Nat) : Prop := R t 0 = t + 1 ∧ R t 1 = t + 2 ∧ lnC (t + 1) = c ∧ lnC (t + 2) = c ∧ c ≤ 60
def TmC (I : mI) (t : Nat) (l : List Int32) : Prop := I t 2 = nI l.length ∧ (∀ k, k < l.length → I (t + 1) k = l.getD k 0) ∧ (∀ k, k < l.length → I (t + 2) k = nI (ep l k))
theorem TmC.cong {I I' : mI} {t : Nat} {l : List Int32} (h : TmC I t l) (h0 : I' t = I t) (h1 : I' (t + 1) = I (t + 1)) (h2 : I' (t + 2) = I (t + 2)) : TmC I' t l := by
  unfold TmC
  rw [h0, h1, h2]
  exact h
theorem pB (c : Int32) : f_X10_partsBehind c = some (nI (wn c)) := by
  unfold f_X10_partsBehind wn
  by_cases h : c = 103
  · rw [if_pos h, if_pos h]; rfl
  · rw [if_neg h, if_neg h]
    by_cases h2 : c = 102
    · rw [if_pos h2, if_pos h2]; rfl
    · rw [if_neg h2, if_neg h2]; rfl
theorem findEnds_in {t c i : Nat} {R : mR} {l : List Int32} (hT : TO R t c) (hc : l.length ≤ c) (x1 : Int32) (I : mI) (h2 : I t 2 = nI l.length) (he : ∀ k, i < k → k < l.length → I (t + 2) k = nI (ep l k)) :
    ∀ (j n e : Nat), j ≤ 9 → j < n → i < e → e ≤ l.length → f_X8_findEnds_L25 n t x1 (nI e) (nI j) I R = some (nI (e + pl j (l.drop e))) := by
  obtain ⟨r0, r1, l0, l1, lc⟩ := hT
  intro j
  induction j with
  | zero =>
    intro n e hj9 hn h1 h3
    obtain ⟨n, rfl⟩ : ∃ q, n = q + 1 := ⟨n - 1, by omega⟩
    rw [f_X8_findEnds_L25, if_pos (show nI 0 ≤ 0 by decide), pl_0]
    rfl
  | succ j ih =>
    intro n e hj9 hn h1 h3
    obtain ⟨n, rfl⟩ : ∃ q, n = q + 1 := ⟨n - 1, by omega⟩
    rw [f_X8_findEnds_L25]
    · rw [if_neg (nI_nle (by omega) (by omega)), h2]
      by_cases hm : l.length ≤ e
      · have : e = l.length := by omega
        subst this
        rw [if_pos (nI_le (Nat.le_refl _) (by omega)), List.drop_length, pl_nil]
        rfl
      · rw [if_neg (nI_ge (by omega) (by omega)), r1, l1, if_pos (inb_nI (by omega) (by omega)), nI_clamp (by omega), he e h1 (by omega), pk_m1,
          ih n (ep l e) (by omega) (by omega) (by have := ep_gt (l := l) (k := e) (by omega); omega) (ep_le (by omega)), pl_ep]
theorem findEnds_out {t c : Nat} {R : mR} {l : List Int32} (hT : TO R t c) (hc : l.length ≤ c) :
    ∀ (i n : Nat) (I : mI), i < n → i ≤ l.length → I t 2 = nI l.length → (∀ k, k < l.length → I (t + 1) k = l.getD k 0) → (∀ k, i ≤ k → k < l.length → I (t + 2) k = nI (ep l k)) → ∃ I', f_X8_findEnds_L7 n t (nI i + (-1)) I R = some I' ∧ (∀ k, k < l.length → I' (t + 2) k = nI (ep l k)) ∧ ∀ a, a ≠ t + 2 → I' a = I a := by
  intro i
  induction i with
  | zero =>
    intro n I hn h1 h2 h3 h4
    obtain ⟨n, rfl⟩ : ∃ q, n = q + 1 := ⟨n - 1, by omega⟩
    rw [f_X8_findEnds_L7, if_pos (show nI 0 + (-1) < 0 by decide)]
    exact ⟨I, rfl, fun k hk => h4 k (by omega) hk, fun _ _ => rfl⟩
  | succ i ih =>
    intro n I hn h1 h2 h3 h4
    obtain ⟨n, rfl⟩ : ∃ q, n = q + 1 := ⟨n - 1, by omega⟩
    obtain ⟨r0, r1, l0, l1, lc⟩ := id hT
    rw [f_X8_findEnds_L7, pk_m1, if_neg (nI_pos (by omega)), r0, r1, l0, l1, if_pos (inb_nI (by omega) (by omega)), nI_clamp (by omega), h3 i (by omega), pB, bd1_s, nI_1,
      findEnds_in hT hc (nI i) I h2 (i := i) (fun k h5 h6 => h4 k (by omega) h6) (wn (l.getD i 0)) FU (i + 1) (by have := wn_le (l.getD i 0); omega) (by have := wn_le (l.getD i 0); rw [FU_eq]; omega) (by omega) (by omega), bd1_s, ← ep_c (by omega), if_pos (inb_nI (by omega) (by omega))]
    simp only [bnd]
    obtain ⟨I', e1, e2, e3⟩ := ih n (u2 I (t + 2) i (nI (ep l i))) (by omega) (by omega) (by rw [u2_n _ _ _ (by omega)]; exact h2) (fun k hk => by rw [u2_n _ _ _ (by omega)]; exact h3 k hk) (fun k h5 h6 => by
      rw [u2_s]
      by_cases hk : k = i
      · subst hk
        rw [va_up_s]
      · rw [va_up_n _ _ hk]
        exact h4 k (by omega) h6)
    exact ⟨I', e1, e2, fun a ha => by rw [e3 a ha, u2_n _ _ _ ha]⟩
theorem nI_m1 (m : Nat) : nI m - 1 = nI m + (-1) := by rw [Int32.sub_eq_add_neg]
theorem findEnds_ok {t c : Nat} {R : mR} {l : List Int32} (hT : TO R t c) (hc : l.length ≤ c) {I : mI} (h2 : I t 2 = nI l.length) (h3 : ∀ k, k < l.length → I (t + 1) k = l.getD k 0) : ∃ I', f_X8_findEnds t I R = some I' ∧ TmC I' t l ∧ ∀ a, a ≠ t + 2 → I' a = I a := by
  obtain ⟨I', e1, e2, e3⟩ := findEnds_out hT hc l.length FU I (by have := hT.2.2.2.2; rw [FU_eq]; omega) (Nat.le_refl _) h2 h3 (fun k h5 h6 => absurd h6 (by omega))
  refine ⟨I', ?_, ⟨by rw [e3 t (by omega)]; exact h2, fun k hk => by rw [e3 (t + 1) (by omega)]; exact h3 k hk, e2⟩, e3⟩
  unfold f_X8_findEnds
  rw [h2, nI_m1, e1]
  rfl
theorem addLetter_ok {t c m : Nat} {R : mR} (hT : TO R t c) {I : mI} (h2 : I t 2 = nI m) (hm : m < c) (x : Int32) : f_X8_addLetter t x I R = some (u2 (u2 I (t + 1) m x) t 2 (nI (m + 1))) := by
  obtain ⟨r0, r1, l0, l1, lc⟩ := hT
  simp only [f_X8_addLetter, bnd]
  rw [r0, l0, h2, if_neg (nI_ge hm (by omega)), if_pos (inb_nI hm (by omega)), nI_clamp (by omega), u2_n _ _ _ (by omega), h2, nI_1]
/-- a Term that is being written: its first letters -/
def TmW (I : mI) (t : Nat) (l : List Int32) : Prop := I t 2 = nI l.length ∧ ∀ k, k < l.length → I (t + 1) k = l.getD k 0
theorem addLetter_w {t c : Nat} {R : mR} (hT : TO R t c) {I : mI} {l : List Int32} (h : TmW I t l) (hm : l.length < c) (x : Int32) : ∃ I', f_X8_addLetter t x I R = some I' ∧ TmW I' t (l ++ [x]) ∧ ∀ a, a ≠ t → a ≠ t + 1 → I' a = I a := by
  refine ⟨_, addLetter_ok hT h.1 hm x, ⟨?_, fun k hk => ?_⟩, fun a h1 h2 => ?_⟩
  · rw [u2_s, va_up_s, List.length_append]
    rfl
  · rw [u2_n _ _ _ (by omega), u2_s]
    by_cases hk2 : k = l.length
    · subst hk2
      rw [va_up_s, show l.length = l.length + 0 by rfl, getD_app_r]
      rfl
    · rw [va_up_n _ _ hk2]
      rw [List.length_append, List.length_singleton] at hk
      rw [getD_app_l (by omega)]
      exact h.2 k (by omega)
  · rw [u2_n _ _ _ h1, u2_n _ _ _ h2]
/-- which unknown a letter is -/
def ub (c : Int32) : Int32 := if c = 120 then 1 else if c = 121 then 2 else 0
theorem uB (c : Int32) : f_X10_unknownBit c = some (ub c) := by
  unfold f_X10_unknownBit ub
  by_cases h : c = 120
  · rw [if_pos h, if_pos h]
  · rw [if_neg h, if_neg h]
    by_cases h2 : c = 121
    · rw [if_pos h2, if_pos h2]
    · rw [if_neg h2, if_neg h2]
def unkF (s : Int32) (l : List Int32) : Int32 := l.foldl (fun s c => s ||| ub c) s
def unkS (l : List Int32) : Int32 := unkF 0 l
theorem unkF_drop {l : List Int32} {k : Nat} (h : k < l.length) (s : Int32) : unkF s (l.drop k) = unkF (s ||| ub (l.getD k 0)) (l.drop (k + 1)) := by rw [drop_c h]; rfl
theorem unknowns_L {t c : Nat} {R : mR} {l : List Int32} (hT : TO R t c) (hc : l.length ≤ c) {I : mI} (h : TmW I t l) :
    ∀ (j n k : Nat) (s : Int32), l.length - k = j → j < n → k ≤ l.length → f_X8_unknowns_L4 n t s (nI k) I R = some (unkF s (l.drop k)) := by
  obtain ⟨r0, r1, l0, l1, lc⟩ := hT
  intro j
  induction j with
  | zero =>
    intro n k s h1 h2 h3
    obtain ⟨n, rfl⟩ : ∃ q, n = q + 1 := ⟨n - 1, by omega⟩
    rw [f_X8_unknowns_L4, h.1, if_pos (nI_le (by omega) (by omega)), List.drop_of_length_le (by omega)]
    rfl
  | succ j ih =>
    intro n k s h1 h2 h3
    obtain ⟨n, rfl⟩ : ∃ q, n = q + 1 := ⟨n - 1, by omega⟩
    rw [f_X8_unknowns_L4, h.1, if_neg (nI_ge (by omega) (by omega)), r0, l0, if_pos (inb_nI (by omega) (by omega)), nI_clamp (by omega), h.2 k (by omega), uB, bd1_s, nI_1, ih n (k + 1) _ (by omega) (by omega) (by omega), unkF_drop (l := l) (k := k) (by omega)]
theorem unknowns_ok {t c : Nat} {R : mR} {l : List Int32} (hT : TO R t c) (hc : l.length ≤ c) {I : mI} (h : TmW I t l) : f_X8_unknowns t I R = some (unkS l) := by
  unfold f_X8_unknowns
  have e := unknowns_L hT hc h l.length FU 0 0 (by omega) (by have := hT.2.2.2.2; rw [FU_eq]; omega) (by omega)
  rw [show (0 : Int32) = nI 0 from rfl, show f_X8_unknowns_L4 FU t (nI 0) (nI 0) I R = f_X8_unknowns_L4 FU t 0 (nI 0) I R from rfl, e, bd1_s, List.drop_zero]
  rfl
theorem copyT_ok {d s c1 c2 : Nat} {R : mR} (hd : TO R d c1) (hs : TO R s c2) (hap : d + 3 ≤ s ∨ s + 3 ≤ d) {I : mI} {l : List Int32} (h : TmC I s l) (h1 : l.length ≤ c1) (h2 : l.length ≤ c2) : ∃ I', f_X8_copyFrom d s I R = some I' ∧ TmC I' d l ∧ ∀ a, a ≠ d → a ≠ d + 1 → a ≠ d + 2 → I' a = I a := by
  obtain ⟨r0, r1, l0, l1, lc⟩ := hd
  obtain ⟨s0, s1, m0, m1, mc⟩ := hs
  obtain ⟨g0, g1, g2⟩ := h
  have hcp : cpok 0 0 (nI l.length) c2 c1 = true := by
    unfold cpok
    rw [nI_clamp (by omega)]
    simp only [Bool.and_eq_true, Bool.not_eq_true', decide_eq_false_iff_not, decide_eq_true_eq]
    exact ⟨⟨⟨⟨by decide, by decide⟩, nI_pos (by omega)⟩, by show 0 + _ ≤ _; omega⟩, by show 0 + _ ≤ _; omega⟩
  simp only [f_X8_copyFrom, bnd]
  rw [r0, r1, s0, s1, l0, l1, m0, m1, g0, if_neg (nI_nlt h1 (by omega)), u2_s, va_up_s, if_pos hcp, va_up_n _ _ (by omega), u2_s, va_up_s, if_pos hcp, nI_clamp (by omega)]
  refine ⟨_, rfl, ⟨?_, fun k hk => ?_, fun k hk => ?_⟩, fun a a0 a1 a2 => ?_⟩
  · rw [va_up_n _ _ (by omega), va_up_n _ _ (by omega), u2_s, va_up_s]
  · rw [va_up_n _ _ (by omega), va_up_s, u2_n _ _ _ (by omega)]
    rw [show (0 : Int32).toNatClampNeg = 0 from rfl, pk_cpy_in (by omega) (by omega)]
    rw [← g1 k hk]
    congr 1
    omega
  · rw [va_up_s, show (0 : Int32).toNatClampNeg = 0 from rfl, pk_cpy_in (by omega) (by omega), va_up_n _ _ (by omega), u2_n _ _ _ (by omega), ← g2 k hk]
    congr 1
    omega
  · rw [va_up_n _ _ a2, va_up_n _ _ a1, u2_n _ _ _ a0]
theorem partSize_ok {t c : Nat} {R : mR} {l : List Int32} (hT : TO R t c) (hc : l.length ≤ c) {I : mI} (h : TmC I t l) {k : Nat} (hk : k < l.length) : f_X8_partSize t (nI k) I R = some (nI (ep l k - k)) := by
  obtain ⟨r0, r1, l0, l1, lc⟩ := hT
  simp only [f_X8_partSize, bnd]
  rw [if_neg (nI_pos (by omega)), h.1, if_neg (nI_ge (by omega) (by omega)), r1, l1, if_pos (inb_nI (by omega) (by omega)), nI_clamp (by omega), h.2.2 k hk, pk_sub (by have := ep_gt (l := l) hk; omega)]
/-- the part at i, as a list -/
def pt (l : List Int32) (i : Nat) : List Int32 := (l.drop i).take (ep l i - i)
theorem pt_len {l : List Int32} {i : Nat} (h : i < l.length) : (pt l i).length = ep l i - i := by
  unfold pt
  rw [List.length_take, List.length_drop]
  have := ep_le (l := l) (k := i) (by omega)
  omega
theorem pt_get {l : List Int32} {i k : Nat} (h : k < ep l i - i) : (pt l i).getD k 0 = l.getD (i + k) 0 := by
  unfold pt
  rw [getD_take h, getD_drop]
theorem sameParts_L {t c : Nat} {R : mR} {l : List Int32} (hT : TO R t c) (hc : l.length ≤ c) {I : mI} (h : TmC I t l) {i j m : Nat} (hi : i + m ≤ l.length) (hj : j + m ≤ l.length) :
    ∀ (q n k : Nat), m - k = q → q < n → k ≤ m → f_X8_sameParts_L57 n t (nI i) (nI j) (nI m) (nI k) I R = some (if (l.drop (i + k)).take (m - k) = (l.drop (j + k)).take (m - k) then Sum.inr () else Sum.inl 0) := by
  obtain ⟨r0, r1, l0, l1, lc⟩ := hT
  intro q
  induction q with
  | zero =>
    intro n k h1 h2 h3
    obtain ⟨n, rfl⟩ : ∃ q, n = q + 1 := ⟨n - 1, by omega⟩
    rw [f_X8_sameParts_L57, if_pos (nI_le (by omega) (by omega)), h1, List.take_zero, List.take_zero, if_pos rfl]
  | succ q ih =>
    intro n k h1 h2 h3
    obtain ⟨n, rfl⟩ : ∃ q, n = q + 1 := ⟨n - 1, by omega⟩
    rw [f_X8_sameParts_L57, if_neg (nI_ge (by omega) (by omega)), r0, l0, nI_add, nI_add, if_pos (inb_nI (by omega) (by omega)), if_pos (inb_nI (by omega) (by omega)), nI_clamp (by omega), nI_clamp (by omega), h.2.1 _ (by omega), h.2.1 _ (by omega), nI_1,
      drop_c (l := l) (k := i + k) (by omega), drop_c (l := l) (k := j + k) (by omega), show m - k = (m - (k + 1)) + 1 by omega, List.take_succ_cons, List.take_succ_cons]
    by_cases he : l.getD (i + k) 0 = l.getD (j + k) 0
    · rw [if_pos he, ih n (k + 1) (by omega) (by omega) (by omega), he]
      simp only [List.cons.injEq, true_and]
      rfl
    · rw [if_neg he, if_neg (fun hh => he (List.cons.inj hh).1)]
theorem nI_inj {a b : Nat} (ha : a < 2 ^ 31) (hb : b < 2 ^ 31) (h : nI a = nI b) : a = b := (nI_eq ha hb).mp h
theorem sameParts_ok {t c : Nat} {R : mR} {l : List Int32} (hT : TO R t c) (hc : l.length ≤ c) {I : mI} (h : TmC I t l) {i j : Nat} (hi : i < l.length) (hj : j < l.length) : f_X8_sameParts t (nI i) (nI j) I R = some (if pt l i = pt l j then 1 else 0) := by
  obtain ⟨r0, r1, l0, l1, lc⟩ := id hT
  have gi := ep_gt hi
  have gj := ep_gt hj
  have li := ep_le (l := l) (k := i) (by omega)
  have lj := ep_le (l := l) (k := j) (by omega)
  simp only [f_X8_sameParts]
  rw [if_neg (nI_pos (by omega)), h.1, if_neg (nI_ge hi (by omega)), if_neg (nI_pos (by omega)), if_neg (nI_ge hj (by omega)), r1, l1, if_pos (inb_nI (by omega) (by omega)), if_pos (inb_nI (by omega) (by omega)), nI_clamp (by omega), nI_clamp (by omega), h.2.2 i hi, h.2.2 j hj, pk_sub (by omega), pk_sub (by omega)]
  by_cases he : ep l i - i = ep l j - j
  · rw [if_pos (by rw [he])]
    have e := sameParts_L hT hc h (i := i) (j := j) (m := ep l i - i) (by omega) (by omega) (ep l i - i) FU 0 (by omega) (by rw [FU_eq]; omega) (by omega)
    rw [show nI 0 = 0 from rfl] at e
    rw [e]
    have hpt : (List.take (ep l i - i - 0) (List.drop (i + 0) l) = List.take (ep l i - i - 0) (List.drop (j + 0) l)) = (pt l i = pt l j) := by
      unfold pt
      rw [Nat.add_zero, Nat.add_zero, Nat.sub_zero, he]
    by_cases hh : pt l i = pt l j
    · rw [if_pos (by rw [hpt]; exact hh), bdS_r, if_pos hh]
      rfl
    · rw [if_neg (by rw [hpt]; exact hh), bdS_l, if_neg hh]
      rfl
  · have hne : ¬ pt l i = pt l j := by
      intro q
      apply he
      rw [← pt_len hi, ← pt_len hj, q]
    rw [if_neg (fun q => he (nI_inj (by omega) (by omega) q)), if_neg hne]
theorem addPart_L {t s c c2 : Nat} {R : mR} {l : List Int32} (hT : TO R t c) (hs : TO R s c2) (hap : t + 3 ≤ s ∨ s + 3 ≤ t) (hc : l.length ≤ c2) {e : Nat} (he : e ≤ l.length) :
    ∀ (q n k : Nat) (I : mI) (w : List Int32), e - k = q → q < n → k ≤ e → TmC I s l → TmW I t w → w.length + (e - k) ≤ c → ∃ I', f_X8_addPart_L23 n t s (nI e) (nI k) I R = some I' ∧ TmW I' t (w ++ (l.drop k).take (e - k)) ∧ ∀ a, a ≠ t → a ≠ t + 1 → I' a = I a := by
  obtain ⟨r0, r1, l0, l1, lc⟩ := id hs
  intro q
  induction q with
  | zero =>
    intro n k I w h1 h2 h3 h4 h5 h6
    obtain ⟨n, rfl⟩ : ∃ q, n = q + 1 := ⟨n - 1, by omega⟩
    rw [f_X8_addPart_L23, if_pos (nI_le (by omega) (by omega))]
    refine ⟨I, rfl, ?_, fun _ _ _ => rfl⟩
    rw [h1, List.take_zero, List.append_nil]
    exact h5
  | succ q ih =>
    intro n k I w h1 h2 h3 h4 h5 h6
    obtain ⟨n, rfl⟩ : ∃ q, n = q + 1 := ⟨n - 1, by omega⟩
    rw [f_X8_addPart_L23, if_neg (nI_ge (by omega) (by omega)), r0, l0, if_pos (inb_nI (by omega) (by omega)), nI_clamp (by omega), h4.2.1 k (by omega)]
    obtain ⟨I1, e1, e2, e3⟩ := addLetter_w hT h5 (by omega) (l.getD k 0)
    rw [e1, bd1_s, nI_1]
    obtain ⟨I2, f1, f2, f3⟩ := ih n (k + 1) I1 _ (by omega) (by omega) (by omega) (h4.cong (e3 _ (by omega) (by omega)) (e3 _ (by omega) (by omega)) (e3 _ (by omega) (by omega))) e2 (by rw [List.length_append, List.length_singleton]; omega)
    refine ⟨I2, f1, ?_, fun a h7 h8 => by rw [f3 a h7 h8, e3 a h7 h8]⟩
    rw [List.append_assoc] at f2
    rw [drop_c (l := l) (k := k) (by omega), show e - k = (e - (k + 1)) + 1 by omega, List.take_succ_cons]
    exact f2
theorem addPart_ok {t s c c2 : Nat} {R : mR} {l : List Int32} (hT : TO R t c) (hs : TO R s c2) (hap : t + 3 ≤ s ∨ s + 3 ≤ t) (hc : l.length ≤ c2) {I : mI} {w : List Int32} (h4 : TmC I s l) (h5 : TmW I t w) {i : Nat} (hi : i < l.length) (h6 : w.length + (pt l i).length ≤ c) : ∃ I', f_X8_addPart t s (nI i) I R = some I' ∧ TmW I' t (w ++ pt l i) ∧ ∀ a, a ≠ t → a ≠ t + 1 → I' a = I a := by
  obtain ⟨r0, r1, l0, l1, lc⟩ := id hs
  have gi := ep_gt hi
  have li := ep_le (l := l) (k := i) (by omega)
  rw [pt_len hi] at h6
  obtain ⟨I', e1, e2, e3⟩ := addPart_L hT hs hap hc li (ep l i - i) FU i I w rfl (by rw [FU_eq]; omega) (by omega) h4 h5 h6
  refine ⟨I', ?_, e2, e3⟩
  simp only [f_X8_addPart]
  rw [if_neg (nI_pos (by omega)), h4.1, if_pos (nI_lt hi (by omega)), r1, l1, if_pos (inb_nI (by omega) (by omega)), nI_clamp (by omega), h4.2.2 i hi, e1, bd1_s]
