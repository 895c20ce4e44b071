/-! ===== the model's memory ===== -/
def I0 : mI := fun _ _ => 0
def L0 : mL := fun _ _ => 0
def R0 : mR := fun _ _ => NUL
def R1M : mR := u2 (u2 (u2 (u2 (u2 (u2 (u2 (u2 (u2 (u2 (u2 (u2 (u2 (u2 (u2 (u2 (u2 (u2 (u2 (u2 R0 0 0 1) 0 1 2) 0 2 3) 0 4 4) 0 5 5) 0 8 6) 0 10 7) 0 12 8) 0 13 9) 0 14 10) 0 15 11) 0 16 12) 0 17 13) 0 19 14) 0 20 15) 0 21 16) 0 23 17) 0 25 18) 0 26 19) 0 27 20
theorem mr0 : R1M 0 0 = 1 := by decide +kernel
theorem mr1 : R1M 0 1 = 2 := by decide +kernel
theorem mr2 : R1M 0 2 = 3 := by decide +kernel
theorem mr4 : R1M 0 4 = 4 := by decide +kernel
theorem mr5 : R1M 0 5 = 5 := by decide +kernel
theorem mr8 : R1M 0 8 = 6 := by decide +kernel
theorem mr10 : R1M 0 10 = 7 := by decide +kernel
theorem mr12 : R1M 0 12 = 8 := by decide +kernel
theorem mr13 : R1M 0 13 = 9 := by decide +kernel
theorem mr14 : R1M 0 14 = 10 := by decide +kernel
theorem mr15 : R1M 0 15 = 11 := by decide +kernel
theorem mr16 : R1M 0 16 = 12 := by decide +kernel
theorem mr17 : R1M 0 17 = 13 := by decide +kernel
theorem mr19 : R1M 0 19 = 14 := by decide +kernel
theorem mr20 : R1M 0 20 = 15 := by decide +kernel
theorem mr21 : R1M 0 21 = 16 := by decide +kernel
theorem mr23 : R1M 0 23 = 17 := by decide +kernel
theorem mr25 : R1M 0 25 = 18 := by decide +kernel
theorem mr26 : R1M 0 26 = 19 := by decide +kernel
theorem mr27 : R1M 0 27 = 20 := by decide +kernel
theorem lm1 : lnM 1 = 192 := rfl
theorem lm2 : lnM 2 = 192 := rfl
theorem lm3 : lnM 3 = 960 := rfl
theorem lm4 : lnM 4 = 3 := rfl
theorem lm5 : lnM 5 = 120 := rfl
theorem lm6 : lnM 6 = 300 := rfl
theorem lm7 : lnM 7 = 100 := rfl
theorem lm8 : lnM 8 = 7 := rfl
theorem lm9 : lnM 9 = 64 := rfl
theorem lm10 : lnM 10 = 64 := rfl
theorem lm11 : lnM 11 = 64 := rfl
theorem lm12 : lnM 12 = 60 := rfl
theorem lm13 : lnM 13 = 60 := rfl
theorem lm14 : lnM 14 = 3600 := rfl
theorem lm15 : lnM 15 = 3600 := rfl
theorem lm16 : lnM 16 = 60 := rfl
theorem lm17 : lnM 17 = 200 := rfl
theorem lm18 : lnM 18 = 200 := rfl
theorem lm19 : lnM 19 = 2 := rfl
theorem lm20 : lnM 20 = 2 := rfl
theorem i32_a (x z : Int32) : x + 1 + (z - 1) = x + z := by grind
theorem wM (c : Int32) : f_X11_wants c = some (nI (wn c)) := by
  unfold f_X11_wants wn
  by_cases h : c = 102
  · subst h; rfl
  · rw [if_neg h]
    by_cases h2 : c = 103
    · rw [if_pos h2, if_pos h2]; rfl
    · rw [if_neg h2, if_neg h2, if_neg h]; rfl
theorem iUM (c : Int32) : f_X11_isUnknown c = some (if c = 120 ∨ c = 121 then 1 else 0) := by
  simp only [f_X11_isUnknown, bnd]
  by_cases h1 : c = 120
  · rw [if_pos h1, if_pos (Or.inl h1)]
  · rw [if_neg h1]
    by_cases h2 : c = 121
    · rw [if_pos h2, if_pos (Or.inr h2)]
    · rw [if_neg h2, if_neg (fun q => q.elim h1 h2)]
theorem longAt_L {a o : Nat} {s : List Int32} {I : mI} (hs : ∀ k, k < s.length → I a (o + k) = s.getD k 0) (hn : o + s.length ≤ lnM a) (hb : lnM a ≤ 5000) :
    ∀ (q n k need m : Nat), s.length - k = q → q < n → k ≤ s.length → need ≤ 5000 → wfb (need + m) (s.drop k) = true → f_X11_longAt_L4 n a (nI o) (nI need) (nI k) I = some (nI (k + pl need (s.drop k))) := by
  intro q
  induction q with
  | zero =>
    intro n k need m h1 h2 h3 h4 h5
    obtain ⟨n, rfl⟩ : ∃ q, n = q + 1 := ⟨n - 1, by omega⟩
    rw [List.drop_of_length_le (by omega)] at h5 ⊢
    cases need with
    | zero =>
      rw [f_X11_longAt_L4, if_pos (show nI 0 ≤ 0 by decide), pl_nil]
      rfl
    | succ z => rw [show z + 1 + m = (z + m) + 1 by omega] at h5; cases h5
  | succ q ih =>
    intro n k need m h1 h2 h3 h4 h5
    obtain ⟨n, rfl⟩ : ∃ q, n = q + 1 := ⟨n - 1, by omega⟩
    cases need with
    | zero =>
      rw [f_X11_longAt_L4, if_pos (show nI 0 ≤ 0 by decide), pl_0]
      rfl
    | succ z =>
      have hk : k < s.length := by omega
      have hw := wn_le (s.getD k 0)
      rw [f_X11_longAt_L4, if_neg (nI_nle (by omega) (by omega)), nI_add, if_pos (inb_nI (by omega) (by omega)), nI_clamp (by omega), hs k hk, wM, bd1_s, nI_1 k, ← nI_1 z, i32_a, nI_add]
      rw [drop_c hk] at h5
      rw [show z + 1 + m = (z + m) + 1 by omega, wfb_cons] at h5
      by_cases hz : z + wn (s.getD k 0) ≤ 5000
      · rw [ih n (k + 1) (z + wn (s.getD k 0)) m (by omega) (by omega) (by omega) hz (by rw [show z + wn (s.getD k 0) + m = z + m + wn (s.getD k 0) by omega]; exact h5), drop_c hk, pl_cons]
        congr 2
        omega
      · exfalso
        have h6 : ∀ (l : List Int32) (n : Nat), wfb n l = true → n ≤ l.length := by
          intro l
          induction l with
          | nil => intro n h; cases n with
            | zero => exact Nat.le_refl _
            | succ n => cases h
          | cons c cs ih => intro n h; cases n with
            | zero => exact Nat.zero_le _
            | succ n =>
              rw [wfb_cons] at h
              have := ih _ h
              rw [List.length_cons]
              omega
        have h7 := h6 _ _ h5
        rw [List.length_drop] at h7
        omega
theorem longAt_ok {a o m : Nat} {s : List Int32} {I : mI} (hs : ∀ k, k < s.length → I a (o + k) = s.getD k 0) (hn : o + s.length ≤ lnM a) (hb : lnM a ≤ 5000) (hw : wfb (m + 1) s = true) : f_X11_longAt a (nI o) I = some (nI (pl 1 s)) := by
  unfold f_X11_longAt
  have e := longAt_L hs hn hb s.length FU 0 1 m (by omega) (by rw [FU_eq]; omega) (by omega) (by omega) (by rw [List.drop_zero, Nat.add_comm]; exact hw)
  rw [show nI 1 = 1 from rfl, show nI 0 = 0 from rfl, List.drop_zero, Nat.zero_add] at e
  rw [e]
  rfl
/-- the term that is turned -/
def TuM (I : mI) (l : List Int32) : Prop := I 0 24 = nI l.length ∧ ∀ k, k < l.length → I 17 k = l.getD k 0
theorem TuM.cong {I I' : mI} {l : List Int32} (h : TuM I l) (h0 : I' 0 24 = I 0 24) (h1 : I' 17 = I 17) : TuM I' l := by
  unfold TuM
  rw [h0, h1]
  exact h
theorem longT {I : mI} {l : List Int32} (h : TuM I l) (hl : Tm l) (h60 : l.length ≤ 60) {i : Nat} (hi : i < l.length) : f_X11_longAt 17 (nI i) I = some (nI (ep l i - i)) := by
  obtain ⟨m, hm⟩ := wfb_drop l 1 i hl.1 hi
  rw [longAt_ok (s := l.drop i) (m := m) (fun k hk => by rw [List.length_drop] at hk; rw [getD_drop]; exact h.2 _ (by omega)) (by rw [List.length_drop, lm17]; omega) (by rw [lm17]; omega) hm]
  unfold ep
  rw [show i + pl 1 (l.drop i) - i = pl 1 (l.drop i) by omega]
def RuM (ρ : Nat → Int32) (r : Nat) (u : Ru) : Prop := ρ (1 + 26 * r) = nI u.1.length ∧ ρ (2 + 26 * r) = nI u.2.length ∧ (∀ k, k < u.1.length → ρ (3 + 26 * r + k) = u.1.getD k 0) ∧ (∀ k, k < u.2.length → ρ (15 + 26 * r + k) = u.2.getD k 0)
def RsM (ρ : Nat → Int32) (rs : List Ru) : Prop := ρ 0 = nI rs.length ∧ ∀ r, r < rs.length → RuM ρ r (rs.getD r dRu)
theorem leftOf_ok (r : Nat) : f_X11_leftOf (nI r) = some (nI (3 + 26 * r)) := by
  unfold f_X11_leftOf
  rw [show (1 : Int32) = nI 1 from rfl, show (26 : Int32) = nI 26 from rfl, show (2 : Int32) = nI 2 from rfl, pk_mul, nI_add, nI_add]
  congr 2
  omega
theorem rightOf_ok (r : Nat) : f_X11_rightOf (nI r) = some (nI (15 + 26 * r)) := by
  unfold f_X11_rightOf
  rw [show (1 : Int32) = nI 1 from rfl, show (26 : Int32) = nI 26 from rfl, show (14 : Int32) = nI 14 from rfl, pk_mul, nI_add, nI_add]
  congr 2
  omega
theorem leftLong_ok {I : mI} {a r : Nat} (ha : lnM a = 192) (hr : r < 5) : f_X11_leftLong a (nI r) I = some (I a (1 + 26 * r)) := by
  unfold f_X11_leftLong
  rw [show (1 : Int32) = nI 1 from rfl, show (26 : Int32) = nI 26 from rfl, pk_mul, nI_add, ha, if_pos (inb_nI (by omega) (by omega)), nI_clamp (by omega)]
theorem rightLong_ok {I : mI} {a r : Nat} (ha : lnM a = 192) (hr : r < 5) : f_X11_rightLong a (nI r) I = some (I a (2 + 26 * r)) := by
  unfold f_X11_rightLong
  rw [show (1 : Int32) = nI 1 from rfl, show (26 : Int32) = nI 26 from rfl, pk_mul, nI_add, nI_add, ha, if_pos (inb_nI (by omega) (by omega)), nI_clamp (by omega), show 1 + 26 * r + 1 = 2 + 26 * r by omega]
/-- what stands for an unknown, as the model keeps it -/
def BM (I : mI) (l : List Int32) (u : Nat) (o : Option Nat) : Prop := match o with
  | none => I 20 u = 0
  | some b => b < l.length ∧ I 19 u = nI b ∧ I 20 u = nI (ep l b - b)
theorem BM.inO {I : mI} {l : List Int32} {u : Nat} {o : Option Nat} (h : BM I l u o) : inO o l.length := by
  cases o with
  | none => exact inO_none _
  | some b => exact inO_some h.1
theorem bindsM_L {I : mI} {l : List Int32} (h : TuM I l) (h60 : l.length ≤ 60) {u i b m : Nat} (hu : u < 2) (hb : I 19 u = nI b) (hbm : b + m ≤ l.length) (him : i + m ≤ l.length) :
    ∀ (q n k : Nat) (z : Int32), m - k = q → q < n → k ≤ m → (z = 0 ∨ z = 1) → f_X11_binds_L54 n 0 (nI u) (nI i) (nI m) z (nI k) I R1M = some (if z = 1 ∧ (l.drop (b + k)).take (m - k) = (l.drop (i + k)).take (m - k) then 1 else 0) := by
  intro q
  induction q with
  | zero =>
    intro n k z h1 h2 h3 hz
    obtain ⟨n, rfl⟩ : ∃ q, n = q + 1 := ⟨n - 1, by omega⟩
    rw [f_X11_binds_L54, if_pos (nI_le (by omega) (by omega)), h1, List.take_zero, List.take_zero]
    rcases hz with rfl | rfl <;> simp
  | succ q ih =>
    intro n k z h1 h2 h3 hz
    obtain ⟨n, rfl⟩ : ∃ q, n = q + 1 := ⟨n - 1, by omega⟩
    rw [f_X11_binds_L54]
    simp only [bnd]
    rw [if_neg (nI_ge (by omega) (by omega))]
    rcases hz with rfl | rfl
    · rw [if_pos rfl]
      simp
    · rw [if_neg n10, mr26, mr23, lm19, lm17, if_pos (inb_nI hu (by omega)), nI_clamp (show u < 2 ^ 31 by omega), hb, nI_add, nI_add, if_pos (inb_nI (by omega) (by omega)), if_pos (inb_nI (by omega) (by omega)), nI_clamp (show b + k < 2 ^ 31 by omega), nI_clamp (show i + k < 2 ^ 31 by omega), h.2 _ (by omega), h.2 _ (by omega), nI_1 k, drop_c (l := l) (k := b + k) (by omega), drop_c (l := l) (k := i + k) (by omega), show m - k = (m - (k + 1)) + 1 by omega, List.take_succ_cons, List.take_succ_cons]
      by_cases he : l.getD (b + k) 0 = l.getD (i + k) 0
      · rw [if_pos he, ih n (k + 1) 1 (by omega) (by omega) (by omega) (Or.inr rfl), he]
        simp only [List.cons.injEq, true_and]
        rfl
      · rw [if_neg he, ih n (k + 1) 0 (by omega) (by omega) (by omega) (Or.inl rfl), if_neg (fun q => absurd q.1 (by decide)), if_neg (fun q => he (List.cons.inj q.2).1)]
theorem binds0 (n x0 : Nat) (x1 x2 x3 x5 : Int32) (I : mI) (R : mR) : f_X11_binds_L54 (n + 1) x0 x1 x2 x3 0 x5 I R = some 0 := by
  rw [f_X11_binds_L54]
  by_cases h : x3 ≤ x5
  · rw [if_pos h]
  · rw [if_neg h, if_pos rfl]
theorem bindsM_s1 {I : mI} {l : List Int32} (h : TuM I l) (hl : Tm l) (h60 : l.length ≤ 60) {u i : Nat} (hu : u < 2) (hi : i < l.length) (hb : I 20 u = 0) : f_X11_binds 0 (nI u) (nI i) I R1M = some (1, u2 (u2 I 19 u (nI i)) 20 u (nI (ep l i - i))) := by
  simp only [f_X11_binds, bnd]
  rw [mr23, longT h hl h60 hi, bd1_s, mr27, mr26, lm20, lm19, if_pos (inb_nI hu (by omega)), nI_clamp (show u < 2 ^ 31 by omega), hb, if_pos rfl, if_pos (inb_nI hu (by omega))]
theorem bindsM_s2 {I : mI} {l : List Int32} (h : TuM I l) (hl : Tm l) (h60 : l.length ≤ 60) {u i b : Nat} (hu : u < 2) (hi : i < l.length) (hb : BM I l u (some b)) : f_X11_binds 0 (nI u) (nI i) I R1M = some (if pt l b = pt l i then 1 else 0, I) := by
  obtain ⟨b1, b2, b3⟩ := hb
  have gi := ep_gt hi
  have gb := ep_gt b1
  have li := ep_le (l := l) (k := i) (by omega)
  have lb := ep_le (l := l) (k := b) (by omega)
  simp only [f_X11_binds, bnd]
  rw [mr23, longT h hl h60 hi, bd1_s, mr27, mr26, lm20, lm19, if_pos (inb_nI hu (by omega)), nI_clamp (show u < 2 ^ 31 by omega), b3, if_neg (nI_ne0 (by omega) (by omega))]
  by_cases he : ep l b - b = ep l i - i
  · have e := bindsM_L h h60 hu b2 (m := ep l i - i) (i := i) (by omega) (by omega) (ep l i - i) FU 0 1 (by omega) (by rw [FU_eq]; omega) (by omega) (Or.inr rfl)
    rw [show nI 0 = 0 from rfl] at e
    have hpt : ((1 : Int32) = 1 ∧ List.take (ep l i - i - 0) (List.drop (b + 0) l) = List.take (ep l i - i - 0) (List.drop (i + 0) l)) ↔ (pt l b = pt l i) := by
      unfold pt
      rw [Nat.add_zero, Nat.add_zero, Nat.sub_zero, he]
      simp
    rw [if_pos (by rw [he]), e, bd1_s]
    by_cases hh : pt l b = pt l i
    · rw [if_pos hh, if_pos (hpt.mpr hh)]
      rfl
    · rw [if_neg hh, if_neg (fun q => hh (hpt.mp q))]
      rfl
  · have hne : ¬ pt l b = pt l i := by
      intro q
      apply he
      rw [← pt_len hi, ← pt_len b1, q]
    rw [if_neg (fun q => he (nI_inj (by omega) (by omega) q)), FU_eq, binds0, bd1_s, if_neg hne]
    rfl
theorem BM.cong {I I' : mI} {l : List Int32} {u : Nat} {o : Option Nat} (h : BM I l u o) (h1 : I' 19 u = I 19 u) (h2 : I' 20 u = I 20 u) : BM I' l u o := by
  cases o with
  | none => exact h2.trans h
  | some b => exact ⟨h.1, h1.trans h.2.1, h2.trans h.2.2⟩
theorem fitsM_L {l : List Int32} {rs : List Ru} {r : Nat} {ρ : Nat → Int32} (hl : Tm l) (h60 : l.length ≤ 60) (hr : r < 5) {u : Ru} (hu : RuM ρ r u) (hp12 : u.1.length ≤ 12) :
    ∀ (q n k i a m : Nat) (I : mI) (bx bz : Option Nat), u.1.length - k = q → q < n → k ≤ u.1.length → wfb a (u.1.drop k) = true → wfb (a + m) (l.drop i) = true → I 1 = ρ → TuM I l → BM I l 0 bx → BM I l 1 bz →
      ∃ I', ((fitF l (u.1.drop k) i bx bz = none ∧ f_X11_fits_L19 n 0 (nI r) (nI i) (nI k) I R1M = some (Sum.inl (0, I'))) ∨ ∃ bx' bz', fitF l (u.1.drop k) i bx bz = some (bx', bz') ∧ f_X11_fits_L19 n 0 (nI r) (nI i) (nI k) I R1M = some (Sum.inr I') ∧ BM I' l 0 bx' ∧ BM I' l 1 bz') ∧ ∀ a, a ≠ 19 → a ≠ 20 → I' a = I a := by
  intro q
  induction q with
  | zero =>
    intro n k i a m I bx bz h1 h2 h3 h4 h5 h6 h7 h8 h9
    obtain ⟨n, rfl⟩ : ∃ q, n = q + 1 := ⟨n - 1, by omega⟩
    refine ⟨I, Or.inr ⟨bx, bz, ?_, ?_, h8, h9⟩, fun _ _ _ => rfl⟩
    · rw [List.drop_of_length_le (by omega)]
      rfl
    · rw [f_X11_fits_L19, mr0, leftLong_ok lm1 hr, bd1_s, h6, hu.1, if_pos (nI_le (by omega) (by omega))]
  | succ q ih =>
    intro n k i a m I bx bz h1 h2 h3 h4 h5 h6 h7 h8 h9
    obtain ⟨n, rfl⟩ : ∃ q, n = q + 1 := ⟨n - 1, by omega⟩
    have hk : k < u.1.length := by omega
    rw [drop_c hk] at h4 ⊢
    obtain ⟨a, rfl⟩ : ∃ z, a = z + 1 := by
      cases a with
      | zero => cases h4
      | succ z => exact ⟨z, rfl⟩
    rw [wfb_cons] at h4
    obtain ⟨hi, hnx⟩ := wf_next h5
    have gi := ep_gt hi
    have li := ep_le (l := l) (k := i) (by omega)
    rw [f_X11_fits_L19]
    simp only [bnd]
    rw [mr0, leftLong_ok lm1 hr, bd1_s, h6, hu.1, if_neg (nI_ge (by omega) (by omega)), leftOf_ok, bd1_s, nI_add, lm1, if_pos (inb_nI (by omega) (by omega)), nI_clamp (show 3 + 26 * r + k < 2 ^ 31 by omega), hu.2.2.1 k hk, iUM, bd1_s, nI_1 k, mr23, lm17]
    have bound : ∀ (v : Nat) (b : Nat), v < 2 → BM I l v (some b) → u.1.getD k 0 - 120 = nI v → wn (u.1.getD k 0) = 0 → (u.1.getD k 0 = 120 ∨ u.1.getD k 0 = 121) →
        (if (if u.1.getD k 0 = 120 ∨ u.1.getD k 0 = 121 then (1 : Int32) else 0) = 0 then if inb (nI i) 200 = true then if u.1.getD k 0 = I 17 (nI i).toNatClampNeg then f_X11_fits_L19 n 0 (nI r) (nI i + 1) (nI (k + 1)) I R1M else some (Sum.inl (0, I)) else none else bd2 (f_X11_binds 0 (u.1.getD k 0 - 120) (nI i) I R1M) fun r17 I17 => if r17 = 0 then some (Sum.inl (0, I17)) else bd1 (f_X11_longAt 17 (nI i) I17) fun r20 => f_X11_fits_L19 n 0 (nI r) (nI i + r20) (nI (k + 1)) I17 R1M) = if pt l b = pt l i then f_X11_fits_L19 n 0 (nI r) (nI (ep l i)) (nI (k + 1)) I R1M else some (Sum.inl (0, I)) := by
      intro v b hv hb hc hw hux
      rw [if_pos hux, if_neg n10, hc, bindsM_s2 h7 hl h60 hv hi hb, bd2_s]
      by_cases he : pt l b = pt l i
      · rw [if_pos he, if_neg n10, longT h7 hl h60 hi, bd1_s, nI_add, if_pos he, show i + (ep l i - i) = ep l i by omega]
      · rw [if_neg he, if_pos rfl, if_neg he]
    have free : ∀ (v : Nat), v < 2 → I 20 v = 0 → u.1.getD k 0 - 120 = nI v → (u.1.getD k 0 = 120 ∨ u.1.getD k 0 = 121) →
        (if (if u.1.getD k 0 = 120 ∨ u.1.getD k 0 = 121 then (1 : Int32) else 0) = 0 then if inb (nI i) 200 = true then if u.1.getD k 0 = I 17 (nI i).toNatClampNeg then f_X11_fits_L19 n 0 (nI r) (nI i + 1) (nI (k + 1)) I R1M else some (Sum.inl (0, I)) else none else bd2 (f_X11_binds 0 (u.1.getD k 0 - 120) (nI i) I R1M) fun r17 I17 => if r17 = 0 then some (Sum.inl (0, I17)) else bd1 (f_X11_longAt 17 (nI i) I17) fun r20 => f_X11_fits_L19 n 0 (nI r) (nI i + r20) (nI (k + 1)) I17 R1M) = f_X11_fits_L19 n 0 (nI r) (nI (ep l i)) (nI (k + 1)) (u2 (u2 I 19 v (nI i)) 20 v (nI (ep l i - i))) R1M := by
      intro v hv hb hc hux
      have h7' : TuM (u2 (u2 I 19 v (nI i)) 20 v (nI (ep l i - i))) l := h7.cong (by rw [u2_n _ _ _ (by decide), u2_n _ _ _ (by decide)]) (by rw [u2_n _ _ _ (by decide), u2_n _ _ _ (by decide)])
      rw [if_pos hux, if_neg n10, hc, bindsM_s1 h7 hl h60 hv hi hb, bd2_s, if_neg n10, longT h7' hl h60 hi, bd1_s, nI_add, show i + (ep l i - i) = ep l i by omega]
    have hfr : ∀ (v : Nat), TuM (u2 (u2 I 19 v (nI i)) 20 v (nI (ep l i - i))) l ∧ (u2 (u2 I 19 v (nI i)) 20 v (nI (ep l i - i))) 1 = ρ := fun v => ⟨h7.cong (by rw [u2_n _ _ _ (by decide), u2_n _ _ _ (by decide)]) (by rw [u2_n _ _ _ (by decide), u2_n _ _ _ (by decide)]), by rw [u2_n _ _ _ (by decide), u2_n _ _ _ (by decide)]; exact h6⟩
    by_cases hx : u.1.getD k 0 = 120
    · rw [wn_unk (Or.inl hx), Nat.add_zero] at h4
      have hc : u.1.getD k 0 - 120 = nI 0 := by rw [hx]; rfl
      cases bx with
      | none =>
        rw [free 0 (by decide) h8 hc (Or.inl hx)]
        simp only [fitF, hx, if_pos]
        obtain ⟨I', e1, e2⟩ := ih n (k + 1) (ep l i) a m (u2 (u2 I 19 0 (nI i)) 20 0 (nI (ep l i - i))) (some i) bz (by omega) (by omega) (by omega) h4 hnx (hfr 0).2 (hfr 0).1 ⟨hi, by rw [u2_n _ _ _ (by decide), u2_s, va_up_s], by rw [u2_s, va_up_s]⟩ (h9.cong (by rw [u2_n _ _ _ (by decide), u2_s, va_up_n _ _ (by decide)]) (by rw [u2_s, va_up_n _ _ (by decide), u2_n _ _ _ (by decide)]))
        exact ⟨I', e1, fun x x1 x2 => by rw [e2 x x1 x2, u2_n _ _ _ x2, u2_n _ _ _ x1]⟩
      | some b =>
        rw [bound 0 b (by decide) h8 hc (wn_unk (Or.inl hx)) (Or.inl hx)]
        simp only [fitF, hx, if_pos]
        by_cases he : pt l b = pt l i
        · rw [if_pos he, if_pos he]
          exact ih n (k + 1) (ep l i) a m I (some b) bz (by omega) (by omega) (by omega) h4 hnx h6 h7 h8 h9
        · rw [if_neg he, if_neg he]
          exact ⟨I, Or.inl ⟨rfl, rfl⟩, fun _ _ _ => rfl⟩
    · by_cases hy : u.1.getD k 0 = 121
      · rw [wn_unk (Or.inr hy), Nat.add_zero] at h4
        have hc : u.1.getD k 0 - 120 = nI 1 := by rw [hy]; rfl
        cases bz with
        | none =>
          rw [free 1 (by decide) h9 hc (Or.inr hy)]
          simp only [fitF, if_neg hx, hy, if_pos]
          rw [if_neg (show ¬ (121 : Int32) = 120 by decide)]
          obtain ⟨I', e1, e2⟩ := ih n (k + 1) (ep l i) a m (u2 (u2 I 19 1 (nI i)) 20 1 (nI (ep l i - i))) bx (some i) (by omega) (by omega) (by omega) h4 hnx (hfr 1).2 (hfr 1).1 (h8.cong (by rw [u2_n _ _ _ (by decide), u2_s, va_up_n _ _ (by decide)]) (by rw [u2_s, va_up_n _ _ (by decide), u2_n _ _ _ (by decide)])) ⟨hi, by rw [u2_n _ _ _ (by decide), u2_s, va_up_s], by rw [u2_s, va_up_s]⟩
          exact ⟨I', e1, fun x x1 x2 => by rw [e2 x x1 x2, u2_n _ _ _ x2, u2_n _ _ _ x1]⟩
        | some b =>
          rw [bound 1 b (by decide) h9 hc (wn_unk (Or.inr hy)) (Or.inr hy)]
          simp only [fitF, if_neg hx, hy, if_pos]
          rw [if_neg (show ¬ (121 : Int32) = 120 by decide)]
          by_cases he : pt l b = pt l i
          · rw [if_pos he, if_pos he]
            exact ih n (k + 1) (ep l i) a m I bx (some b) (by omega) (by omega) (by omega) h4 hnx h6 h7 h8 h9
          · rw [if_neg he, if_neg he]
            exact ⟨I, Or.inl ⟨rfl, rfl⟩, fun _ _ _ => rfl⟩
      · rw [if_neg (show ¬ (u.1.getD k 0 = 120 ∨ u.1.getD k 0 = 121) from fun q => q.elim hx hy), if_pos rfl, if_pos (inb_nI (by omega) (by omega)), nI_clamp (show i < 2 ^ 31 by omega), h7.2 i hi, nI_1 i]
        simp only [fitF, if_neg hx, if_neg hy]
        by_cases he : l.getD i 0 = u.1.getD k 0
        · rw [if_pos he.symm, if_pos he]
          have hw := wf_in h5
          rw [he] at hw
          exact ih n (k + 1) (i + 1) _ m I bx bz (by omega) (by omega) (by omega) h4 hw h6 h7 h8 h9
        · rw [if_neg (show ¬ u.1.getD k 0 = l.getD i 0 from fun q => he q.symm)]
          exact ⟨I, Or.inl ⟨if_neg he, rfl⟩, fun _ _ _ => rfl⟩
theorem fitsM_ok {l : List Int32} {r : Nat} (hl : Tm l) (h60 : l.length ≤ 60) (hr : r < 5) {u : Ru} {I : mI} (hu : RuM (I 1) r u) (hp12 : u.1.length ≤ 12) (hp : Tm u.1) (h7 : TuM I l) {i : Nat} (hi : i < l.length) :
    ∃ I', ((fitS l u.1 i = none ∧ f_X11_fits 0 (nI r) (nI i) I R1M = some (0, I')) ∨ ∃ bx' bz', fitS l u.1 i = some (bx', bz') ∧ f_X11_fits 0 (nI r) (nI i) I R1M = some (1, I') ∧ BM I' l 0 bx' ∧ BM I' l 1 bz') ∧ ∀ a, a ≠ 19 → a ≠ 20 → I' a = I a := by
  obtain ⟨m, hm⟩ := wfb_drop l 1 i hl.1 hi
  obtain ⟨I', e1, e2⟩ := fitsM_L (rs := []) hl h60 hr hu hp12 u.1.length FU 0 i 1 m (u2 (u2 I 20 0 0) 20 1 0) none none (by omega) (by rw [FU_eq]; omega) (by omega) (by rw [List.drop_zero]; exact hp.1) (by rw [Nat.add_comm]; exact hm) (by rw [u2_n _ _ _ (by decide), u2_n _ _ _ (by decide)]) (h7.cong (by rw [u2_n _ _ _ (by decide), u2_n _ _ _ (by decide)]) (by rw [u2_n _ _ _ (by decide), u2_n _ _ _ (by decide)])) (show u2 (u2 I 20 0 0) 20 1 0 20 0 = 0 by rw [u2_s, va_up_n _ _ (by decide), u2_s, va_up_s]) (show u2 (u2 I 20 0 0) 20 1 0 20 1 = 0 by rw [u2_s, va_up_s])
  rw [List.drop_zero] at e1
  refine ⟨I', ?_, fun a x1 x2 => by rw [e2 a x1 x2, u2_n _ _ _ x2, u2_n _ _ _ x2]⟩
  unfold fitS
  simp only [f_X11_fits, bnd]
  rw [mr27, lm20, if_pos (show inb 0 2 = true from rfl), if_pos (show inb 1 2 = true from rfl), show (0 : Int32).toNatClampNeg = 0 from rfl, t1, show (0 : Int32) = nI 0 from rfl]
  rcases e1 with ⟨g1, g2⟩ | ⟨bx', bz', g1, g2, g3⟩
  · left
    rw [show (0 : Int32) = nI 0 from rfl] at g2
    rw [g2]
    exact ⟨g1, rfl⟩
  · right
    rw [show (0 : Int32) = nI 0 from rfl] at g2
    rw [g2]
    exact ⟨bx', bz', g1, rfl, g3⟩
