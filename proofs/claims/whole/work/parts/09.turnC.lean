/-! ===== turning: what is meant, and what the class does ===== -/
abbrev Ru : Type := List Int32 × List Int32
def dRu : Ru := ([], [])
/-- the letters of a left side against the parts of a term: which parts stand for x and y -/
def fitF (l : List Int32) : List Int32 → Nat → Option Nat → Option Nat → Option (Option Nat × Option Nat)
  | [], _, bx, bz => some (bx, bz)
  | c :: cs, i, bx, bz =>
    if c = 120 then (match bx with
      | none => fitF l cs (ep l i) (some i) bz
      | some b => if pt l b = pt l i then fitF l cs (ep l i) (some b) bz else none)
    else if c = 121 then (match bz with
      | none => fitF l cs (ep l i) bx (some i)
      | some b => if pt l b = pt l i then fitF l cs (ep l i) bx (some b) else none)
    else if l.getD i 0 = c then fitF l cs (i + 1) bx bz else none
def bv (o : Option Nat) : Int32 := match o with
  | none => -1
  | some b => nI b
theorem bv_ne {b : Nat} (h : b < 2 ^ 31) : ¬ nI b = -1 := by
  intro q
  have := congrArg Int32.toInt q
  rw [nI_toInt h] at this
  have h2 : (-1 : Int32).toInt = -1 := by decide
  omega
def inO (o : Option Nat) (n : Nat) : Prop := ∀ b, o = some b → b < n
theorem inO_none (n : Nat) : inO none n := fun b h => by cases h
theorem inO_some {b n : Nat} (h : b < n) : inO (some b) n := fun c q => by cases q; exact h
theorem wn_unk {c : Int32} (h : c = 120 ∨ c = 121) : wn c = 0 := by rcases h with rfl | rfl <;> rfl
theorem wf_next {l : List Int32} {i a m : Nat} (h : wfb (a + 1 + m) (l.drop i) = true) : i < l.length ∧ wfb (a + m) (l.drop (ep l i)) = true := by
  have h1 : wfb ((a + m) + 1) (l.drop i) = true := by rw [show a + m + 1 = a + 1 + m by omega]; exact h
  have hp := wfb_pos h1
  rw [List.length_drop] at hp
  refine ⟨by omega, ?_⟩
  rw [show (a + m) + 1 = 1 + (a + m) by omega] at h1
  have h2 := (wfb_add _ 1 (a + m) h1).2
  rw [List.drop_drop] at h2
  exact h2
theorem wf_in {l : List Int32} {i a m : Nat} (h : wfb (a + 1 + m) (l.drop i) = true) : wfb (a + wn (l.getD i 0) + m) (l.drop (i + 1)) = true := by
  have hi := (wf_next h).1
  rw [drop_c hi, show a + 1 + m = (a + m) + 1 by omega, wfb_cons] at h
  rw [show a + wn (l.getD i 0) + m = a + m + wn (l.getD i 0) by omega]
  exact h
theorem n10 : ¬ (1 : Int32) = 0 := by decide
theorem n20 : ¬ (2 : Int32) = 0 := by decide
theorem b13 : inb 1 3 = true := rfl
theorem b23 : inb 2 3 = true := rfl
theorem t1 : (1 : Int32).toNatClampNeg = 1 := rfl
theorem t2 : (2 : Int32).toNatClampNeg = 2 := rfl
/-- one letter of a left side: a letter -/
theorem fitsC_s0 {t tl c c2 : Nat} {R : mR} {l p : List Int32} (hT : TO R t c) (hc : l.length ≤ c) (hL : TO R tl c2) (hc2 : p.length ≤ c2) {n k i : Nat} {I : mI} (hk : k < p.length) (hi : i < l.length) (h6 : TmC I t l) (h7 : TmC I tl p) (hu : ub (p.getD k 0) = 0) :
    f_X9_fits_L20 (n + 1) 263 tl t (nI i) (nI k) I R = if l.getD i 0 = p.getD k 0 then f_X9_fits_L20 n 263 tl t (nI (i + 1)) (nI (k + 1)) I R else some (Sum.inl (0, I)) := by
  obtain ⟨r0, r1, l0, l1, lc⟩ := hT
  obtain ⟨s0, s1, m0, m1, mc⟩ := hL
  rw [f_X9_fits_L20]
  simp only [bnd]
  rw [h7.1, if_neg (nI_ge (by omega) (by omega)), if_neg (nI_pos (by omega)), h6.1, if_pos (nI_lt hi (by omega)), s0, m0, if_pos (inb_nI (by omega) (by omega)), nI_clamp (by omega), nI_clamp (by omega), h7.2.1 k (by omega), uB, bd1_s, r0, l0, nI_1, nI_1, hu]
  simp only [if_pos, inb_nI (show i < c by omega) (show i < 2 ^ 31 by omega), h6.2.1 i hi]
/-- an unknown, not bound yet -/
theorem fitsC_s1 {t tl c c2 u : Nat} {R : mR} {l p : List Int32} (hT : TO R t c) (hc : l.length ≤ c) (hL : TO R tl c2) (hc2 : p.length ≤ c2) (hR : R 263 1 = 267) (ht : t + 2 < 267 ∨ 267 < t) {n k i : Nat} {I : mI} (hk : k < p.length) (hi : i < l.length) (h6 : TmC I t l) (h7 : TmC I tl p) (hu : ub (p.getD k 0) = nI u) (hu2 : u = 1 ∨ u = 2) (hb : I 267 u = -1) :
    f_X9_fits_L20 (n + 1) 263 tl t (nI i) (nI k) I R = f_X9_fits_L20 n 263 tl t (nI (ep l i)) (nI (k + 1)) (u2 I 267 u (nI i)) R := by
  obtain ⟨r0, r1, l0, l1, lc⟩ := id hT
  obtain ⟨s0, s1, m0, m1, mc⟩ := hL
  have l267 : lnC 267 = 3 := rfl
  have h6' : TmC (u2 I 267 u (nI i)) t l := h6.cong (u2_n _ _ _ (by omega)) (u2_n _ _ _ (by omega)) (u2_n _ _ _ (by omega))
  have hs := sameParts_ok hT hc h6' hi hi
  rw [if_pos rfl] at hs
  have hu0 : ¬ nI u = 0 := nI_ne0 (by omega) (by omega)
  have hu3 : inb (nI u) 3 = true := inb_nI (by omega) (by omega)
  have hu4 : (nI u).toNatClampNeg = u := nI_clamp (by omega)
  rw [f_X9_fits_L20]
  simp only [bnd]
  rw [h7.1, if_neg (nI_ge (by omega) (by omega)), if_neg (nI_pos (by omega)), h6.1, if_pos (nI_lt hi (by omega)), s0, m0, if_pos (inb_nI (by omega) (by omega)), nI_clamp (by omega), nI_clamp (by omega), h7.2.1 k (by omega), uB, bd1_s, hR, r0, r1, l0, l1, l267, nI_1, nI_1, hu, if_neg hu0, if_neg hu0, if_pos hu3, hu4, hb, if_pos rfl, if_neg hu0, if_pos hu3, u2_s, va_up_s, hs, bd1_s, if_neg n10, if_neg hu0, if_pos (inb_nI (by omega) (by omega)), u2_n _ _ _ (by omega), h6.2.2 i hi]
/-- an unknown that is bound -/
theorem fitsC_s2 {t tl c c2 u b : Nat} {R : mR} {l p : List Int32} (hT : TO R t c) (hc : l.length ≤ c) (hL : TO R tl c2) (hc2 : p.length ≤ c2) (hR : R 263 1 = 267) {n k i : Nat} {I : mI} (hk : k < p.length) (hi : i < l.length) (h6 : TmC I t l) (h7 : TmC I tl p) (hu : ub (p.getD k 0) = nI u) (hu2 : u = 1 ∨ u = 2) (hb : I 267 u = nI b) (hbl : b < l.length) :
    f_X9_fits_L20 (n + 1) 263 tl t (nI i) (nI k) I R = if pt l b = pt l i then f_X9_fits_L20 n 263 tl t (nI (ep l i)) (nI (k + 1)) I R else some (Sum.inl (0, I)) := by
  obtain ⟨r0, r1, l0, l1, lc⟩ := id hT
  obtain ⟨s0, s1, m0, m1, mc⟩ := hL
  have l267 : lnC 267 = 3 := rfl
  have hs := sameParts_ok hT hc h6 hbl hi
  have hu0 : ¬ nI u = 0 := nI_ne0 (by omega) (by omega)
  have hu3 : inb (nI u) 3 = true := inb_nI (by omega) (by omega)
  have hu4 : (nI u).toNatClampNeg = u := nI_clamp (by omega)
  rw [f_X9_fits_L20]
  simp only [bnd]
  rw [h7.1, if_neg (nI_ge (by omega) (by omega)), if_neg (nI_pos (by omega)), h6.1, if_pos (nI_lt hi (by omega)), s0, m0, if_pos (inb_nI (by omega) (by omega)), nI_clamp (by omega), nI_clamp (by omega), h7.2.1 k (by omega), uB, bd1_s, hR, r0, r1, l0, l1, l267, nI_1, nI_1, hu, if_neg hu0, if_neg hu0, if_pos hu3, hu4, hb, if_neg (bv_ne (by omega)), if_neg hu0, if_pos hu3, hs, bd1_s]
  by_cases he : pt l b = pt l i
  · rw [if_pos he, if_neg n10, if_pos he, if_neg hu0, if_pos (inb_nI (by omega) (by omega)), h6.2.2 i hi]
  · rw [if_neg he, if_pos rfl, if_neg he]
theorem fitsC_L {t tl c c2 : Nat} {R : mR} {l p : List Int32} (hT : TO R t c) (hc : l.length ≤ c) (hL : TO R tl c2) (hc2 : p.length ≤ c2) (hR : R 263 1 = 267) (ht : t + 2 < 267 ∨ 267 < t) (htl : tl + 2 < 267 ∨ 267 < tl) :
    ∀ (q n k i a m : Nat) (I : mI) (bx bz : Option Nat), p.length - k = q → q < n → k ≤ p.length → wfb a (p.drop k) = true → wfb (a + m) (l.drop i) = true → TmC I t l → TmC I tl p → I 267 1 = bv bx → I 267 2 = bv bz → inO bx l.length → inO bz l.length →
      ∃ I', ((fitF l (p.drop k) i bx bz = none ∧ f_X9_fits_L20 n 263 tl t (nI i) (nI k) I R = some (Sum.inl (0, I'))) ∨ ∃ bx' bz', fitF l (p.drop k) i bx bz = some (bx', bz') ∧ f_X9_fits_L20 n 263 tl t (nI i) (nI k) I R = some (Sum.inr I') ∧ I' 267 1 = bv bx' ∧ I' 267 2 = bv bz' ∧ inO bx' l.length ∧ inO bz' l.length) ∧ ∀ a, a ≠ 267 → I' a = I a := by
  intro q
  induction q with
  | zero =>
    intro n k i a m I bx bz h1 h2 h3 h4 h5 h6 h7 h8 h9 ha hb
    obtain ⟨n, rfl⟩ : ∃ q, n = q + 1 := ⟨n - 1, by omega⟩
    refine ⟨I, Or.inr ⟨bx, bz, ?_, ?_, h8, h9, ha, hb⟩, fun _ _ => rfl⟩
    · rw [List.drop_of_length_le (by omega)]
      rfl
    · have := hL.2.2.2.2
      rw [f_X9_fits_L20, h7.1, if_pos (nI_le (by omega) (by omega))]
  | succ q ih =>
    intro n k i a m I bx bz h1 h2 h3 h4 h5 h6 h7 h8 h9 ha hb
    obtain ⟨n, rfl⟩ : ∃ q, n = q + 1 := ⟨n - 1, by omega⟩
    have hk : k < p.length := by omega
    rw [drop_c hk] at h4 ⊢
    obtain ⟨a, rfl⟩ : ∃ z, a = z + 1 := by
      cases a with
      | zero => cases h4
      | succ z => exact ⟨z, rfl⟩
    rw [wfb_cons] at h4
    obtain ⟨hi, hnx⟩ := wf_next h5
    have hfr : ∀ (u : Nat) (v : Int32), TmC (u2 I 267 u v) t l ∧ TmC (u2 I 267 u v) tl p := fun u v => ⟨h6.cong (u2_n _ _ _ (by omega)) (u2_n _ _ _ (by omega)) (u2_n _ _ _ (by omega)), h7.cong (u2_n _ _ _ (by omega)) (u2_n _ _ _ (by omega)) (u2_n _ _ _ (by omega))⟩
    by_cases hx : p.getD k 0 = 120
    · rw [wn_unk (Or.inl hx), Nat.add_zero] at h4
      have hub : ub (p.getD k 0) = nI 1 := by rw [hx]; rfl
      cases bx with
      | none =>
        rw [fitsC_s1 hT hc hL hc2 hR ht hk hi h6 h7 hub (Or.inl rfl) h8]
        simp only [fitF, hx, if_pos]
        obtain ⟨I', e1, e2⟩ := ih n (k + 1) (ep l i) a m (u2 I 267 1 (nI i)) (some i) bz (by omega) (by omega) (by omega) h4 hnx (hfr _ _).1 (hfr _ _).2 (by rw [u2_s, va_up_s]; rfl) (by rw [u2_s, va_up_n _ _ (by decide)]; exact h9) (inO_some hi) hb
        exact ⟨I', e1, fun x hx => by rw [e2 x hx, u2_n _ _ _ hx]⟩
      | some b =>
        rw [fitsC_s2 hT hc hL hc2 hR hk hi h6 h7 hub (Or.inl rfl) h8 (ha b rfl)]
        simp only [fitF, hx, if_pos]
        by_cases he : pt l b = pt l i
        · rw [if_pos he, if_pos he]
          exact ih n (k + 1) (ep l i) a m I (some b) bz (by omega) (by omega) (by omega) h4 hnx h6 h7 h8 h9 ha hb
        · rw [if_neg he, if_neg he]
          exact ⟨I, Or.inl ⟨rfl, rfl⟩, fun _ _ => rfl⟩
    · by_cases hy : p.getD k 0 = 121
      · rw [wn_unk (Or.inr hy), Nat.add_zero] at h4
        have hub : ub (p.getD k 0) = nI 2 := by rw [hy]; rfl
        cases bz with
        | none =>
          rw [fitsC_s1 hT hc hL hc2 hR ht hk hi h6 h7 hub (Or.inr rfl) h9]
          simp only [fitF, if_neg hx, hy, if_pos]
          rw [if_neg (show ¬ (121 : Int32) = 120 by decide)]
          obtain ⟨I', e1, e2⟩ := ih n (k + 1) (ep l i) a m (u2 I 267 2 (nI i)) bx (some i) (by omega) (by omega) (by omega) h4 hnx (hfr _ _).1 (hfr _ _).2 (by rw [u2_s, va_up_n _ _ (by decide)]; exact h8) (by rw [u2_s, va_up_s]; rfl) ha (inO_some hi)
          exact ⟨I', e1, fun x hx => by rw [e2 x hx, u2_n _ _ _ hx]⟩
        | some b =>
          rw [fitsC_s2 hT hc hL hc2 hR hk hi h6 h7 hub (Or.inr rfl) h9 (hb b rfl)]
          simp only [fitF, if_neg hx, hy, if_pos]
          rw [if_neg (show ¬ (121 : Int32) = 120 by decide)]
          by_cases he : pt l b = pt l i
          · rw [if_pos he, if_pos he]
            exact ih n (k + 1) (ep l i) a m I bx (some b) (by omega) (by omega) (by omega) h4 hnx h6 h7 h8 h9 ha hb
          · rw [if_neg he, if_neg he]
            exact ⟨I, Or.inl ⟨rfl, rfl⟩, fun _ _ => rfl⟩
      · have hub : ub (p.getD k 0) = 0 := by unfold ub; rw [if_neg hx, if_neg hy]
        rw [fitsC_s0 hT hc hL hc2 hk hi h6 h7 hub]
        simp only [fitF, if_neg hx, if_neg hy]
        by_cases he : l.getD i 0 = p.getD k 0
        · rw [if_pos he, if_pos he]
          have hw := wf_in h5
          rw [he] at hw
          exact ih n (k + 1) (i + 1) _ m I bx bz (by omega) (by omega) (by omega) h4 hw h6 h7 h8 h9 ha hb
        · rw [if_neg he, if_neg he]
          exact ⟨I, Or.inl ⟨rfl, rfl⟩, fun _ _ => rfl⟩
/-- whether a left side fits at a place, and with what -/
def fitS (l p : List Int32) (i : Nat) : Option (Option Nat × Option Nat) := fitF l p i none none
theorem fitsC_ok {t tl c c2 : Nat} {R : mR} {l p : List Int32} (hT : TO R t c) (hc : l.length ≤ c) (hL : TO R tl c2) (hc2 : p.length ≤ c2) (hR : R 263 1 = 267) (ht : t + 2 < 267 ∨ 267 < t) (htl : tl + 2 < 267 ∨ 267 < tl) {I : mI} (h6 : TmC I t l) (h7 : TmC I tl p) (hp : Tm p) (hl : Tm l) {i : Nat} (hi : i < l.length) :
    ∃ I', ((fitS l p i = none ∧ f_X9_fits 263 tl t (nI i) I R = some (0, I')) ∨ ∃ bx' bz', fitS l p i = some (bx', bz') ∧ f_X9_fits 263 tl t (nI i) I R = some (1, I') ∧ I' 267 1 = bv bx' ∧ I' 267 2 = bv bz' ∧ inO bx' l.length ∧ inO bz' l.length) ∧ ∀ a, a ≠ 267 → I' a = I a := by
  obtain ⟨m, hm⟩ := wfb_drop l 1 i hl.1 hi
  have l267 : lnC 267 = 3 := rfl
  have hI : TmC (u2 (u2 I 267 1 (-1)) 267 2 (-1)) t l ∧ TmC (u2 (u2 I 267 1 (-1)) 267 2 (-1)) tl p := ⟨h6.cong (by rw [u2_n _ _ _ (by omega), u2_n _ _ _ (by omega)]) (by rw [u2_n _ _ _ (by omega), u2_n _ _ _ (by omega)]) (by rw [u2_n _ _ _ (by omega), u2_n _ _ _ (by omega)]), h7.cong (by rw [u2_n _ _ _ (by omega), u2_n _ _ _ (by omega)]) (by rw [u2_n _ _ _ (by omega), u2_n _ _ _ (by omega)]) (by rw [u2_n _ _ _ (by omega), u2_n _ _ _ (by omega)])⟩
  obtain ⟨I', e1, e2⟩ := fitsC_L hT hc hL hc2 hR ht htl p.length FU 0 i 1 m (u2 (u2 I 267 1 (-1)) 267 2 (-1)) none none (by omega) (by have := hL.2.2.2.2; rw [FU_eq]; omega) (by omega) (by rw [List.drop_zero]; exact hp.1) (by rw [Nat.add_comm]; exact hm) hI.1 hI.2 (by rw [u2_s, va_up_n _ _ (by decide), u2_s, va_up_s]; rfl) (by rw [u2_s, va_up_s]; rfl) (inO_none _) (inO_none _)
  rw [List.drop_zero] at e1
  refine ⟨I', ?_, fun a ha => by rw [e2 a ha, u2_n _ _ _ ha, u2_n _ _ _ ha]⟩
  unfold fitS
  simp only [f_X9_fits, bnd]
  rw [hR, l267, if_pos b13, if_pos b23, t1, t2, show (0 : Int32) = nI 0 from rfl]
  rcases e1 with ⟨g1, g2⟩ | ⟨bx', bz', g1, g2, g3⟩
  · left
    rw [g2]
    exact ⟨g1, rfl⟩
  · right
    rw [g2]
    exact ⟨bx', bz', g1, rfl, g3⟩
