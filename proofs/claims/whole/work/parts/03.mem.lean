def fd : Nat → List Nat := fun ci => match ci with
  | 0 => [1, 1, 1, 2, 2, 2, 1, 100, 100, 100, 101]
  | 1 => [5, 100]
  | 2 => [1, 1, 100, 100, 100]
  | 3 => [14, 14]
  | 4 => [12, 12, 1, 2, 100]
  | 5 => [1, 100]
  | 6 => [1]
  | 7 => [4, 14, 100]
  | 8 => [1, 1, 100]
  | 9 => [14, 1, 100, 100]
  | 10 => [13, 7, 8, 11, 6, 10, 15, 14, 1, 101, 101, 100, 100, 100, 100]
  | 11 => [1, 1, 1, 100, 1, 1, 100, 100, 1, 100, 1, 100, 1, 2, 2, 2, 1, 1, 100, 3, 3, 1, 100, 1, 100, 1, 1, 1, 100, 100, 100, 102]
  | _ => []
def kdCl : List Nat := [16, 13, 4, 14, 1, 1, 9, 14, 1, 1, 14, 1, 1, 9, 14, 1, 1, 14, 1, 1, 9, 14, 1, 1, 14, 1, 1, 9, 14, 1, 1, 14, 1, 1, 9, 14, 1, 1, 14, 1, 1, 7, 5, 13, 4, 14, 1, 1, 9, 14, 1, 1, 14, 1, 1, 9, 14, 1, 1, 14, 1, 1, 9, 14, 1, 1, 14, 1, 1, 9, 14, 1, 1, 14, 1, 1, 9, 14, 1, 1, 14, 1, 1, 13, 4, 14, 1, 1, 9, 14, 1, 1, 14, 1, 1, 9, 14, 1, 1, 14, 1, 1, 9, 14, 1, 1, 14, 1, 1, 9, 14, 1, 1, 14, 1, 1, 9, 14, 1, 1, 14, 1, 1, 13, 4, 14, 1, 1, 9, 14, 1, 1, 14, 1, 1, 9, 14, 1, 1, 14, 1, 1, 9, 14, 1, 1, 14, 1, 1, 9, 14, 1, 1, 14, 1, 1, 9, 14, 1, 1, 14, 1, 1, 13, 4, 14, 1, 1, 9, 14, 1, 1, 14, 1, 1, 9, 14, 1, 1, 14, 1, 1, 9, 14, 1, 1, 14, 1, 1, 9, 14, 1, 1, 14, 1, 1, 9, 14, 1, 1, 14, 1, 1, 13, 4, 14, 1, 1, 9, 14, 1, 1, 14, 1, 1, 9, 14, 1, 1, 14, 1, 1, 9, 14, 1, 1, 14, 1, 1, 9, 14, 1, 1, 14, 1, 1, 9, 14, 1, 1, 14, 1, 1, 8, 1, 1, 11, 1, 6, 1, 1, 1, 2, 2, 2, 1, 10, 12, 1, 12, 1, 1, 2, 15, 14, 1, 1, 1, 14, 1, 1, 1]
def lnCl : List Nat := [0, 0, 5, 0, 60, 60, 0, 0, 12, 12, 0, 12, 12, 0, 0, 12, 12, 0, 12, 12, 0, 0, 12, 12, 0, 12, 12, 0, 0, 12, 12, 0, 12, 12, 0, 0, 12, 12, 0, 12, 12, 0, 5, 0, 5, 0, 60, 60, 0, 0, 12, 12, 0, 12, 12, 0, 0, 12, 12, 0, 12, 12, 0, 0, 12, 12, 0, 12, 12, 0, 0, 12, 12, 0, 12, 12, 0, 0, 12, 12, 0, 12, 12, 0, 5, 0, 60, 60, 0, 0, 12, 12, 0, 12, 12, 0, 0, 12, 12, 0, 12, 12, 0, 0, 12, 12, 0, 12, 12, 0, 0, 12, 12, 0, 12, 12, 0, 0, 12, 12, 0, 12, 12, 0, 5, 0, 60, 60, 0, 0, 12, 12, 0, 12, 12, 0, 0, 12, 12, 0, 12, 12, 0, 0, 12, 12, 0, 12, 12, 0, 0, 12, 12, 0, 12, 12, 0, 0, 12, 12, 0, 12, 12, 0, 5, 0, 60, 60, 0, 0, 12, 12, 0, 12, 12, 0, 0, 12, 12, 0, 12, 12, 0, 0, 12, 12, 0, 12, 12, 0, 0, 12, 12, 0, 12, 12, 0, 0, 12, 12, 0, 12, 12, 0, 5, 0, 60, 60, 0, 0, 12, 12, 0, 12, 12, 0, 0, 12, 12, 0, 12, 12, 0, 0, 12, 12, 0, 12, 12, 0, 0, 12, 12, 0, 12, 12, 0, 0, 12, 12, 0, 12, 12, 0, 120, 60, 0, 97, 0, 60, 60, 60, 60, 60, 5, 60, 0, 0, 72, 0, 72, 325, 60, 0, 0, 60, 60, 3, 0, 60, 60, 7]
def kdC (a : Nat) : Nat := kdCl.getD a 0
def lnC (a : Nat) : Nat := lnCl.getD a 0
def kdMl : List Nat := [17, 1, 1, 1, 1, 1, 1, 1, 1, 2, 2, 2, 1, 1, 3, 3, 1, 1, 1, 1, 1]
def lnMl : List Nat := [0, 192, 192, 960, 3, 120, 300, 100, 7, 64, 64, 64, 60, 60, 3600, 3600, 60, 200, 200, 2, 2]
def kdM (a : Nat) : Nat := kdMl.getD a 0
def lnM (a : Nat) : Nat := lnMl.getD a 0
theorem kdC_len : kdCl.length = 272 := by decide +kernel
theorem kdC_lt {a t : Nat} (h : kdC a = t) (ht : t ≠ 0) : a < 272 := Nat.not_le.mp fun q => ht (by rw [← h]; unfold kdC; rw [List.getD_eq_getElem?_getD, List.getElem?_eq_none (by rw [kdC_len]; exact q)]; rfl)
theorem kdM_len : kdMl.length = 21 := by decide +kernel
theorem kdM_lt {a t : Nat} (h : kdM a = t) (ht : t ≠ 0) : a < 21 := Nat.not_le.mp fun q => ht (by rw [← h]; unfold kdM; rw [List.getD_eq_getElem?_getD, List.getElem?_eq_none (by rw [kdM_len]; exact q)]; rfl)
def nestL : List Cond := [Cond.methodLinkNest "FallingRules$State" 26 ⟨"FallingRules$Rule", "<init>", "()V"⟩ "FallingRules", Cond.methodLinkNest "FallingRules" 25 ⟨"FallingRules$Reader", "<init>", "()V"⟩ "FallingRules", Cond.methodLinkNest "FallingRules" 32 ⟨"FallingRules$Script", "<init>", "()V"⟩ "FallingRules", Cond.methodLinkNest "FallingRules" 39 ⟨"FallingRules$CallBook", "<init>", "()V"⟩ "FallingRules", Cond.methodLinkNest "FallingRules" 46 ⟨"FallingRules$Scales", "<init>", "()V"⟩ "FallingRules", Cond.methodLinkNest "FallingRules$Scales" 11 ⟨"FallingRules$Shares", "<init>", "()V"⟩ "FallingRules", Cond.methodLinkNest "FallingRules" 53 ⟨"FallingRules$Turner", "<init>", "()V"⟩ "FallingRules", Cond.methodLinkNest "FallingRules$Term" 33 ⟨"FallingRules", "partsBehind", "(I)I"⟩ "FallingRules", Cond.methodLinkNest "FallingRules$Reader" 91 ⟨"FallingRules", "slotOf", "(I)I"⟩ "FallingRules", Cond.methodLinkNest "FallingRules$Reader" 94 ⟨"FallingRules", "unknownBit", "(I)I"⟩ "FallingRules", Cond.methodLinkNest "FallingRules$Reader" 77 ⟨"FallingRules", "partsBehind", "(I)I"⟩ "FallingRules", Cond.methodLinkNest "FallingRules$Term" 48 ⟨"FallingRules", "unknownBit", "(I)I"⟩ "FallingRules", Cond.methodLinkNest "FallingRules$CallBook" 97 ⟨"FallingRules", "isUnknown", "(I)Z"⟩ "FallingRules", Cond.methodLinkNest "FallingRules$CallBook" 100 ⟨"FallingRules", "hasBit", "(JI)Z"⟩ "FallingRules", Cond.methodLinkNest "FallingRules$Script" 42 ⟨"FallingRules", "partsBehind", "(I)I"⟩ "FallingRules", Cond.methodLinkNest "FallingRules$Shares" 24 ⟨"FallingRules", "slotOf", "(I)I"⟩ "FallingRules", Cond.methodLinkNest "FallingRules$Scales" 60 ⟨"FallingRules", "slotOf", "(I)I"⟩ "FallingRules", Cond.methodLinkNest "FallingRules$Turner" 74 ⟨"FallingRules", "unknownBit", "(I)I"⟩ "FallingRules", Cond.methodLinkNest "FallingRules$Turner" 92 ⟨"FallingRules", "isUnknown", "(I)Z"⟩ "FallingRules"]
theorem nest_on : ∀ w ∈ nestL, w.onTables = true := by decide +kernel
theorem nest_form : ∀ w ∈ nestL, ∃ (a : String) (i : Nat) (x : MethodName) (h : String), w = .methodLinkNest a i x h := by
  intro w hw
  simp only [nestL, List.mem_cons, List.not_mem_nil, or_false] at hw
  rcases hw with rfl | rfl | rfl | rfl | rfl | rfl | rfl | rfl | rfl | rfl | rfl | rfl | rfl | rfl | rfl | rfl | rfl | rfl | rfl <;> exact ⟨_, _, _, _, rfl⟩
theorem nest_in : ∀ w ∈ nestL, w ∈ lw_tbl := by
  intro w hw
  have hp : nestL = ([151, 216, 240, 255, 307, 313, 340, 375, 464, 467, 471, 489, 583, 590, 623, 644, 689, 748, 763] : List Nat).filterMap (fun i => lw_tbl[i]?) := by decide +kernel
  rw [hp] at hw
  obtain ⟨i, -, hi⟩ := List.mem_filterMap.mp hw
  exact List.mem_of_getElem? hi
/-! ===== the memory in plain words: ints, longs, references, each by (cell, place); the shape of the cells (kind, length) stays ===== -/
abbrev mI : Type := Nat → Nat → Int32
abbrev mL : Type := Nat → Nat → Int64
abbrev mR : Type := Nat → Nat → Nat
def NUL : Nat := 1000000
def rv (b r : Nat) : Option Nat := if r = NUL then none else some (b + r)
def u2 {α : Type} (f : Nat → Nat → α) (a k : Nat) (v : α) : Nat → Nat → α := va_up f a (va_up (f a) k v)
def inb (i : Int32) (n : Nat) : Bool := !(decide (i < 0)) && decide (i.toNatClampNeg < n)
def cpok (sp dp n : Int32) (n0 n1 : Nat) : Bool := !(decide (sp < 0)) && !(decide (dp < 0)) && !(decide (n < 0)) && decide (sp.toNatClampNeg + n.toNatClampNeg ≤ n0) && decide (dp.toNatClampNeg + n.toNatClampNeg ≤ n1)
def zb (v : Int32) : Bool := decide (v = 0) || decide (v = 1)
def bnd {α β : Type} (a : α) (f : α → β) : β := f a
def FU : Nat := 100000
theorem inb_in {i : Int32} {n : Nat} (h : inb i n = true) : vp_in i n := by
  unfold inb at h
  simp only [Bool.and_eq_true, Bool.not_eq_true', decide_eq_false_iff_not, decide_eq_true_eq] at h
  intro q
  rcases q with q | q
  · exact h.1 q
  · omega
theorem grd {α : Type} {c : Bool} {x : Option α} {o : α} (h : (if c = true then x else none) = some o) : c = true ∧ x = some o := by
  cases c
  · simp at h
  · exact ⟨rfl, by simpa using h⟩
theorem ifT {α : Type} {c : Prop} {dc : Decidable c} {x y o : α} (h : (if c then x else y) = o) (hc : c) : x = o := by rw [if_pos hc] at h; exact h
theorem ifF {α : Type} {c : Prop} {dc : Decidable c} {x y o : α} (h : (if c then x else y) = o) (hc : ¬ c) : y = o := by rw [if_neg hc] at h; exact h
theorem bndo {α β : Type} {x : Option α} {f : α → Option β} {o : β} (h : Option.bind x f = some o) : ∃ r, x = some r ∧ f r = some o := by
  cases x with
  | none => cases h
  | some r => exact ⟨r, rfl, h⟩
theorem jnE {α β : Type} {f : α} {g : α → Option β} {o : β} {P : Prop} (h : bnd f g = some o) (k : ∀ j, j = f → g j = some o → P) : P := k f rfl h
theorem va_up_s {α : Type} (f : Nat → α) (k : Nat) (v : α) : va_up f k v k = v := by simp [va_up]
theorem va_up_n {α : Type} (f : Nat → α) {k j : Nat} (v : α) (h : j ≠ k) : va_up f k v j = f j := by simp [va_up, h]
theorem u2_s {α : Type} (f : Nat → Nat → α) (a k : Nat) (v : α) : u2 f a k v a = va_up (f a) k v := va_up_s _ _ _
theorem u2_n {α : Type} (f : Nat → Nat → α) {a c : Nat} (k : Nat) (v : α) (h : c ≠ a) : u2 f a k v c = f c := va_up_n _ _ h
def fv (b : Nat) (I : mI) (L : mL) (R : mR) (a j t : Nat) : Value := if t = 100 then .int (I a j) else if t = 101 then .int (I a j) else if t = 102 then .long (L a j) else va_rf (rv b (R a j))
def fvs (b : Nat) (I : mI) (L : mL) (R : mR) (a : Nat) : Nat → List Nat → List Value
  | _, [] => []
  | j, t :: ts => fv b I L R a j t :: fvs b I L R a (j + 1) ts
theorem fvs_get (b : Nat) (I : mI) (L : mL) (R : mR) (a : Nat) : ∀ (ts : List Nat) (j k : Nat), (fvs b I L R a j ts)[k]? = ts[k]?.map (fun t => fv b I L R a (j + k) t)
  | [], j, k => by simp [fvs]
  | t :: ts, j, 0 => by simp [fvs]
  | t :: ts, j, k + 1 => by
    simp only [fvs, List.getElem?_cons_succ]
    rw [fvs_get b I L R a ts (j + 1) k, show j + 1 + k = j + (k + 1) by omega]
theorem fvs_len (b : Nat) (I : mI) (L : mL) (R : mR) (a : Nat) : ∀ (ts : List Nat) (j : Nat), (fvs b I L R a j ts).length = ts.length
  | [], j => rfl
  | t :: ts, j => by simp [fvs, fvs_len b I L R a ts (j + 1)]
theorem fvs_congr {b : Nat} {I I' : mI} {L L' : mL} {R R' : mR} {a : Nat} (hI : I a = I' a) (hL : L a = L' a) (hR : R a = R' a) (ts : List Nat) (j : Nat) : fvs b I L R a j ts = fvs b I' L' R' a j ts := by
  apply List.ext_getElem?
  intro k
  rw [fvs_get, fvs_get]
  cases ts[k]? with
  | none => rfl
  | some t => simp [fv, hI, hL, hR]
def en (ce : Nat → ClassId) (b : Nat) (kd ln : Nat → Nat) (I : mI) (L : mL) (R : mR) (a : Nat) : va_E :=
  if kd a = 1 then .inl (ce 0, ln a, .inl (I a))
  else if kd a = 2 then .inl (ce 1, ln a, .inr (.inl (L a)))
  else if kd a = 3 then .inl (ce 2, ln a, .inl (I a))
  else if kd a = 4 then .inl (ce 3, ln a, .inr (.inr (.inr (.inr (fun j => rv b (R a j))))))
  else if kd a = 5 then .inl (ce 4, ln a, .inr (.inr (.inr (.inr (fun j => rv b (R a j))))))
  else .inr (kd a - 6, fvs b I L R a 0 (fd (kd a - 6)))
section EN
variable {ce : Nat → ClassId} {b : Nat} {kd ln : Nat → Nat} {I I' : mI} {L L' : mL} {R R' : mR} {a : Nat}
theorem en_1 (h : kd a = 1) : en ce b kd ln I L R a = .inl (ce 0, ln a, .inl (I a)) := by simp [en, h]
theorem en_2 (h : kd a = 2) : en ce b kd ln I L R a = .inl (ce 1, ln a, .inr (.inl (L a))) := by simp [en, h]
theorem en_3 (h : kd a = 3) : en ce b kd ln I L R a = .inl (ce 2, ln a, .inl (I a)) := by simp [en, h]
theorem en_4 (h : kd a = 4) : en ce b kd ln I L R a = .inl (ce 3, ln a, .inr (.inr (.inr (.inr (fun j => rv b (R a j)))))) := by simp [en, h]
theorem en_5 (h : kd a = 5) : en ce b kd ln I L R a = .inl (ce 4, ln a, .inr (.inr (.inr (.inr (fun j => rv b (R a j)))))) := by simp [en, h]
theorem en_o {ci : Nat} (h : kd a = ci + 6) : en ce b kd ln I L R a = .inr (ci, fvs b I L R a 0 (fd ci)) := by
  unfold en
  rw [h, if_neg (by omega), if_neg (by omega), if_neg (by omega), if_neg (by omega), if_neg (by omega), show ci + 6 - 6 = ci by omega]
theorem en_congr (hI : I a = I' a) (hL : L a = L' a) (hR : R a = R' a) : en ce b kd ln I L R a = en ce b kd ln I' L' R' a := by
  unfold en
  rw [fvs_congr hI hL hR, hI, hL, hR]
def wd (ce : Nat → ClassId) (b : Nat) (kd ln : Nat → Nat) (n : Nat) (I : mI) (L : mL) (R : mR) : va_W := (List.range n).map (fun a => (b + a, en ce b kd ln I L R a))
theorem wd_at {n : Nat} (h : a < n) : (wd ce b kd ln n I L R)[a]? = some (b + a, en ce b kd ln I L R a) := by simp [wd, h]
theorem wd_set {n : Nat} {x : va_E} (h : a < n) (ho : ∀ j, j ≠ a → I' j = I j ∧ L' j = L j ∧ R' j = R j) (he : en ce b kd ln I' L' R' a = x) : (wd ce b kd ln n I L R).set a (b + a, x) = wd ce b kd ln n I' L' R' := by
  apply List.ext_getElem?
  intro j
  by_cases hj : j = a
  · subst hj
    rw [List.getElem?_set_self (by simpa [wd] using h), wd_at h, he]
  · rw [List.getElem?_set_ne (Ne.symm hj)]
    by_cases hn : j < n
    · obtain ⟨h1, h2, h3⟩ := ho j hj
      rw [wd_at hn, wd_at hn, en_congr h1 h2 h3]
    · simp [wd, hn]
def box (b n : Nat) : Nat → Prop := fun q => b ≤ q ∧ q < b + n
theorem wd_D {n : Nat} {A : Nat → Prop} (hA : ∀ q, box b n q → A q) : va_D A (wd ce b kd ln n I L R) := by
  have key : ∀ (k : Nat) (q : Nat × va_E), (wd ce b kd ln n I L R)[k]? = some q → k < n ∧ q.1 = b + k := by
    intro k q hq
    by_cases hn : k < n
    · rw [wd_at hn] at hq
      cases hq
      exact ⟨hn, rfl⟩
    · simp [wd, hn] at hq
  refine ⟨fun i j x y hi hj hxy => ?_, fun k q hk => ?_⟩
  · have h1 := (key i x hi).2
    have h2 := (key j y hj).2
    omega
  · obtain ⟨h1, h2⟩ := key k q hk
    exact hA _ ⟨by omega, by omega⟩
end EN
abbrev tyA (ce : Nat → ClassId) : List (ClassId × FieldType) := [(ce 0, .int), (ce 1, .long), (ce 2, .boolean), (ce 3, .object "FallingRules$Rule"), (ce 4, .object "FallingRules$State")]
/-- which kind a reference at a place of a cell of a kind has -/
def ft (K k : Nat) : Option Nat := if K = 4 then some 9 else if K = 5 then some 13 else if K < 6 then none else match (fd (K - 6))[k]? with
  | some t => if t < 100 then some t else none
  | none => none
def WT (kd : Nat → Nat) (R : mR) : Prop := ∀ a k t, ft (kd a) k = some t → kd (R a k) = t
theorem wt {kd : Nat → Nat} {R : mR} {a k c t : Nat} (hT : WT kd R) (ha : kd a = c) (h : ft c k = some t) : kd (R a k) = t := hT a k t (by rw [ha]; exact h)
theorem WT.up {kd : Nat → Nat} {R : mR} {a k v t : Nat} (hT : WT kd R) (h : ∀ j, ft (kd a) j = some t) (hv : kd v = t) : WT kd (u2 R a k v) := by
  intro a' k' t' h'
  by_cases ha : a' = a
  · subst ha
    rw [u2_s]
    by_cases hk : k' = k
    · subst hk
      rw [va_up_s, hv]
      exact Option.some.inj ((h k').symm.trans h')
    · rw [va_up_n _ _ hk]
      exact hT _ _ _ h'
  · rw [u2_n _ _ _ ha]
    exact hT _ _ _ h'
theorem nnul {kd : Nat → Nat} (h0 : kd NUL = 0) {r t : Nat} (h : kd r = t) (ht : t ≠ 0) : r ≠ NUL := fun q => ht (by rw [← h, q, h0])
/-- nest mates' links, and the classes: what a method's start says of the tables -/
def NW (U : State) : Prop := ∀ w ∈ nestL, va_Nw w U
def KK (D : va_G) (ce : Nat → ClassId) (U : State) : Prop := va_K D vwCl (tyA ce) U ∧ NW U
theorem NW.same {u U : State} (h : u.vm = U.vm) (hN : NW u) : NW U := fun w hw => va_Nw.same (nest_on w hw) h (hN w hw)
theorem NW.warm {s U : State} (hW : s.WarmedH U.vm) (hN : NW s) : NW U := fun w hw => by
  obtain ⟨a, i, x, h, rfl⟩ := nest_form w hw
  exact va_Nw.warmM hW (hN _ hw)
theorem KK.warm {D : va_G} {ce : Nat → ClassId} {s U : State} (hW : s.WarmedH U.vm) (h : KK D ce s) : KK D ce U := ⟨va_K.moved hW.alike h.1, NW.warm hW h.2⟩
def PW (D : va_G) (ce : Nat → ClassId) (b : Nat) (kd ln : Nat → Nat) (n : Nat) (I : mI) (L : mL) (R : mR) (U : State) : Prop := va_P D vwCl (wd ce b kd ln n I L R) U.heap ∧ KK D ce U
def QW (D : va_G) (ce : Nat → ClassId) (b : Nat) (kd ln : Nat → Nat) (n : Nat) (u : mI × mL × mR) (t : State) : Prop := va_P D vwCl (wd ce b kd ln n u.1 u.2.1 u.2.2) t.heap ∧ WT kd u.2.2
theorem PW.blind {D : va_G} {ce : Nat → ClassId} {b : Nat} {kd ln : Nat → Nat} {n : Nat} {I : mI} {L : mL} {R : mR} {av : List Value} : FrameBlind (va_Pc av (PW D ce b kd ln n I L R)) := by
  intro a U g mk h
  obtain ⟨h1, h2, h3⟩ := h
  exact ⟨h1, h2, va_K.moved (u := U) (U := U.calling g mk a) (Vm.Alike.refl U.vm) h3.1, NW.same (u := U) (U := U.calling g mk a) rfl h3.2⟩

theorem fvs_setI {b : Nat} {I : mI} {L : mL} {R : mR} {a k t : Nat} {ts : List Nat} (v : Int32) (ht : ts[k]? = some t) (h : t = 100 ∨ t = 101) : fvs b (u2 I a k v) L R a 0 ts = (fvs b I L R a 0 ts).set k (.int v) := by
  apply List.ext_getElem?
  intro i
  by_cases hi : i = k
  · subst hi
    rw [List.getElem?_set_self (by rw [fvs_len]; exact (List.getElem?_eq_some_iff.mp ht).1), fvs_get, ht]
    rcases h with rfl | rfl <;> simp [fv, u2_s, va_up_s]
  · rw [List.getElem?_set_ne (Ne.symm hi), fvs_get, fvs_get]
    cases ts[i]? with
    | none => rfl
    | some t' => simp [fv, u2_s, va_up_n _ _ hi]
theorem fvs_setL {b : Nat} {I : mI} {L : mL} {R : mR} {a k : Nat} {ts : List Nat} (v : Int64) (ht : ts[k]? = some 102) : fvs b I (u2 L a k v) R a 0 ts = (fvs b I L R a 0 ts).set k (.long v) := by
  apply List.ext_getElem?
  intro i
  by_cases hi : i = k
  · subst hi
    rw [List.getElem?_set_self (by rw [fvs_len]; exact (List.getElem?_eq_some_iff.mp ht).1), fvs_get, ht]
    simp [fv, u2_s, va_up_s]
  · rw [List.getElem?_set_ne (Ne.symm hi), fvs_get, fvs_get]
    cases ts[i]? with
    | none => rfl
    | some t' => simp [fv, u2_s, va_up_n _ _ hi]
theorem fvs_setR {b : Nat} {I : mI} {L : mL} {R : mR} {a k t : Nat} {ts : List Nat} (v : Nat) (ht : ts[k]? = some t) (h : t < 100) (hv : v ≠ NUL) : fvs b I L (u2 R a k v) a 0 ts = (fvs b I L R a 0 ts).set k (.ref (b + v)) := by
  apply List.ext_getElem?
  intro i
  by_cases hi : i = k
  · subst hi
    rw [List.getElem?_set_self (by rw [fvs_len]; exact (List.getElem?_eq_some_iff.mp ht).1), fvs_get, ht]
    simp only [Option.map_some, fv, u2_s, va_up_s, Nat.zero_add]
    rw [if_neg (by omega), if_neg (by omega), if_neg (by omega)]
    simp [rv, hv, va_rf]
  · rw [List.getElem?_set_ne (Ne.symm hi), fvs_get, fvs_get]
    cases ts[i]? with
    | none => rfl
    | some t' => simp [fv, u2_s, va_up_n _ _ hi]
def FI (ci k t : Nat) (C : String) (T : u_T) (N : Nat) : Prop := (∀ w ∈ u_ws C T N, w ∈ GW) ∧ vwCl[ci]? = some (C, T, N) ∧ (fd ci)[k]? = some t ∧ k < N
def FWr (k : Nat) (T : u_T) (N : Nat) (ty0 : Nat → FieldType) (ty : FieldType) : Prop := (∀ k, k < N → parseFieldDescriptor (T k).2.2.1 = some (ty0 k)) ∧ (∀ a, a < N → ∀ b, b < N → a ≠ b → (T a).2.1 ≠ (T b).2.1) ∧ (T k).2.2.2 = false ∧ parseFieldDescriptor (T k).2.2.1 = some ty
section MM
variable {p : Program} {l : Launch} {e : Env} {Rm : Room} {s : State} {m : MethodId} {args : Array Value} {below : List Frame} {meth : Method} {c : Code} {H H0 : Heap} {locs : List Loc} {cells slots : Nat} {Q : State → Prop}
variable {cc : ByteArray} {pc : Nat} {ls : Array Slot} {rest : List Value} {D : va_G} {ce : Nat → ClassId} {b : Nat} {kd ln : Nat → Nat} {n : Nat} {I : mI} {L : mL} {R : mR} {A : Nat → Prop}
variable {own C : String} {T : u_T} {N ci k index a : Nat}
theorem mm_geti (hx : p.tables.exec = Jvm.exec) (hb : c.code = cc) (hts : ∀ w ∈ GW, w.before args s = true) (hown : s.vm.findClass own = some m.cls) (hKK : KK D ce s) (hP : va_P D vwCl (wd ce b kd ln n I L R) H) {t : Nat} (hF : FI ci k t C T N) (ht : t = 100 ∨ t = 101) (hl : Cond.fieldLink own index (T k).1 (T k).2.1 (T k).2.2.1 ∈ GW) (ha : a < n) (hk : kd a = ci + 6) (hdg : decode cc pc = .ok (.getfield index, 3))
    (kk : W p l e Rm s m args below meth c H locs cells slots Q (F0 m (pc + 3) ls (.int (I a k) :: rest))) : W p l e Rm s m args below meth c H locs cells slots Q (F0 m pc ls (.ref (b + a) :: rest)) :=
  va_get hx hb hts hF.1 hown hKK.1 hP a (fs := fvs b I L R a 0 (fd ci)) (by rw [wd_at ha, en_o hk]) hF.2.1 k hF.2.2.2 (hts _ hl) (fun _ h => h) (by rw [fvs_get, hF.2.2.1]; rcases ht with rfl | rfl <;> simp [fv]) hdg kk
theorem mm_getl (hx : p.tables.exec = Jvm.exec) (hb : c.code = cc) (hts : ∀ w ∈ GW, w.before args s = true) (hown : s.vm.findClass own = some m.cls) (hKK : KK D ce s) (hP : va_P D vwCl (wd ce b kd ln n I L R) H) (hF : FI ci k 102 C T N) (hl : Cond.fieldLink own index (T k).1 (T k).2.1 (T k).2.2.1 ∈ GW) (ha : a < n) (hk : kd a = ci + 6) (hdg : decode cc pc = .ok (.getfield index, 3))
    (kk : W p l e Rm s m args below meth c H locs cells slots Q (F0 m (pc + 3) ls (.long (L a k) :: rest))) : W p l e Rm s m args below meth c H locs cells slots Q (F0 m pc ls (.ref (b + a) :: rest)) :=
  va_get hx hb hts hF.1 hown hKK.1 hP a (fs := fvs b I L R a 0 (fd ci)) (by rw [wd_at ha, en_o hk]) hF.2.1 k hF.2.2.2 (hts _ hl) (fun _ h => h) (by rw [fvs_get, hF.2.2.1]; simp [fv]) hdg kk
theorem mm_getr (hx : p.tables.exec = Jvm.exec) (hb : c.code = cc) (hts : ∀ w ∈ GW, w.before args s = true) (hown : s.vm.findClass own = some m.cls) (hKK : KK D ce s) (hP : va_P D vwCl (wd ce b kd ln n I L R) H) {t : Nat} (hF : FI ci k t C T N) (ht : t < 100) (hl : Cond.fieldLink own index (T k).1 (T k).2.1 (T k).2.2.1 ∈ GW) (ha : a < n) (hk : kd a = ci + 6) (hnn : R a k ≠ NUL) (hdg : decode cc pc = .ok (.getfield index, 3))
    (kk : W p l e Rm s m args below meth c H locs cells slots Q (F0 m (pc + 3) ls (.ref (b + R a k) :: rest))) : W p l e Rm s m args below meth c H locs cells slots Q (F0 m pc ls (.ref (b + a) :: rest)) :=
  va_get hx hb hts hF.1 hown hKK.1 hP a (fs := fvs b I L R a 0 (fd ci)) (by rw [wd_at ha, en_o hk]) hF.2.1 k hF.2.2.2 (hts _ hl) (fun _ h => h) (by rw [fvs_get, hF.2.2.1]; simp only [Option.map_some, fv, Nat.zero_add]; rw [if_neg (by omega), if_neg (by omega), if_neg (by omega)]; simp [rv, hnn, va_rf]) hdg kk
theorem mm_puti (hx : p.tables.exec = Jvm.exec) (hb : c.code = cc) (hts : ∀ w ∈ GW, w.before args s = true) (hown : s.vm.findClass own = some m.cls) (hKK : KK D ce s) (hP : va_P D vwCl (wd ce b kd ln n I L R) H) (hA : ∀ q, box b n q → A q) (hS : va_S A H0 H locs) {t : Nat} (hF : FI ci k t C T N) (ht : t = 100 ∨ t = 101) {ty0 : Nat → FieldType} {ty : FieldType} (hw : FWr k T N ty0 ty) (hl : Cond.fieldLink own index (T k).1 (T k).2.1 (T k).2.2.1 ∈ GW) (ha : a < n) (hk : kd a = ci + 6) {v : Int32} (hn : narrow ty (.int v) = .int v) (hfit : fits ty (.int v) = true) (hdg : decode cc pc = .ok (.putfield index, 3))
    (kk : ∀ (H1 : Heap) (locs1 : List Loc), va_P D vwCl (wd ce b kd ln n (u2 I a k v) L R) H1 → va_S A H0 H1 locs1 → W p l e Rm s m args below meth c H1 locs1 cells slots Q (F0 m (pc + 3) ls rest)) : W p l e Rm s m args below meth c H locs cells slots Q (F0 m pc ls (.int v :: .ref (b + a) :: rest)) := by
  refine va_put hx hb hts hF.1 ty0 hw.1 hw.2.1 hown hKK.1 hP (wd_D hA) hS a (fs := fvs b I L R a 0 (fd ci)) (by rw [wd_at ha, en_o hk]) hF.2.1 k hF.2.2.2 (hts _ hl) (fun _ h => h) hw.2.2.1 hw.2.2.2 hn hfit (by rw [fvs_len]; exact (List.getElem?_eq_some_iff.mp hF.2.2.1).1) hdg (fun H1 locs1 hP1 hD1 hS1 => kk H1 locs1 ?_ hS1)
  rw [wd_set (I' := u2 I a k v) (L' := L) (R' := R) ha (fun j hj => ⟨u2_n _ _ _ hj, rfl, rfl⟩) (by rw [en_o hk, fvs_setI v hF.2.2.1 ht])] at hP1
  exact hP1
theorem mm_putl (hx : p.tables.exec = Jvm.exec) (hb : c.code = cc) (hts : ∀ w ∈ GW, w.before args s = true) (hown : s.vm.findClass own = some m.cls) (hKK : KK D ce s) (hP : va_P D vwCl (wd ce b kd ln n I L R) H) (hA : ∀ q, box b n q → A q) (hS : va_S A H0 H locs) (hF : FI ci k 102 C T N) {ty0 : Nat → FieldType} {ty : FieldType} (hw : FWr k T N ty0 ty) (hl : Cond.fieldLink own index (T k).1 (T k).2.1 (T k).2.2.1 ∈ GW) (ha : a < n) (hk : kd a = ci + 6) {v : Int64} (hn : narrow ty (.long v) = .long v) (hfit : fits ty (.long v) = true) (hdg : decode cc pc = .ok (.putfield index, 3))
    (kk : ∀ (H1 : Heap) (locs1 : List Loc), va_P D vwCl (wd ce b kd ln n I (u2 L a k v) R) H1 → va_S A H0 H1 locs1 → W p l e Rm s m args below meth c H1 locs1 cells slots Q (F0 m (pc + 3) ls rest)) : W p l e Rm s m args below meth c H locs cells slots Q (F0 m pc ls (.long v :: .ref (b + a) :: rest)) := by
  refine va_put hx hb hts hF.1 ty0 hw.1 hw.2.1 hown hKK.1 hP (wd_D hA) hS a (fs := fvs b I L R a 0 (fd ci)) (by rw [wd_at ha, en_o hk]) hF.2.1 k hF.2.2.2 (hts _ hl) (fun _ h => h) hw.2.2.1 hw.2.2.2 hn hfit (by rw [fvs_len]; exact (List.getElem?_eq_some_iff.mp hF.2.2.1).1) hdg (fun H1 locs1 hP1 hD1 hS1 => kk H1 locs1 ?_ hS1)
  rw [wd_set (I' := I) (L' := u2 L a k v) (R' := R) ha (fun j hj => ⟨rfl, u2_n _ _ _ hj, rfl⟩) (by rw [en_o hk, fvs_setL v hF.2.2.1])] at hP1
  exact hP1
theorem upd_va (f : Nat → Int32) (k : Nat) (v : Int32) : upd f k v = va_up f k v := rfl
theorem updL_va (f : Nat → Int64) (k : Nat) (v : Int64) : vp_updL f k v = va_up f k v := rfl
theorem mm_iald (hx : p.tables.exec = Jvm.exec) (hb : c.code = cc) (hKK : KK D ce s) (hP : va_P D vwCl (wd ce b kd ln n I L R) H) (ha : a < n) (hk : kd a = 1) {i : Int32} (hin : inb i (ln a) = true) (hdg : decode cc pc = .ok (.iaload, 1))
    (kk : W p l e Rm s m args below meth c H locs cells slots Q (F0 m (pc + 1) ls (.int (I a i.toNatClampNeg) :: rest))) : W p l e Rm s m args below meth c H locs cells slots Q (F0 m pc ls (.int i :: .ref (b + a) :: rest)) :=
  va_iald hx hb hKK.1 hP a 0 (by rw [wd_at ha, en_1 hk]) rfl (inb_in hin) hdg kk
theorem mm_zald (hx : p.tables.exec = Jvm.exec) (hb : c.code = cc) (hKK : KK D ce s) (hP : va_P D vwCl (wd ce b kd ln n I L R) H) (ha : a < n) (hk : kd a = 3) {i : Int32} (hin : inb i (ln a) = true) (hdg : decode cc pc = .ok (.baload, 1))
    (kk : W p l e Rm s m args below meth c H locs cells slots Q (F0 m (pc + 1) ls (.int (I a i.toNatClampNeg) :: rest))) : W p l e Rm s m args below meth c H locs cells slots Q (F0 m pc ls (.int i :: .ref (b + a) :: rest)) :=
  va_zald hx hb hKK.1 hP a 2 (by rw [wd_at ha, en_3 hk]) rfl (inb_in hin) hdg kk
theorem mm_lald (hx : p.tables.exec = Jvm.exec) (hb : c.code = cc) (hKK : KK D ce s) (hP : va_P D vwCl (wd ce b kd ln n I L R) H) (ha : a < n) (hk : kd a = 2) {i : Int32} (hin : inb i (ln a) = true) (hdg : decode cc pc = .ok (.laload, 1))
    (kk : W p l e Rm s m args below meth c H locs cells slots Q (F0 m (pc + 1) ls (.long (L a i.toNatClampNeg) :: rest))) : W p l e Rm s m args below meth c H locs cells slots Q (F0 m pc ls (.int i :: .ref (b + a) :: rest)) :=
  va_lald hx hb hKK.1 hP a 1 (by rw [wd_at ha, en_2 hk]) rfl (inb_in hin) hdg kk
theorem mm_aald4 (hx : p.tables.exec = Jvm.exec) (hb : c.code = cc) (hKK : KK D ce s) (hP : va_P D vwCl (wd ce b kd ln n I L R) H) (ha : a < n) (hk : kd a = 4) {i : Int32} (hin : inb i (ln a) = true) (hnn : R a i.toNatClampNeg ≠ NUL) (hdg : decode cc pc = .ok (.aaload, 1))
    (kk : W p l e Rm s m args below meth c H locs cells slots Q (F0 m (pc + 1) ls (.ref (b + R a i.toNatClampNeg) :: rest))) : W p l e Rm s m args below meth c H locs cells slots Q (F0 m pc ls (.int i :: .ref (b + a) :: rest)) :=
  va_aldq hx hb hKK.1 hP a 3 (C := "FallingRules$Rule") (f := fun j => rv b (R a j)) (by rw [wd_at ha, en_4 hk]) rfl (inb_in hin) hdg (by simpa [rv, hnn, va_rf] using kk)
theorem mm_aald5 (hx : p.tables.exec = Jvm.exec) (hb : c.code = cc) (hKK : KK D ce s) (hP : va_P D vwCl (wd ce b kd ln n I L R) H) (ha : a < n) (hk : kd a = 5) {i : Int32} (hin : inb i (ln a) = true) (hnn : R a i.toNatClampNeg ≠ NUL) (hdg : decode cc pc = .ok (.aaload, 1))
    (kk : W p l e Rm s m args below meth c H locs cells slots Q (F0 m (pc + 1) ls (.ref (b + R a i.toNatClampNeg) :: rest))) : W p l e Rm s m args below meth c H locs cells slots Q (F0 m pc ls (.int i :: .ref (b + a) :: rest)) :=
  va_aldq hx hb hKK.1 hP a 4 (C := "FallingRules$State") (f := fun j => rv b (R a j)) (by rw [wd_at ha, en_5 hk]) rfl (inb_in hin) hdg (by simpa [rv, hnn, va_rf] using kk)
theorem mm_iast (hx : p.tables.exec = Jvm.exec) (hb : c.code = cc) (hKK : KK D ce s) (hP : va_P D vwCl (wd ce b kd ln n I L R) H) (hA : ∀ q, box b n q → A q) (hS : va_S A H0 H locs) (ha : a < n) (hk : kd a = 1) {i v : Int32} (hin : inb i (ln a) = true) (hdg : decode cc pc = .ok (.iastore, 1))
    (kk : ∀ (H1 : Heap) (locs1 : List Loc), va_P D vwCl (wd ce b kd ln n (u2 I a i.toNatClampNeg v) L R) H1 → va_S A H0 H1 locs1 → W p l e Rm s m args below meth c H1 locs1 cells slots Q (F0 m (pc + 1) ls rest)) : W p l e Rm s m args below meth c H locs cells slots Q (F0 m pc ls (.int v :: .int i :: .ref (b + a) :: rest)) := by
  refine va_iast hx hb hKK.1 hP (wd_D hA) hS a 0 (by rw [wd_at ha, en_1 hk]) rfl (inb_in hin) hdg (fun H1 locs1 hP1 hD1 hS1 => kk H1 locs1 ?_ hS1)
  rw [wd_set (I' := u2 I a i.toNatClampNeg v) (L' := L) (R' := R) ha (fun j hj => ⟨u2_n _ _ _ hj, rfl, rfl⟩) (by rw [en_1 hk, u2_s, upd_va])] at hP1
  exact hP1
theorem mm_zast (hx : p.tables.exec = Jvm.exec) (hb : c.code = cc) (hKK : KK D ce s) (hP : va_P D vwCl (wd ce b kd ln n I L R) H) (hA : ∀ q, box b n q → A q) (hS : va_S A H0 H locs) (ha : a < n) (hk : kd a = 3) {i v : Int32} (hin : inb i (ln a) = true) (hdg : decode cc pc = .ok (.bastore, 1))
    (kk : ∀ (H1 : Heap) (locs1 : List Loc), va_P D vwCl (wd ce b kd ln n (u2 I a i.toNatClampNeg (vp_nar .boolean v)) L R) H1 → va_S A H0 H1 locs1 → W p l e Rm s m args below meth c H1 locs1 cells slots Q (F0 m (pc + 1) ls rest)) : W p l e Rm s m args below meth c H locs cells slots Q (F0 m pc ls (.int v :: .int i :: .ref (b + a) :: rest)) := by
  refine va_zast hx hb hKK.1 hP (wd_D hA) hS a 2 (by rw [wd_at ha, en_3 hk]) rfl (inb_in hin) hdg (fun H1 locs1 hP1 hD1 hS1 => kk H1 locs1 ?_ hS1)
  rw [wd_set (I' := u2 I a i.toNatClampNeg (vp_nar .boolean v)) (L' := L) (R' := R) ha (fun j hj => ⟨u2_n _ _ _ hj, rfl, rfl⟩) (by rw [en_3 hk, u2_s, upd_va])] at hP1
  exact hP1
theorem mm_last (hx : p.tables.exec = Jvm.exec) (hb : c.code = cc) (hKK : KK D ce s) (hP : va_P D vwCl (wd ce b kd ln n I L R) H) (hA : ∀ q, box b n q → A q) (hS : va_S A H0 H locs) (ha : a < n) (hk : kd a = 2) {i : Int32} {v : Int64} (hin : inb i (ln a) = true) (hdg : decode cc pc = .ok (.lastore, 1))
    (kk : ∀ (H1 : Heap) (locs1 : List Loc), va_P D vwCl (wd ce b kd ln n I (u2 L a i.toNatClampNeg v) R) H1 → va_S A H0 H1 locs1 → W p l e Rm s m args below meth c H1 locs1 cells slots Q (F0 m (pc + 1) ls rest)) : W p l e Rm s m args below meth c H locs cells slots Q (F0 m pc ls (.long v :: .int i :: .ref (b + a) :: rest)) := by
  refine va_last hx hb hKK.1 hP (wd_D hA) hS a 1 (by rw [wd_at ha, en_2 hk]) rfl (inb_in hin) hdg (fun H1 locs1 hP1 hD1 hS1 => kk H1 locs1 ?_ hS1)
  rw [wd_set (I' := I) (L' := u2 L a i.toNatClampNeg v) (R' := R) ha (fun j hj => ⟨rfl, u2_n _ _ _ hj, rfl⟩) (by rw [en_2 hk, u2_s, updL_va])] at hP1
  exact hP1
theorem rv_up {b : Nat} {R : mR} {a k v : Nat} (hv : v ≠ NUL) : (fun j => rv b (u2 R a k v a j)) = va_up (fun j => rv b (R a j)) k (some (b + v)) := by
  funext j
  rw [u2_s]
  by_cases hj : j = k
  · subst hj
    rw [va_up_s, va_up_s]
    simp [rv, hv]
  · rw [va_up_n _ _ hj, va_up_n _ _ hj]
theorem mm_aast4 (hx : p.tables.exec = Jvm.exec) (hb : c.code = cc) (hKK : KK D ce s) (hP : va_P D vwCl (wd ce b kd ln n I L R) H) (hA : ∀ q, box b n q → A q) (hS : va_S A H0 H locs) (ha : a < n) (hk : kd a = 4) {i : Int32} {v : Nat} (hv : v < n) (hkv : kd v = 9) (hnv : v ≠ NUL) (hin : inb i (ln a) = true) (hdg : decode cc pc = .ok (.aastore, 1))
    (kk : ∀ (H1 : Heap) (locs1 : List Loc), va_P D vwCl (wd ce b kd ln n I L (u2 R a i.toNatClampNeg v)) H1 → va_S A H0 H1 locs1 → W p l e Rm s m args below meth c H1 locs1 cells slots Q (F0 m (pc + 1) ls rest)) : W p l e Rm s m args below meth c H locs cells slots Q (F0 m pc ls (.ref (b + v) :: .int i :: .ref (b + a) :: rest)) := by
  refine va_astq hx hb hKK.1 hP (wd_D hA) hS a 3 v 3 (r := (RX3, TX3, 2)) (vs := fvs b I L R v 0 (fd 3)) (f := fun j => rv b (R a j)) (by rw [wd_at ha, en_4 hk]) rfl (by rw [wd_at hv, en_o (ci := 3) hkv]) rfl (inb_in hin) hdg (fun H1 locs1 hP1 hD1 hS1 => kk H1 locs1 ?_ hS1)
  rw [wd_set (I' := I) (L' := L) (R' := u2 R a i.toNatClampNeg v) ha (fun j hj => ⟨rfl, rfl, u2_n _ _ _ hj⟩) (by rw [en_4 hk, rv_up hnv])] at hP1
  exact hP1
theorem mm_aast5 (hx : p.tables.exec = Jvm.exec) (hb : c.code = cc) (hKK : KK D ce s) (hP : va_P D vwCl (wd ce b kd ln n I L R) H) (hA : ∀ q, box b n q → A q) (hS : va_S A H0 H locs) (ha : a < n) (hk : kd a = 5) {i : Int32} {v : Nat} (hv : v < n) (hkv : kd v = 13) (hnv : v ≠ NUL) (hin : inb i (ln a) = true) (hdg : decode cc pc = .ok (.aastore, 1))
    (kk : ∀ (H1 : Heap) (locs1 : List Loc), va_P D vwCl (wd ce b kd ln n I L (u2 R a i.toNatClampNeg v)) H1 → va_S A H0 H1 locs1 → W p l e Rm s m args below meth c H1 locs1 cells slots Q (F0 m (pc + 1) ls rest)) : W p l e Rm s m args below meth c H locs cells slots Q (F0 m pc ls (.ref (b + v) :: .int i :: .ref (b + a) :: rest)) := by
  refine va_astq hx hb hKK.1 hP (wd_D hA) hS a 4 v 7 (r := (RX7, TX7, 3)) (vs := fvs b I L R v 0 (fd 7)) (f := fun j => rv b (R a j)) (by rw [wd_at ha, en_5 hk]) rfl (by rw [wd_at hv, en_o (ci := 7) hkv]) rfl (inb_in hin) hdg (fun H1 locs1 hP1 hD1 hS1 => kk H1 locs1 ?_ hS1)
  rw [wd_set (I' := I) (L' := L) (R' := u2 R a i.toNatClampNeg v) ha (fun j hj => ⟨rfl, rfl, u2_n _ _ _ hj⟩) (by rw [en_5 hk, rv_up hnv])] at hP1
  exact hP1
theorem mm_alen (hx : p.tables.exec = Jvm.exec) (hb : c.code = cc) (hKK : KK D ce s) (hP : va_P D vwCl (wd ce b kd ln n I L R) H) (ha : a < n) (hk : kd a = 1) (hdg : decode cc pc = .ok (.arraylength, 1))
    (kk : W p l e Rm s m args below meth c H locs cells slots Q (F0 m (pc + 1) ls (.int (nI (ln a)) :: rest))) : W p l e Rm s m args below meth c H locs cells slots Q (F0 m pc ls (.ref (b + a) :: rest)) :=
  va_alen hx hb hKK.1 hP a 0 (x := (ln a, .inl (I a))) (by rw [wd_at ha, en_1 hk]) (ty := .int) rfl rfl hdg kk
theorem cpok_in {sp dp q : Int32} {n0 n1 : Nat} (h : cpok sp dp q n0 n1 = true) : ¬ sp < 0 ∧ ¬ dp < 0 ∧ ¬ q < 0 ∧ sp.toNatClampNeg + q.toNatClampNeg ≤ n0 ∧ dp.toNatClampNeg + q.toNatClampNeg ≤ n1 := by
  unfold cpok at h
  simp only [Bool.and_eq_true, Bool.not_eq_true', decide_eq_false_iff_not, decide_eq_true_eq] at h
  exact ⟨h.1.1.1.1, h.1.1.1.2, h.1.1.2, h.1.2, h.2⟩
theorem mm_copy (hx : p.tables.exec = Jvm.exec) (hb : c.code = cc) (hml : c.maxLocals = ls.size) (hts : ∀ w ∈ GW, w.before args s = true) (hown : s.vm.findClass own = some m.cls) (hKK : KK D ce s) (hP : va_P D vwCl (wd ce b kd ln n I L R) H) (hA : ∀ q, box b n q → A q) (hS : va_S A H0 H locs) (hl : Cond.methodLink own index arraycopyName ∈ GW) (hw : Cond.native arraycopyName ∈ GW ∧ Cond.static arraycopyName ∈ GW ∧ Cond.initialized "java/lang/System" ∈ GW) {a0 : Nat} (ha0 : a0 < n) (hk0 : kd a0 = 1) (ha : a < n) (hk : kd a = 1) {sp dp q : Int32} (hin : cpok sp dp q (ln a0) (ln a) = true)
    (hframes : 1 ≤ Rm.frames) (hlocals : (rest.map fun v => v.category).sum + (nativeFrameWords "java/lang/System" "arraycopy" 5 + 11) ≤ Rm.locals) (hdg : decode cc pc = .ok (.invokestatic index, 3))
    (kk : ∀ (H1 : Heap) (locs1 : List Loc), va_P D vwCl (wd ce b kd ln n (va_up I a (va_cpy (I a0) (I a) sp.toNatClampNeg dp.toNatClampNeg q.toNatClampNeg)) L R) H1 → va_S A H0 H1 locs1 → W p l e Rm s m args below meth c H1 locs1 cells slots Q (F0 m (pc + 3) ls rest)) : W p l e Rm s m args below meth c H locs cells slots Q (F0 m pc ls (.int q :: .int dp :: .ref (b + a) :: .int sp :: .ref (b + a0) :: rest)) := by
  obtain ⟨h1, h2, h3, h4, h5⟩ := cpok_in hin
  refine va_copyi hx hb hml hown (hts _ hl) (hts _ hw.1) (hts _ hw.2.1) (hts _ hw.2.2) hKK.1 hP (wd_D hA) hS a0 a 0 0 (ty := .int) (by rw [wd_at ha0, en_1 hk0]) (by rw [wd_at ha, en_1 hk]) rfl rfl rfl h1 h2 h3 h4 h5 (fun i hi => rfl) hframes hlocals hdg (fun H1 locs1 hP1 hD1 hS1 => kk H1 locs1 ?_ hS1)
  rw [wd_set (I' := va_up I a (va_cpy (I a0) (I a) sp.toNatClampNeg dp.toNatClampNeg q.toNatClampNeg)) (L' := L) (R' := R) ha (fun j hj => ⟨va_up_n _ _ hj, rfl, rfl⟩) (by rw [en_1 hk, va_up_s])] at hP1
  exact hP1
theorem mm_iret {v : Int32} (hx : p.tables.exec = Jvm.exec) (hb : c.code = cc) (hr : meth.sig.returnType = some .int) (hlocks : meth.locks = false) (hP : va_P D vwCl (wd ce b kd ln n I L R) H) (hT : WT kd R) (hS : va_S (box b n) s.heap H locs) (hdg : decode cc pc = .ok (.ireturn, 1)) :
    W p l e Rm s m args below meth c H locs 0 0 (MQ below (va_Qi (fun r u => r = v ∧ u = (I, L, R)) (QW D ce b kd ln n) (box b n)) args s 0 0 (box b n)) (F0 m pc ls [.int v]) :=
  W.iret (v := v) hx hb hr (fun t ht hW => ⟨⟨v, (I, L, R), rfl, ⟨rfl, rfl⟩, by rw [ht]; exact hP, hT⟩, hS.F ht⟩) hS.2.2 hdg hlocks
theorem zb_nar {v : Int32} (h : zb v = true) : narrow .boolean (.int v) = .int v := by
  unfold zb at h
  simp only [Bool.or_eq_true, decide_eq_true_eq] at h
  rcases h with rfl | rfl <;> rfl
theorem mm_zret {v : Int32} (hx : p.tables.exec = Jvm.exec) (hb : c.code = cc) (hr : meth.sig.returnType = some .boolean) (hlocks : meth.locks = false) (hz : zb v = true) (hP : va_P D vwCl (wd ce b kd ln n I L R) H) (hT : WT kd R) (hS : va_S (box b n) s.heap H locs) (hdg : decode cc pc = .ok (.ireturn, 1)) :
    W p l e Rm s m args below meth c H locs 0 0 (MQ below (va_Qi (fun r u => r = v ∧ u = (I, L, R)) (QW D ce b kd ln n) (box b n)) args s 0 0 (box b n)) (F0 m pc ls [.int v]) :=
  W.zret (v := v) hx hb hr (zb_nar hz) (fun t ht hW => ⟨⟨v, (I, L, R), rfl, ⟨rfl, rfl⟩, by rw [ht]; exact hP, hT⟩, hS.F ht⟩) hS.2.2 hdg hlocks
theorem mm_lret {v : Int64} (hx : p.tables.exec = Jvm.exec) (hb : c.code = cc) (hr : meth.sig.returnType = some .long) (hlocks : meth.locks = false) (hP : va_P D vwCl (wd ce b kd ln n I L R) H) (hT : WT kd R) (hS : va_S (box b n) s.heap H locs) (hdg : decode cc pc = .ok (.lreturn, 1)) :
    W p l e Rm s m args below meth c H locs 0 0 (MQ below (va_Ql (fun r u => r = v ∧ u = (I, L, R)) (QW D ce b kd ln n) (box b n)) args s 0 0 (box b n)) (F0 m pc ls [.long v]) :=
  W.lret (v := v) hx hb hr (fun t ht hW => ⟨⟨v, (I, L, R), rfl, ⟨rfl, rfl⟩, by rw [ht]; exact hP, hT⟩, hS.F ht⟩) hS.2.2 hdg hlocks
theorem mm_vret (hx : p.tables.exec = Jvm.exec) (hb : c.code = cc) (hr : meth.sig.returnType = none) (hlocks : meth.locks = false) (hP : va_P D vwCl (wd ce b kd ln n I L R) H) (hT : WT kd R) (hS : va_S (box b n) s.heap H locs) (hdg : decode cc pc = .ok (.return_, 1)) :
    W p l e Rm s m args below meth c H locs 0 0 (MQ below (va_Qv (fun u => u = (I, L, R)) (QW D ce b kd ln n) (box b n)) args s 0 0 (box b n)) (F0 m pc ls []) :=
  W.vret hx hb hr (fun t ht hW => ⟨⟨(I, L, R), rfl, rfl, by rw [ht]; exact hP, hT⟩, hS.F ht⟩) hS.2.2 hdg hlocks

def VOK (own : String) (idx : Nat) (y : MethodName) (bytes : ByteArray) (maxL : Nat) (ret : Option FieldType) (q : Nat) : Prop := GoodIn GW (wsV own idx y.cls y (Cond.code y bytes maxL ret :: GW)) ∧ (y.cls = y.cls ∧ y.cls ≠ "java/lang/invoke/MethodHandle" ∧ y.cls ≠ "java/lang/invoke/VarHandle" ∧ (parseMethodDescriptor y.desc).map (fun d => d.parameters.length) = some q)
theorem vok_mk {own : String} {idx : Nat} {y : MethodName} {bytes : ByteArray} {maxL : Nat} {ret : Option FieldType} {q : Nat} (h1 : Cond.methodLink own idx y ∈ GW) (h2 : Cond.instanceMethod y ∈ GW) (h3 : Cond.selects y.cls y y ∈ GW) (h4 : Cond.initialized y.cls ∈ GW) (h5 : Cond.code y bytes maxL ret ∈ GW) (h6 : y.cls ≠ "java/lang/invoke/MethodHandle" ∧ y.cls ≠ "java/lang/invoke/VarHandle" ∧ (parseMethodDescriptor y.desc).map (fun d => d.parameters.length) = some q) : VOK own idx y bytes maxL ret q := by
  refine ⟨fun w hw => GW_good ?_, rfl, h6⟩
  unfold wsV at hw
  rcases List.mem_append.mp hw with hw | hw
  · simp only [List.mem_cons, List.not_mem_nil, or_false] at hw
    rcases hw with rfl | rfl | rfl | rfl
    · exact h1
    · exact h2
    · exact h3
    · exact h4
  · rcases List.mem_cons.mp hw with rfl | hw
    · exact h5
    · exact hw
def SOK (own : String) (idx : Nat) (y : MethodName) (bytes : ByteArray) (maxL : Nat) (ret : Option FieldType) (q : Nat) : Prop := GoodIn GW (va_wsS own idx y (Cond.code y bytes maxL ret :: GW)) ∧ (y.cls ≠ "java/lang/invoke/MethodHandle" ∧ y.cls ≠ "java/lang/invoke/VarHandle" ∧ (parseMethodDescriptor y.desc).map (fun d => d.parameters.length) = some q)
theorem sok_mk {own : String} {idx : Nat} {y : MethodName} {bytes : ByteArray} {maxL : Nat} {ret : Option FieldType} {q : Nat} (h1 : Cond.methodLink own idx y ∈ GW) (h2 : Cond.static y ∈ GW) (h4 : Cond.initialized y.cls ∈ GW) (h5 : Cond.code y bytes maxL ret ∈ GW) (h6 : y.cls ≠ "java/lang/invoke/MethodHandle" ∧ y.cls ≠ "java/lang/invoke/VarHandle" ∧ (parseMethodDescriptor y.desc).map (fun d => d.parameters.length) = some q) : SOK own idx y bytes maxL ret q := by
  refine ⟨fun w hw => GW_good ?_, h6⟩
  unfold va_wsS at hw
  rcases List.mem_append.mp hw with hw | hw
  · simp only [List.mem_cons, List.not_mem_nil, or_false] at hw
    rcases hw with rfl | rfl | rfl
    · exact h1
    · exact h2
    · exact h4
  · rcases List.mem_cons.mp hw with rfl | hw
    · exact h5
    · exact hw
def NOK (own : String) (idx : Nat) (y : MethodName) (bytes : ByteArray) (maxL : Nat) (ret : Option FieldType) (q : Nat) : Prop := Cond.methodLinkNest own idx y "FallingRules" ∈ nestL ∧ Cond.static y ∈ GW ∧ Cond.initialized y.cls ∈ GW ∧ Cond.code y bytes maxL ret ∈ GW ∧ (y.cls ≠ "java/lang/invoke/MethodHandle" ∧ y.cls ≠ "java/lang/invoke/VarHandle" ∧ (parseMethodDescriptor y.desc).map (fun d => d.parameters.length) = some q)
theorem good_code {y : MethodName} {bytes : ByteArray} {maxL : Nat} {ret : Option FieldType} (h : Cond.code y bytes maxL ret ∈ GW) : GoodIn GW (Cond.code y bytes maxL ret :: GW) := fun w hw => GW_good (by
  rcases List.mem_cons.mp hw with rfl | hw
  · exact h
  · exact hw)
variable {y : MethodName} {bytes : ByteArray} {maxL nL q : Nat} {ret : Option FieldType} {rm : Room} {As st : List Value} {I' : mI} {L' : mL} {R' : mR}
theorem mm_Vi {r0 : Int32} (hx : p.tables.exec = Jvm.exec) (hb : c.code = cc) (hml : c.maxLocals = nL) (hown : s.vm.findClass own = some m.cls) (hts : ∀ w ∈ GW, w.before args s = true) (hKK : KK D ce s) (hP : va_P D vwCl (wd ce b kd ln n I L R) H) (hS : va_S A s.heap H locs) (hA : ∀ q, box b n q → A q) (ha : a < n) (hka : kd a = ci + 6) (hc : vwCl[ci]? = some (y.cls, T, N)) (V : VOK own index y bytes maxL ret q)
    (hM : Met l y (Cond.code y bytes maxL ret :: GW) rm (va_Pc (.ref (b + a) :: As) (PW D ce b kd ln n I L R)) (va_Qi (fun r u => r = r0 ∧ u = (I', L', R')) (QW D ce b kd ln n) (box b n)) 0 0 (box b n)) (hn : As.length = q) (hsz : ls.size = nL) (hst : st = As.reverse ++ .ref (b + a) :: rest) (hW : (rest.map fun v => v.category).sum ≤ 8) (hrm : rm.cells = 0 ∧ rm.slots = 0) (hR : rm.frames + 1 ≤ Rm.frames ∧ 8 + (maxL + 11) + rm.locals ≤ Rm.locals) (hcs : cells ≤ Rm.cells ∧ slots ≤ Rm.slots) (hdg : decode cc pc = .ok (.invokevirtual index, 3))
    (kk : ∀ (H1 : Heap) (locs1 : List Loc), va_P D vwCl (wd ce b kd ln n I' L' R') H1 → WT kd R' → va_S A s.heap H1 locs1 → W p l e Rm s m args below meth c H1 locs1 cells slots Q (F0 m (pc + 3) ls (.int r0 :: rest))) : W p l e Rm s m args below meth c H locs cells slots Q (F0 m pc ls st) := by
  subst hst
  refine va_calli (va_runV (As := As) (rest := rest) ⟨hx, hb, hml, hown, hts⟩ hM (cwV q hts V.1 rfl hrm.1 hrm.2 V.2 hR) ⟨PW.blind, va_recv hKK.1 hP hc (q0 := a) (fs := fvs b I L R a 0 (fd ci)) (by rw [wd_at ha, en_o hka]), fun U hU hW => ⟨rfl, by rw [hU]; exact hP, KK.warm hW hKK⟩⟩ rfl hn hsz rfl (lv_room hW) hdg ⟨hcs.1, hcs.2⟩) hS (fun q _ h => hA q h) hA (fun r u t H1 locs1 ht hvm hw hB hz hk1 hS1 => ?_)
  obtain ⟨rfl, rfl⟩ := hw
  exact kk H1 locs1 (by rw [← ht]; exact hB.1) hB.2 hS1
theorem mm_Vl {r0 : Int64} (hx : p.tables.exec = Jvm.exec) (hb : c.code = cc) (hml : c.maxLocals = nL) (hown : s.vm.findClass own = some m.cls) (hts : ∀ w ∈ GW, w.before args s = true) (hKK : KK D ce s) (hP : va_P D vwCl (wd ce b kd ln n I L R) H) (hS : va_S A s.heap H locs) (hA : ∀ q, box b n q → A q) (ha : a < n) (hka : kd a = ci + 6) (hc : vwCl[ci]? = some (y.cls, T, N)) (V : VOK own index y bytes maxL ret q)
    (hM : Met l y (Cond.code y bytes maxL ret :: GW) rm (va_Pc (.ref (b + a) :: As) (PW D ce b kd ln n I L R)) (va_Ql (fun r u => r = r0 ∧ u = (I', L', R')) (QW D ce b kd ln n) (box b n)) 0 0 (box b n)) (hn : As.length = q) (hsz : ls.size = nL) (hst : st = As.reverse ++ .ref (b + a) :: rest) (hW : (rest.map fun v => v.category).sum ≤ 8) (hrm : rm.cells = 0 ∧ rm.slots = 0) (hR : rm.frames + 1 ≤ Rm.frames ∧ 8 + (maxL + 11) + rm.locals ≤ Rm.locals) (hcs : cells ≤ Rm.cells ∧ slots ≤ Rm.slots) (hdg : decode cc pc = .ok (.invokevirtual index, 3))
    (kk : ∀ (H1 : Heap) (locs1 : List Loc), va_P D vwCl (wd ce b kd ln n I' L' R') H1 → WT kd R' → va_S A s.heap H1 locs1 → W p l e Rm s m args below meth c H1 locs1 cells slots Q (F0 m (pc + 3) ls (.long r0 :: rest))) : W p l e Rm s m args below meth c H locs cells slots Q (F0 m pc ls st) := by
  subst hst
  refine va_calll (va_runV (As := As) (rest := rest) ⟨hx, hb, hml, hown, hts⟩ hM (cwV q hts V.1 rfl hrm.1 hrm.2 V.2 hR) ⟨PW.blind, va_recv hKK.1 hP hc (q0 := a) (fs := fvs b I L R a 0 (fd ci)) (by rw [wd_at ha, en_o hka]), fun U hU hW => ⟨rfl, by rw [hU]; exact hP, KK.warm hW hKK⟩⟩ rfl hn hsz rfl (lv_room hW) hdg ⟨hcs.1, hcs.2⟩) hS (fun q _ h => hA q h) hA (fun r u t H1 locs1 ht hvm hw hB hz hk1 hS1 => ?_)
  obtain ⟨rfl, rfl⟩ := hw
  exact kk H1 locs1 (by rw [← ht]; exact hB.1) hB.2 hS1
theorem mm_Vv (hx : p.tables.exec = Jvm.exec) (hb : c.code = cc) (hml : c.maxLocals = nL) (hown : s.vm.findClass own = some m.cls) (hts : ∀ w ∈ GW, w.before args s = true) (hKK : KK D ce s) (hP : va_P D vwCl (wd ce b kd ln n I L R) H) (hS : va_S A s.heap H locs) (hA : ∀ q, box b n q → A q) (ha : a < n) (hka : kd a = ci + 6) (hc : vwCl[ci]? = some (y.cls, T, N)) (V : VOK own index y bytes maxL ret q)
    (hM : Met l y (Cond.code y bytes maxL ret :: GW) rm (va_Pc (.ref (b + a) :: As) (PW D ce b kd ln n I L R)) (va_Qv (fun u => u = (I', L', R')) (QW D ce b kd ln n) (box b n)) 0 0 (box b n)) (hn : As.length = q) (hsz : ls.size = nL) (hst : st = As.reverse ++ .ref (b + a) :: rest) (hW : (rest.map fun v => v.category).sum ≤ 8) (hrm : rm.cells = 0 ∧ rm.slots = 0) (hR : rm.frames + 1 ≤ Rm.frames ∧ 8 + (maxL + 11) + rm.locals ≤ Rm.locals) (hcs : cells ≤ Rm.cells ∧ slots ≤ Rm.slots) (hdg : decode cc pc = .ok (.invokevirtual index, 3))
    (kk : ∀ (H1 : Heap) (locs1 : List Loc), va_P D vwCl (wd ce b kd ln n I' L' R') H1 → WT kd R' → va_S A s.heap H1 locs1 → W p l e Rm s m args below meth c H1 locs1 cells slots Q (F0 m (pc + 3) ls (rest))) : W p l e Rm s m args below meth c H locs cells slots Q (F0 m pc ls st) := by
  subst hst
  refine va_callv (va_runV (As := As) (rest := rest) ⟨hx, hb, hml, hown, hts⟩ hM (cwV q hts V.1 rfl hrm.1 hrm.2 V.2 hR) ⟨PW.blind, va_recv hKK.1 hP hc (q0 := a) (fs := fvs b I L R a 0 (fd ci)) (by rw [wd_at ha, en_o hka]), fun U hU hW => ⟨rfl, by rw [hU]; exact hP, KK.warm hW hKK⟩⟩ rfl hn hsz rfl (lv_room hW) hdg ⟨hcs.1, hcs.2⟩) hS (fun q _ h => hA q h) hA (fun u t H1 locs1 ht hvm hw hB hz hk1 hS1 => ?_)
  subst hw
  exact kk H1 locs1 (by rw [← ht]; exact hB.1) hB.2 hS1
theorem mm_Si {r0 : Int32} (hx : p.tables.exec = Jvm.exec) (hb : c.code = cc) (hml : c.maxLocals = nL) (hown : s.vm.findClass own = some m.cls) (hts : ∀ w ∈ GW, w.before args s = true) (hKK : KK D ce s) (hP : va_P D vwCl (wd ce b kd ln n I L R) H) (hS : va_S A s.heap H locs) (hA : ∀ q, box b n q → A q) (V : SOK own index y bytes maxL ret q)
    (hM : Met l y (Cond.code y bytes maxL ret :: GW) rm (va_Pc (As) (PW D ce b kd ln n I L R)) (va_Qi (fun r u => r = r0 ∧ u = (I', L', R')) (QW D ce b kd ln n) (box b n)) 0 0 (box b n)) (hn : As.length = q) (hsz : ls.size = nL) (hst : st = As.reverse ++ rest) (hW : (rest.map fun v => v.category).sum ≤ 8) (hrm : rm.cells = 0 ∧ rm.slots = 0) (hR : rm.frames + 1 ≤ Rm.frames ∧ 8 + (maxL + 11) + rm.locals ≤ Rm.locals) (hcs : cells ≤ Rm.cells ∧ slots ≤ Rm.slots) (hdg : decode cc pc = .ok (.invokestatic index, 3))
    (kk : ∀ (H1 : Heap) (locs1 : List Loc), va_P D vwCl (wd ce b kd ln n I' L' R') H1 → WT kd R' → va_S A s.heap H1 locs1 → W p l e Rm s m args below meth c H1 locs1 cells slots Q (F0 m (pc + 3) ls (.int r0 :: rest))) : W p l e Rm s m args below meth c H locs cells slots Q (F0 m pc ls st) := by
  subst hst
  refine va_calli (va_runS (As := As) (rest := rest) ⟨hx, hb, hml, hown, hts⟩ hM (va_cwS q hts V.1 rfl hrm.1 hrm.2 V.2 hR) ⟨PW.blind, fun U hU hW => ⟨rfl, by rw [hU]; exact hP, KK.warm hW hKK⟩⟩ rfl hn hsz rfl (lv_room hW) hdg ⟨hcs.1, hcs.2⟩) hS (fun q _ h => hA q h) hA (fun r u t H1 locs1 ht hvm hw hB hz hk1 hS1 => ?_)
  obtain ⟨rfl, rfl⟩ := hw
  exact kk H1 locs1 (by rw [← ht]; exact hB.1) hB.2 hS1
theorem mm_Sl {r0 : Int64} (hx : p.tables.exec = Jvm.exec) (hb : c.code = cc) (hml : c.maxLocals = nL) (hown : s.vm.findClass own = some m.cls) (hts : ∀ w ∈ GW, w.before args s = true) (hKK : KK D ce s) (hP : va_P D vwCl (wd ce b kd ln n I L R) H) (hS : va_S A s.heap H locs) (hA : ∀ q, box b n q → A q) (V : SOK own index y bytes maxL ret q)
    (hM : Met l y (Cond.code y bytes maxL ret :: GW) rm (va_Pc (As) (PW D ce b kd ln n I L R)) (va_Ql (fun r u => r = r0 ∧ u = (I', L', R')) (QW D ce b kd ln n) (box b n)) 0 0 (box b n)) (hn : As.length = q) (hsz : ls.size = nL) (hst : st = As.reverse ++ rest) (hW : (rest.map fun v => v.category).sum ≤ 8) (hrm : rm.cells = 0 ∧ rm.slots = 0) (hR : rm.frames + 1 ≤ Rm.frames ∧ 8 + (maxL + 11) + rm.locals ≤ Rm.locals) (hcs : cells ≤ Rm.cells ∧ slots ≤ Rm.slots) (hdg : decode cc pc = .ok (.invokestatic index, 3))
    (kk : ∀ (H1 : Heap) (locs1 : List Loc), va_P D vwCl (wd ce b kd ln n I' L' R') H1 → WT kd R' → va_S A s.heap H1 locs1 → W p l e Rm s m args below meth c H1 locs1 cells slots Q (F0 m (pc + 3) ls (.long r0 :: rest))) : W p l e Rm s m args below meth c H locs cells slots Q (F0 m pc ls st) := by
  subst hst
  refine va_calll (va_runS (As := As) (rest := rest) ⟨hx, hb, hml, hown, hts⟩ hM (va_cwS q hts V.1 rfl hrm.1 hrm.2 V.2 hR) ⟨PW.blind, fun U hU hW => ⟨rfl, by rw [hU]; exact hP, KK.warm hW hKK⟩⟩ rfl hn hsz rfl (lv_room hW) hdg ⟨hcs.1, hcs.2⟩) hS (fun q _ h => hA q h) hA (fun r u t H1 locs1 ht hvm hw hB hz hk1 hS1 => ?_)
  obtain ⟨rfl, rfl⟩ := hw
  exact kk H1 locs1 (by rw [← ht]; exact hB.1) hB.2 hS1
theorem mm_Sv (hx : p.tables.exec = Jvm.exec) (hb : c.code = cc) (hml : c.maxLocals = nL) (hown : s.vm.findClass own = some m.cls) (hts : ∀ w ∈ GW, w.before args s = true) (hKK : KK D ce s) (hP : va_P D vwCl (wd ce b kd ln n I L R) H) (hS : va_S A s.heap H locs) (hA : ∀ q, box b n q → A q) (V : SOK own index y bytes maxL ret q)
    (hM : Met l y (Cond.code y bytes maxL ret :: GW) rm (va_Pc (As) (PW D ce b kd ln n I L R)) (va_Qv (fun u => u = (I', L', R')) (QW D ce b kd ln n) (box b n)) 0 0 (box b n)) (hn : As.length = q) (hsz : ls.size = nL) (hst : st = As.reverse ++ rest) (hW : (rest.map fun v => v.category).sum ≤ 8) (hrm : rm.cells = 0 ∧ rm.slots = 0) (hR : rm.frames + 1 ≤ Rm.frames ∧ 8 + (maxL + 11) + rm.locals ≤ Rm.locals) (hcs : cells ≤ Rm.cells ∧ slots ≤ Rm.slots) (hdg : decode cc pc = .ok (.invokestatic index, 3))
    (kk : ∀ (H1 : Heap) (locs1 : List Loc), va_P D vwCl (wd ce b kd ln n I' L' R') H1 → WT kd R' → va_S A s.heap H1 locs1 → W p l e Rm s m args below meth c H1 locs1 cells slots Q (F0 m (pc + 3) ls (rest))) : W p l e Rm s m args below meth c H locs cells slots Q (F0 m pc ls st) := by
  subst hst
  refine va_callv (va_runS (As := As) (rest := rest) ⟨hx, hb, hml, hown, hts⟩ hM (va_cwS q hts V.1 rfl hrm.1 hrm.2 V.2 hR) ⟨PW.blind, fun U hU hW => ⟨rfl, by rw [hU]; exact hP, KK.warm hW hKK⟩⟩ rfl hn hsz rfl (lv_room hW) hdg ⟨hcs.1, hcs.2⟩) hS (fun q _ h => hA q h) hA (fun u t H1 locs1 ht hvm hw hB hz hk1 hS1 => ?_)
  subst hw
  exact kk H1 locs1 (by rw [← ht]; exact hB.1) hB.2 hS1
theorem mm_Ni {r0 : Int32} (hx : p.tables.exec = Jvm.exec) (hb : c.code = cc) (hml : c.maxLocals = nL) (hown : s.vm.findClass own = some m.cls) (hts : ∀ w ∈ GW, w.before args s = true) (hKK : KK D ce s) (hP : va_P D vwCl (wd ce b kd ln n I L R) H) (hS : va_S A s.heap H locs) (hA : ∀ q, box b n q → A q) (V : NOK own index y bytes maxL ret q)
    (hM : Met l y (Cond.code y bytes maxL ret :: GW) rm (va_Pc (As) (PW D ce b kd ln n I L R)) (va_Qi (fun r u => r = r0 ∧ u = (I', L', R')) (QW D ce b kd ln n) (box b n)) 0 0 (box b n)) (hn : As.length = q) (hsz : ls.size = nL) (hst : st = As.reverse ++ rest) (hW : (rest.map fun v => v.category).sum ≤ 8) (hrm : rm.cells = 0 ∧ rm.slots = 0) (hR : rm.frames + 1 ≤ Rm.frames ∧ 8 + (maxL + 11) + rm.locals ≤ Rm.locals) (hcs : cells ≤ Rm.cells ∧ slots ≤ Rm.slots) (hdg : decode cc pc = .ok (.invokestatic index, 3))
    (kk : ∀ (H1 : Heap) (locs1 : List Loc), va_P D vwCl (wd ce b kd ln n I' L' R') H1 → WT kd R' → va_S A s.heap H1 locs1 → W p l e Rm s m args below meth c H1 locs1 cells slots Q (F0 m (pc + 3) ls (.int r0 :: rest))) : W p l e Rm s m args below meth c H locs cells slots Q (F0 m pc ls st) := by
  subst hst
  refine va_calli (va_runSN (As := As) (rest := rest) ⟨hx, hb, hml, hown, hts⟩ hM ⟨va_cnB q hts (good_code V.2.2.2.1) rfl hrm.1 hrm.2 (hKK.2 _ V.1) (hts _ V.2.2.1) V.2.2.2.2 hR, hts _ V.2.1, trivial⟩ ⟨PW.blind, fun U hU hW => ⟨rfl, by rw [hU]; exact hP, KK.warm hW hKK⟩⟩ rfl hn hsz rfl (lv_room hW) hdg ⟨hcs.1, hcs.2⟩) hS (fun q _ h => hA q h) hA (fun r u t H1 locs1 ht hvm hw hB hz hk1 hS1 => ?_)
  obtain ⟨rfl, rfl⟩ := hw
  exact kk H1 locs1 (by rw [← ht]; exact hB.1) hB.2 hS1
theorem mm_Nl {r0 : Int64} (hx : p.tables.exec = Jvm.exec) (hb : c.code = cc) (hml : c.maxLocals = nL) (hown : s.vm.findClass own = some m.cls) (hts : ∀ w ∈ GW, w.before args s = true) (hKK : KK D ce s) (hP : va_P D vwCl (wd ce b kd ln n I L R) H) (hS : va_S A s.heap H locs) (hA : ∀ q, box b n q → A q) (V : NOK own index y bytes maxL ret q)
    (hM : Met l y (Cond.code y bytes maxL ret :: GW) rm (va_Pc (As) (PW D ce b kd ln n I L R)) (va_Ql (fun r u => r = r0 ∧ u = (I', L', R')) (QW D ce b kd ln n) (box b n)) 0 0 (box b n)) (hn : As.length = q) (hsz : ls.size = nL) (hst : st = As.reverse ++ rest) (hW : (rest.map fun v => v.category).sum ≤ 8) (hrm : rm.cells = 0 ∧ rm.slots = 0) (hR : rm.frames + 1 ≤ Rm.frames ∧ 8 + (maxL + 11) + rm.locals ≤ Rm.locals) (hcs : cells ≤ Rm.cells ∧ slots ≤ Rm.slots) (hdg : decode cc pc = .ok (.invokestatic index, 3))
    (kk : ∀ (H1 : Heap) (locs1 : List Loc), va_P D vwCl (wd ce b kd ln n I' L' R') H1 → WT kd R' → va_S A s.heap H1 locs1 → W p l e Rm s m args below meth c H1 locs1 cells slots Q (F0 m (pc + 3) ls (.long r0 :: rest))) : W p l e Rm s m args below meth c H locs cells slots Q (F0 m pc ls st) := by
  subst hst
  refine va_calll (va_runSN (As := As) (rest := rest) ⟨hx, hb, hml, hown, hts⟩ hM ⟨va_cnB q hts (good_code V.2.2.2.1) rfl hrm.1 hrm.2 (hKK.2 _ V.1) (hts _ V.2.2.1) V.2.2.2.2 hR, hts _ V.2.1, trivial⟩ ⟨PW.blind, fun U hU hW => ⟨rfl, by rw [hU]; exact hP, KK.warm hW hKK⟩⟩ rfl hn hsz rfl (lv_room hW) hdg ⟨hcs.1, hcs.2⟩) hS (fun q _ h => hA q h) hA (fun r u t H1 locs1 ht hvm hw hB hz hk1 hS1 => ?_)
  obtain ⟨rfl, rfl⟩ := hw
  exact kk H1 locs1 (by rw [← ht]; exact hB.1) hB.2 hS1
theorem mm_Nv (hx : p.tables.exec = Jvm.exec) (hb : c.code = cc) (hml : c.maxLocals = nL) (hown : s.vm.findClass own = some m.cls) (hts : ∀ w ∈ GW, w.before args s = true) (hKK : KK D ce s) (hP : va_P D vwCl (wd ce b kd ln n I L R) H) (hS : va_S A s.heap H locs) (hA : ∀ q, box b n q → A q) (V : NOK own index y bytes maxL ret q)
    (hM : Met l y (Cond.code y bytes maxL ret :: GW) rm (va_Pc (As) (PW D ce b kd ln n I L R)) (va_Qv (fun u => u = (I', L', R')) (QW D ce b kd ln n) (box b n)) 0 0 (box b n)) (hn : As.length = q) (hsz : ls.size = nL) (hst : st = As.reverse ++ rest) (hW : (rest.map fun v => v.category).sum ≤ 8) (hrm : rm.cells = 0 ∧ rm.slots = 0) (hR : rm.frames + 1 ≤ Rm.frames ∧ 8 + (maxL + 11) + rm.locals ≤ Rm.locals) (hcs : cells ≤ Rm.cells ∧ slots ≤ Rm.slots) (hdg : decode cc pc = .ok (.invokestatic index, 3))
    (kk : ∀ (H1 : Heap) (locs1 : List Loc), va_P D vwCl (wd ce b kd ln n I' L' R') H1 → WT kd R' → va_S A s.heap H1 locs1 → W p l e Rm s m args below meth c H1 locs1 cells slots Q (F0 m (pc + 3) ls (rest))) : W p l e Rm s m args below meth c H locs cells slots Q (F0 m pc ls st) := by
  subst hst
  refine va_callv (va_runSN (As := As) (rest := rest) ⟨hx, hb, hml, hown, hts⟩ hM ⟨va_cnB q hts (good_code V.2.2.2.1) rfl hrm.1 hrm.2 (hKK.2 _ V.1) (hts _ V.2.2.1) V.2.2.2.2 hR, hts _ V.2.1, trivial⟩ ⟨PW.blind, fun U hU hW => ⟨rfl, by rw [hU]; exact hP, KK.warm hW hKK⟩⟩ rfl hn hsz rfl (lv_room hW) hdg ⟨hcs.1, hcs.2⟩) hS (fun q _ h => hA q h) hA (fun u t H1 locs1 ht hvm hw hB hz hk1 hS1 => ?_)
  subst hw
  exact kk H1 locs1 (by rw [← ht]; exact hB.1) hB.2 hS1
end MM
theorem kdC_NUL : kdC NUL = 0 := by decide +kernel
theorem kdM_NUL : kdM NUL = 0 := by decide +kernel
theorem nC {r t : Nat} (h : kdC r = t) (ht : t ≠ 0) : r ≠ NUL := nnul kdC_NUL h ht
theorem nM {r t : Nat} (h : kdM r = t) (ht : t ≠ 0) : r ≠ NUL := nnul kdM_NUL h ht
