/-! ===== numbers and lists: the plain ground ===== -/
theorem FU_eq : FU = 100000 := rfl
theorem inb_nI {k n : Nat} (h : k < n) (hn : k < 2 ^ 31) : inb (nI k) n = true := by
  unfold inb
  simp only [Bool.and_eq_true, Bool.not_eq_true', decide_eq_false_iff_not, decide_eq_true_eq]
  exact ⟨nI_pos hn, by rw [nI_clamp hn]; exact h⟩
theorem inb_inv {x : Int32} {n : Nat} (h : inb x n = true) (hn : n ≤ 2 ^ 31) : ∃ k, k < n ∧ x = nI k := by
  obtain ⟨j, h1, h2⟩ := nI_of (x := x) (by
    have := inb_in h
    intro q
    exact this (Or.inl q))
  refine ⟨j, ?_, h2⟩
  have := inb_in h
  rw [h2] at this
  have h3 : ¬ n ≤ (nI j).toNatClampNeg := fun q => this (Or.inr q)
  rw [nI_clamp h1] at h3
  omega
theorem inb_out {k n : Nat} (h : n ≤ k) (hk : k < 2 ^ 31) : inb (nI k) n = false := by
  unfold inb
  rw [nI_clamp hk]
  simp [Nat.not_lt.mpr h]
/-- how many parts a letter wants -/
def wn (c : Int32) : Nat := if c = 103 then 2 else if c = 102 then 1 else 0
theorem wn_le (c : Int32) : wn c ≤ 2 := by unfold wn; split; omega; split <;> omega
/-- how many letters the first n terms of a row have -/
def pl : Nat → List Int32 → Nat
  | 0, _ => 0
  | _ + 1, [] => 0
  | n + 1, c :: cs => 1 + pl (n + wn c) cs
theorem pl_0 (l : List Int32) : pl 0 l = 0 := by cases l <;> rfl
theorem pl_nil (n : Nat) : pl n [] = 0 := by cases n <;> rfl
theorem pl_cons (n : Nat) (c : Int32) (cs : List Int32) : pl (n + 1) (c :: cs) = 1 + pl (n + wn c) cs := rfl
theorem pl_add : ∀ (l : List Int32) (a b : Nat), pl (a + b) l = pl a l + pl b (l.drop (pl a l))
  | [], a, b => by simp [pl_nil]
  | c :: cs, 0, b => by simp [pl_0]
  | c :: cs, a + 1, b => by
    rw [show a + 1 + b = (a + b) + 1 by omega, pl_cons, pl_cons, show a + b + wn c = (a + wn c) + b by omega, pl_add cs (a + wn c) b, show 1 + pl (a + wn c) cs = pl (a + wn c) cs + 1 by omega, List.drop_succ_cons]
    omega
theorem pl_le : ∀ (l : List Int32) (n : Nat), pl n l ≤ l.length
  | [], n => by simp [pl_nil]
  | c :: cs, 0 => by simp [pl_0]
  | c :: cs, n + 1 => by
    rw [pl_cons, List.length_cons]
    have := pl_le cs (n + wn c)
    omega
/-- the row is just n terms -/
def wfb : Nat → List Int32 → Bool
  | 0, [] => true
  | 0, _ :: _ => false
  | _ + 1, [] => false
  | n + 1, c :: cs => wfb (n + wn c) cs
theorem wfb_cons {n : Nat} {c : Int32} {cs : List Int32} : wfb (n + 1) (c :: cs) = wfb (n + wn c) cs := rfl
theorem wfb_pl : ∀ (l : List Int32) (n : Nat), wfb n l = true → pl n l = l.length
  | [], n, _ => by simp [pl_nil]
  | c :: cs, 0, h => by cases h
  | c :: cs, n + 1, h => by
    rw [pl_cons, List.length_cons, wfb_pl cs _ h]
    omega
theorem wfb_drop : ∀ (l : List Int32) (n k : Nat), wfb n l = true → k < l.length → ∃ m, wfb (m + 1) (l.drop k) = true
  | [], n, k, _, hk => by simp at hk
  | c :: cs, 0, k, h, _ => by cases h
  | c :: cs, n + 1, 0, h, _ => ⟨n, h⟩
  | c :: cs, n + 1, k + 1, h, hk => by
    rw [List.drop_succ_cons]
    exact wfb_drop cs (n + wn c) k h (by simpa using hk)
theorem wfb_pos {l : List Int32} {n : Nat} (h : wfb (n + 1) l = true) : 0 < l.length := by
  cases l with
  | nil => cases h
  | cons c cs => simp
theorem wfb_add : ∀ (l : List Int32) (a b : Nat), wfb (a + b) l = true → wfb a (l.take (pl a l)) = true ∧ wfb b (l.drop (pl a l)) = true
  | [], 0, 0, _ => ⟨rfl, rfl⟩
  | [], 0, b + 1, h => by rw [Nat.zero_add] at h; cases h
  | [], a + 1, b, h => by rw [show a + 1 + b = (a + b) + 1 by omega] at h; cases h
  | c :: cs, 0, b, h => by
    rw [Nat.zero_add] at h
    simp [pl_0, h, wfb]
  | c :: cs, a + 1, b, h => by
    rw [show a + 1 + b = (a + b) + 1 by omega, wfb_cons, show a + b + wn c = (a + wn c) + b by omega] at h
    obtain ⟨h1, h2⟩ := wfb_add cs (a + wn c) b h
    rw [pl_cons, show 1 + pl (a + wn c) cs = pl (a + wn c) cs + 1 by omega, List.take_succ_cons, List.drop_succ_cons]
    exact ⟨h1, h2⟩
theorem wfb_app : ∀ (l r : List Int32) (a b : Nat), wfb a l = true → wfb b r = true → wfb (a + b) (l ++ r) = true
  | [], r, 0, b, _, h => by rw [Nat.zero_add]; exact h
  | [], r, a + 1, b, h, _ => by cases h
  | c :: cs, r, 0, b, h, _ => by cases h
  | c :: cs, r, a + 1, b, h, h2 => by
    rw [show a + 1 + b = (a + b) + 1 by omega, List.cons_append, wfb_cons, show a + b + wn c = (a + wn c) + b by omega]
    exact wfb_app cs r (a + wn c) b h h2
theorem pl_take : ∀ (l : List Int32) (n j : Nat), pl n l ≤ j → pl n (l.take j) = pl n l
  | [], n, j, _ => by simp
  | c :: cs, 0, j, _ => by simp [pl_0]
  | c :: cs, n + 1, 0, h => by rw [pl_cons] at h; omega
  | c :: cs, n + 1, j + 1, h => by
    rw [List.take_succ_cons, pl_cons, pl_cons, pl_take cs (n + wn c) j (by rw [pl_cons] at h; omega)]
theorem pl_app {l r : List Int32} {n : Nat} (h : wfb n l = true) : pl n (l ++ r) = l.length := by
  have h2 : pl n ((l ++ r).take l.length) = l.length := by simp [wfb_pl l n h]
  induction l generalizing n with
  | nil =>
    cases n with
    | zero => simp [pl_0]
    | succ n => cases h
  | cons c cs ih =>
    cases n with
    | zero => cases h
    | succ n =>
      rw [List.cons_append, pl_cons, List.length_cons, ih h (by simp [wfb_pl cs _ h])]
      omega
/-- the place behind the part that begins at a place -/
def ep (l : List Int32) (k : Nat) : Nat := k + pl 1 (l.drop k)
theorem drop_c {l : List Int32} {k : Nat} (h : k < l.length) : l.drop k = l.getD k 0 :: l.drop (k + 1) := by
  rw [List.drop_eq_getElem_cons h, List.getD_eq_getElem?_getD, List.getElem?_eq_getElem h]
  rfl
theorem pl_1 (j : Nat) (s : List Int32) : pl (j + 1) s = pl 1 s + pl j (s.drop (pl 1 s)) := by
  rw [show j + 1 = 1 + j by omega]
  exact pl_add s 1 j
theorem ep_c {l : List Int32} {k : Nat} (h : k < l.length) : ep l k = k + 1 + pl (wn (l.getD k 0)) (l.drop (k + 1)) := by
  unfold ep
  rw [drop_c h, show (1 : Nat) = 0 + 1 by rfl, pl_cons, Nat.zero_add]
  omega
theorem ep_gt {l : List Int32} {k : Nat} (h : k < l.length) : k < ep l k := by rw [ep_c h]; omega
theorem ep_le {l : List Int32} {k : Nat} (h : k ≤ l.length) : ep l k ≤ l.length := by
  unfold ep
  have := pl_le (l.drop k) 1
  rw [List.length_drop] at this
  omega
theorem pl_ep {l : List Int32} {k j : Nat} : k + pl (j + 1) (l.drop k) = ep l k + pl j (l.drop (ep l k)) := by
  rw [pl_1]
  unfold ep
  rw [List.drop_drop]
  omega
theorem ep_0 {l : List Int32} {k : Nat} (h : k < l.length) (h2 : wn (l.getD k 0) = 0) : ep l k = k + 1 := by rw [ep_c h, h2, pl_0]
theorem ep_1 {l : List Int32} {k : Nat} (h : k < l.length) (h2 : wn (l.getD k 0) = 1) : ep l k = ep l (k + 1) := by rw [ep_c h, h2]; rfl
theorem ep_2 {l : List Int32} {k : Nat} (h : k < l.length) (h2 : wn (l.getD k 0) = 2) : ep l k = ep l (ep l (k + 1)) := by
  rw [ep_c h, h2]
  exact pl_ep (l := l) (k := k + 1) (j := 1)
theorem ep_wf {l : List Int32} (h : wfb 1 l = true) : ep l 0 = l.length := by
  unfold ep
  rw [List.drop_zero, wfb_pl l 1 h, Nat.zero_add]
theorem getD_app_l {l r : List Int32} {k : Nat} (h : k < l.length) : (l ++ r).getD k 0 = l.getD k 0 := by
  rw [List.getD_eq_getElem?_getD, List.getD_eq_getElem?_getD, List.getElem?_append_left h]
theorem getD_app_r {l r : List Int32} {k : Nat} : (l ++ r).getD (l.length + k) 0 = r.getD k 0 := by
  rw [List.getD_eq_getElem?_getD, List.getD_eq_getElem?_getD, List.getElem?_append_right (by omega), show l.length + k - l.length = k by omega]
theorem getD_drop {l : List Int32} {k j : Nat} : (l.drop k).getD j 0 = l.getD (k + j) 0 := by
  rw [List.getD_eq_getElem?_getD, List.getD_eq_getElem?_getD, List.getElem?_drop]
theorem getD_take {l : List Int32} {k j : Nat} (h : j < k) : (l.take k).getD j 0 = l.getD j 0 := by
  rw [List.getD_eq_getElem?_getD, List.getD_eq_getElem?_getD, List.getElem?_take, if_pos h]
theorem list_eq {l r : List Int32} (h : l.length = r.length) (hk : ∀ k, k < l.length → l.getD k 0 = r.getD k 0) : l = r := by
  apply List.ext_getElem h
  intro i h1 h2
  have := hk i h1
  rw [List.getD_eq_getElem?_getD, List.getD_eq_getElem?_getD, List.getElem?_eq_getElem h1, List.getElem?_eq_getElem h2] at this
  exact this
/-- rows of numbers as lists -/
def rowl (f : Nat → Int32) (o n : Nat) : List Int32 := (List.range n).map (fun k => f (o + k))
theorem rowl_len (f : Nat → Int32) (o n : Nat) : (rowl f o n).length = n := by simp [rowl]
theorem rowl_get {f : Nat → Int32} {o n k : Nat} (h : k < n) : (rowl f o n).getD k 0 = f (o + k) := by
  unfold rowl
  rw [List.getD_eq_getElem?_getD, List.getElem?_map, List.getElem?_range h]
  rfl
/-- a letter of terms -/
def VL (c : Int32) : Prop := c = 97 ∨ c = 98 ∨ c = 102 ∨ c = 103 ∨ c = 120 ∨ c = 121
def VLs (l : List Int32) : Prop := ∀ c ∈ l, VL c
theorem VLs_get {l : List Int32} (h : VLs l) {k : Nat} (hk : k < l.length) : VL (l.getD k 0) := by
  rw [List.getD_eq_getElem?_getD, List.getElem?_eq_getElem hk]
  exact h _ (List.getElem_mem hk)
/-- a term as a row of letters -/
def Tm (l : List Int32) : Prop := wfb 1 l = true ∧ VLs l
theorem Tm.pos {l : List Int32} (h : Tm l) : 0 < l.length := wfb_pos h.1
