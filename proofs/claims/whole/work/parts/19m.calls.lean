/-! ===== bits of ints: plain facts ===== -/
def bt (x : Int32) (i : Nat) : Bool := x.toBitVec.getLsbD i
theorem b_ext {x y : Int32} (h : ∀ i, i < 32 → bt x i = bt y i) : x = y := Int32.toBitVec_inj.mp (BitVec.eq_of_getLsbD_eq (fun i hi => h i hi))
theorem b_or (x y : Int32) (i : Nat) : bt (x ||| y) i = (bt x i || bt y i) := by unfold bt; rw [Int32.toBitVec_or, BitVec.getLsbD_or]
theorem b_and (x y : Int32) (i : Nat) : bt (x &&& y) i = (bt x i && bt y i) := by unfold bt; rw [Int32.toBitVec_and, BitVec.getLsbD_and]
theorem b_xor (x y : Int32) (i : Nat) : bt (x ^^^ y) i = (bt x i ^^ bt y i) := by unfold bt; rw [Int32.toBitVec_xor, BitVec.getLsbD_xor]
theorem b_big {x : Int32} {i : Nat} (h : 32 ≤ i) : bt x i = false := BitVec.getLsbD_of_ge _ _ h
theorem b_255 (i : Nat) : bt 255 i = decide (i < 8) := by
  rcases Nat.lt_or_ge i 32 with h | h
  · exact (by decide +kernel : ∀ i, i < 32 → bt 255 i = decide (i < 8)) i h
  · rw [b_big h, decide_eq_false (by omega)]
theorem b_65535 (i : Nat) : bt 65535 i = decide (i < 16) := by
  rcases Nat.lt_or_ge i 32 with h | h
  · exact (by decide +kernel : ∀ i, i < 32 → bt 65535 i = decide (i < 16)) i h
  · rw [b_big h, decide_eq_false (by omega)]
theorem b_m1 : ∀ i, i < 32 → bt (-1) i = true := by decide +kernel
theorem b_0 (i : Nat) : bt 0 i = false := BitVec.getLsbD_zero
theorem s_l : ∀ n, n < 32 → ((nI n &&& 31).toBitVec.smod 32).toNat = n := by decide +kernel
theorem s_u : ∀ n, n < 32 → (((nI n).toUInt32 &&& Int32.toUInt32 31).toBitVec % 32).toNat = n := by decide +kernel
theorem b_shl (n : Nat) (hn : n < 32) (x : Int32) {i : Nat} (hi : i < 32) : bt (x <<< (nI n &&& 31)) i = (decide (n ≤ i) && bt x (i - n)) := by
  unfold bt
  rw [Int32.toBitVec_shiftLeft]
  show (x.toBitVec <<< ((nI n &&& 31).toBitVec.smod 32).toNat).getLsbD i = _
  rw [s_l n hn, BitVec.getLsbD_shiftLeft]
  rcases Nat.lt_or_ge i n with h | h
  · simp [h, Nat.not_le.mpr h]
  · simp [hi, h, Nat.not_lt.mpr h]
theorem b_ushr (n : Nat) (hn : n < 32) (x : Int32) (i : Nat) : bt ((x.toUInt32 >>> ((nI n).toUInt32 &&& Int32.toUInt32 31)).toInt32) i = bt x (n + i) := by
  show (x.toUInt32 >>> ((nI n).toUInt32 &&& Int32.toUInt32 31)).toBitVec.getLsbD i = x.toUInt32.toBitVec.getLsbD (n + i)
  rw [UInt32.toBitVec_shiftRight]
  show (x.toUInt32.toBitVec >>> (((nI n).toUInt32 &&& Int32.toUInt32 31).toBitVec % 32).toNat).getLsbD i = _
  rw [s_u n hn, BitVec.getLsbD_ushiftRight]
theorem b_sshr (n : Nat) (hn : n < 32) (x : Int32) {i : Nat} (hi : i < 32) : bt (x >>> (nI n &&& 31)) i = if n + i < 32 then bt x (n + i) else bt x 31 := by
  unfold bt
  rw [Int32.toBitVec_shiftRight]
  show (x.toBitVec.sshiftRight ((nI n &&& 31).toBitVec.smod 32).toNat).getLsbD i = _
  rw [s_l n hn, BitVec.getLsbD_sshiftRight, BitVec.msb_eq_getLsbD_last]
  simp [hi]
/-! ===== heads and calls: what is meant, and the class ===== -/
def hvF (s : Int32) : List Ru → Int32
  | [] => s
  | u :: us => hvF (s ||| ((1 : Int32) <<< ((u.1.getD 0 0 - 97) &&& 31))) us
def hv (rs : List Ru) : Int32 := hvF 0 rs
def hb (h c : Int32) : Bool := decide (((h >>> ((c - 97) &&& 31)) &&& 1) = 1)
theorem b_1 (i : Nat) : bt 1 i = decide (i = 0) := by
  unfold bt
  by_cases h : i < 32
  · have : ∀ i, i < 32 → (1 : Int32).toBitVec.getLsbD i = decide (i = 0) := by decide +kernel
    exact this i h
  · rw [BitVec.getLsbD_of_ge _ _ (by omega), decide_eq_false (by omega)]
theorem and1 (y : Int32) : y &&& 1 = if bt y 0 = true then 1 else 0 := by
  apply b_ext
  intro i hi
  rw [b_and, b_1]
  by_cases h0 : i = 0
  · subst h0
    rw [decide_eq_true rfl, Bool.and_true]
    cases hh : bt y 0 with
    | true => rw [if_pos rfl, b_1]; rfl
    | false => rw [if_neg (by decide), b_0]
  · rw [decide_eq_false h0, Bool.and_false]
    cases hh : bt y 0 with
    | true => rw [if_pos rfl, b_1, decide_eq_false h0]
    | false => rw [if_neg (by decide), b_0]
theorem vl_97 {c : Int32} (h : VL c) : ∃ j, j < 25 ∧ c - 97 = nI j := by
  rcases h with rfl | rfl | rfl | rfl | rfl | rfl
  · exact ⟨0, by decide, rfl⟩
  · exact ⟨1, by decide, rfl⟩
  · exact ⟨5, by decide, rfl⟩
  · exact ⟨6, by decide, rfl⟩
  · exact ⟨23, by decide, rfl⟩
  · exact ⟨24, by decide, rfl⟩
theorem hb_bt {h c : Int32} {j : Nat} (hj : j < 25) (hc : c - 97 = nI j) : hb h c = bt h j := by
  unfold hb
  rw [hc, and1, b_sshr j (by omega) h (by decide), if_pos (show j + 0 < 32 by omega), Nat.add_zero]
  cases bt h j with
  | true => rfl
  | false => rfl
theorem isHdC {I : mI} {h c : Int32} (hI : I 248 7 = h) (hc : VL c) : f_X0_isHead 248 c I = some (if hb h c = true then 1 else 0) := by
  obtain ⟨j, hj, e⟩ := vl_97 hc
  unfold f_X0_isHead
  rw [hI, e, and1, b_ushr j (by omega) h 0, Nat.add_zero, hb_bt hj e]
  cases bt h j with
  | true => rfl
  | false => rfl
/-- calls of one right side, from a place on -/
def csF (h : Int32) (r : Nat) : List Int32 → Nat → List (Nat × Nat)
  | [], _ => []
  | c :: cs, p => if hb h c = true then (r, p) :: csF h r cs (p + 1) else csF h r cs (p + 1)
def csA (h : Int32) : List Ru → Nat → List (Nat × Nat)
  | [], _ => []
  | u :: us, r => csF h r u.2 0 ++ csA h us (r + 1)
def callsS (rs : List Ru) : List (Nat × Nat) := csA (hv rs) rs 0
theorem csF_len (h : Int32) (r : Nat) : ∀ (l : List Int32) (p : Nat), (csF h r l p).length ≤ l.length
  | [], p => Nat.le_refl _
  | c :: cs, p => by
    have := csF_len h r cs (p + 1)
    unfold csF
    rw [List.length_cons]
    split
    · rw [List.length_cons]; omega
    · omega
theorem csA_len (h : Int32) : ∀ (us : List Ru) (r : Nat), (∀ u ∈ us, RuOK u) → (csA h us r).length ≤ 12 * us.length
  | [], r, _ => Nat.le_refl _
  | u :: us, r, hu => by
    have h1 := csF_len h r u.2 0
    have h2 := csA_len h us (r + 1) (fun x hx => hu x (List.mem_cons_of_mem _ hx))
    have h3 := (hu u List.mem_cons_self).2.2.2.1
    show (csF h r u.2 0 ++ csA h us (r + 1)).length ≤ _
    rw [List.length_append, List.length_cons]
    omega
theorem callsS_len {rs : List Ru} (h : RsOK rs) : (callsS rs).length ≤ 60 := by
  have := csA_len (hv rs) rs 0 h.2
  have := h.1
  unfold callsS
  omega
theorem csF_mem {h : Int32} {r : Nat} : ∀ (l : List Int32) (p : Nat) (x : Nat × Nat), x ∈ csF h r l p → x.1 = r ∧ p ≤ x.2 ∧ x.2 < p + l.length
  | [], p, x, hx => by cases hx
  | c :: cs, p, x, hx => by
    unfold csF at hx
    rw [List.length_cons]
    by_cases hc : hb h c = true
    · rw [if_pos hc] at hx
      rcases List.mem_cons.mp hx with q | q
      · rw [q]; exact ⟨rfl, Nat.le_refl _, by show p < _; omega⟩
      · have := csF_mem cs (p + 1) x q
        omega
    · rw [if_neg hc] at hx
      have := csF_mem cs (p + 1) x hx
      omega
theorem csA_mem {h : Int32} : ∀ (us : List Ru) (r : Nat) (x : Nat × Nat), x ∈ csA h us r → r ≤ x.1 ∧ x.1 < r + us.length ∧ x.2 < (us.getD (x.1 - r) dRu).2.length
  | [], r, x, hx => by cases hx
  | u :: us, r, x, hx => by
    rw [List.length_cons]
    rcases List.mem_append.mp hx with q | q
    · obtain ⟨h1, h2, h3⟩ := csF_mem _ _ _ q
      rw [h1, Nat.sub_self]
      refine ⟨Nat.le_refl _, by omega, ?_⟩
      show x.2 < u.2.length
      omega
    · obtain ⟨h1, h2, h3⟩ := csA_mem us (r + 1) x q
      refine ⟨by omega, by omega, ?_⟩
      rw [show x.1 - r = (x.1 - (r + 1)) + 1 by omega, List.getD_cons_succ]
      exact h3
def dC : Nat × Nat := (0, 0)
theorem gD_mem {α : Type} (d : α) {l : List α} {i : Nat} (h : i < l.length) : l.getD i d ∈ l := by
  rw [List.getD_eq_getElem?_getD, List.getElem?_eq_getElem h]
  exact List.getElem_mem h
theorem callsS_in {rs : List Ru} {c : Nat} (h : c < (callsS rs).length) : ((callsS rs).getD c dC).1 < rs.length ∧ ((callsS rs).getD c dC).2 < (rs.getD ((callsS rs).getD c dC).1 dRu).2.length := by
  obtain ⟨h1, h2, h3⟩ := csA_mem rs 0 _ (gD_mem dC h)
  rw [Nat.sub_zero] at h3
  exact ⟨by rw [Nat.zero_add] at h2; exact h2, h3⟩
/-- which calls are of a rule -/
def ofP (cs : List (Nat × Nat)) (r i : Nat) : Bool := decide (i < cs.length ∧ (cs.getD i dC).1 = r)
theorem ofP_app {cs : List (Nat × Nat)} {r p i : Nat} : ofP (cs ++ [(r, p)]) r i = (ofP cs r i || decide (i = cs.length)) := by
  unfold ofP
  rw [List.length_append, List.length_singleton]
  by_cases h1 : i < cs.length
  · rw [gD_app_l _ h1, decide_eq_false (show ¬ i = cs.length by omega), Bool.or_false]
    by_cases h2 : (cs.getD i dC).1 = r
    · rw [decide_eq_true ⟨by omega, h2⟩, decide_eq_true ⟨h1, h2⟩]
    · rw [decide_eq_false (fun q => h2 q.2), decide_eq_false (fun q => h2 q.2)]
  · rw [decide_eq_false (show ¬ (i < cs.length ∧ (cs.getD i dC).1 = r) from fun q => h1 q.1), Bool.false_or]
    by_cases h2 : i = cs.length
    · subst h2
      rw [gD_app_e, decide_eq_true ⟨by omega, rfl⟩, decide_eq_true rfl]
    · rw [decide_eq_false (fun q => by omega), decide_eq_false h2]
theorem ofP_o {cs : List (Nat × Nat)} {r r' p i : Nat} (h : r' ≠ r) : ofP (cs ++ [(r, p)]) r' i = ofP cs r' i := by
  unfold ofP
  rw [List.length_append, List.length_singleton]
  by_cases h1 : i < cs.length
  · rw [gD_app_l _ h1]
    by_cases h2 : (cs.getD i dC).1 = r'
    · rw [decide_eq_true ⟨by omega, h2⟩, decide_eq_true ⟨h1, h2⟩]
    · rw [decide_eq_false (fun q => h2 q.2), decide_eq_false (fun q => h2 q.2)]
  · rw [decide_eq_false (show ¬ (i < cs.length ∧ (cs.getD i dC).1 = r') from fun q => h1 q.1)]
    by_cases h2 : i = cs.length
    · subst h2
      rw [gD_app_e, decide_eq_false (fun q => h q.2.symm)]
    · rw [decide_eq_false (fun q => by omega)]
