/-! ===== whether weights meet all rows: the class ===== -/
theorem sub_toInt {X Y : Nat} (hX : X < 2 ^ 30) (hY : Y < 2 ^ 30) : (nI X - nI Y).toInt = (X : Int) - (Y : Int) := by
  rw [Int32.toInt_sub, nI_toInt (by omega), nI_toInt (by omega)]
  apply Int.bmod_eq_of_le <;> omega
theorem le_sub {w X Y : Nat} (hw : w < 2 ^ 30) (hX : X < 2 ^ 30) (hY : Y < 2 ^ 30) : nI w ≤ nI X - nI Y ↔ w + Y ≤ X := by
  rw [Int32.le_iff_toInt_le, sub_toInt hX hY, nI_toInt (by omega)]
  omega
def dotF (F : Nat → Nat) (v : Nat → Nat) : Nat := F 0 * v 0 + F 1 * v 1 + F 2 * v 2 + F 3 * v 3
theorem phi_1 (F v : Nat → Nat) : (phi F v).1 = dotF F v := rfl
def rowOK (F : Nat → Nat) (k l m : Nat) (q : Rq) : Bool := decide (q.2.2 + dotF F (rqR k l m q) ≤ dotF F (rqL k l m q))
theorem dot_le {F v : Nat → Nat} (hF : ∀ i, i < 4 → F i ≤ 3) (hv : ∀ i, v i ≤ 16777216) : dotF F v ≤ 201326592 := by
  have h0 := m3 (hF 0 (by decide)) (hv 0)
  have h1 := m3 (hF 1 (by decide)) (hv 1)
  have h2 := m3 (hF 2 (by decide)) (hv 2)
  have h3 := m3 (hF 3 (by decide)) (hv 3)
  unfold dotF
  omega
theorem dot_sub (F x y : Nat → Nat) : nI (F 0) * (nI (x 0) - nI (y 0)) + nI (F 1) * (nI (x 1) - nI (y 1)) + nI (F 2) * (nI (x 2) - nI (y 2)) + nI (F 3) * (nI (x 3) - nI (y 3)) = nI (dotF F x) - nI (dotF F y) := by
  unfold dotF
  rw [← nI_add, ← nI_add, ← nI_add, ← nI_add, ← nI_add, ← nI_add, ← pk_mul, ← pk_mul, ← pk_mul, ← pk_mul, ← pk_mul, ← pk_mul, ← pk_mul, ← pk_mul]
  grind
theorem srC_ok {R : mR} {k l m : Nat} (hS : ScO R) {qs : List Rq} (h65 : qs.length ≤ 65) {I : mI} (g : RwC I k l m qs) (F : Nat → Nat) {i : Nat} (hi : i < qs.length) : f_X4_sumOfRow 256 (nI i) (nI (F 0)) (nI (F 1)) (nI (F 2)) (nI (F 3)) I R = some (nI (dotF F (rqL k l m (qs.getD i dRq))) - nI (dotF F (rqR k l m (qs.getD i dRq)))) := by
  obtain ⟨g1, g2⟩ := g.2 i hi
  have z0 := g1 0 (by decide)
  rw [Nat.add_zero] at z0
  unfold f_X4_sumOfRow
  rw [n5', hS.2.2.1, lc261, show (1 : Int32) = nI 1 from rfl, show (2 : Int32) = nI 2 from rfl, show (3 : Int32) = nI 3 from rfl, nI_add, nI_add, nI_add, if_pos (inb_nI (by omega) (by omega)), if_pos (inb_nI (by omega) (by omega)), if_pos (inb_nI (by omega) (by omega)), if_pos (inb_nI (by omega) (by omega)), nI_clamp (show i * 5 < 2 ^ 31 by omega), nI_clamp (show i * 5 + 1 < 2 ^ 31 by omega), nI_clamp (show i * 5 + 2 < 2 ^ 31 by omega), nI_clamp (show i * 5 + 3 < 2 ^ 31 by omega), z0, g1 1 (by decide), g1 2 (by decide), g1 3 (by decide), dot_sub]
def RqsOK (qs : List Rq) : Prop := qs.length ≤ 65 ∧ ∀ i, i < qs.length → RqOK (qs.getD i dRq)
theorem mtC_L {R : mR} {k l m : Nat} (hS : ScO R) (hk : k ≤ 3) (hl : l ≤ 3) (hm : m ≤ 3) {qs : List Rq} (hq : RqsOK qs) {I : mI} (g : RwC I k l m qs) {F : Nat → Nat} (hF : ∀ i, i < 4 → F i ≤ 3) :
    ∀ (z n i : Nat), qs.length - i = z → z < n → i ≤ qs.length → f_X4_meetsRows_L3 n 256 (nI (F 0)) (nI (F 1)) (nI (F 2)) (nI (F 3)) (nI i) I R = some (if (qs.drop i).all (rowOK F k l m) = true then Sum.inr () else Sum.inl 0) := by
  have h65 := hq.1
  intro z
  induction z with
  | zero =>
    intro n i g1 g2 g3
    obtain ⟨n, rfl⟩ : ∃ x, n = x + 1 := ⟨n - 1, by omega⟩
    rw [f_X4_meetsRows_L3, g.1, if_pos (nI_le (by omega) (by omega)), List.drop_of_length_le (by omega)]
    rfl
  | succ z ih =>
    intro n i g1 g2 g3
    obtain ⟨n, rfl⟩ : ∃ x, n = x + 1 := ⟨n - 1, by omega⟩
    have hi : i < qs.length := by omega
    obtain ⟨u1, u2', u3⟩ := hq.2 i hi
    have hd : qs.drop i = qs.getD i dRq :: qs.drop (i + 1) := by
      rw [List.drop_eq_getElem_cons hi, List.getD_eq_getElem?_getD, List.getElem?_eq_getElem hi]
      rfl
    have bL := dot_le (v := rqL k l m (qs.getD i dRq)) hF (fun j => cv_le hk hl hm u1.2.2.1 0 j)
    have bR := dot_le (v := rqR k l m (qs.getD i dRq)) hF (fun j => cv_le hk hl hm u1.2.2.2.1 _ j)
    have hc := le_sub (w := (qs.getD i dRq).2.2) (X := dotF F (rqL k l m (qs.getD i dRq))) (Y := dotF F (rqR k l m (qs.getD i dRq))) (by omega) (by omega) (by omega)
    rw [f_X4_meetsRows_L3, g.1, if_neg (nI_ge (by omega) (by omega)), srC_ok hS h65 g F hi, bd1_s, n5', show (4 : Int32) = nI 4 from rfl, nI_add, hS.2.2.1, lc261, if_pos (inb_nI (by omega) (by omega)), nI_clamp (by omega), (g.2 i hi).2, nI_1 i, hd, List.all_cons]
    by_cases h : (qs.getD i dRq).2.2 + dotF F (rqR k l m (qs.getD i dRq)) ≤ dotF F (rqL k l m (qs.getD i dRq))
    · rw [if_pos (hc.mpr h), ih n (i + 1) (by omega) (by omega) (by omega), show rowOK F k l m (qs.getD i dRq) = true from decide_eq_true h, Bool.true_and]
    · rw [if_neg (fun w => h (hc.mp w)), show rowOK F k l m (qs.getD i dRq) = false from decide_eq_false h, Bool.false_and]
      rfl
theorem mtC_ok {R : mR} {k l m : Nat} (hS : ScO R) (hk : k ≤ 3) (hl : l ≤ 3) (hm : m ≤ 3) {qs : List Rq} (hq : RqsOK qs) {I : mI} (g : RwC I k l m qs) {F : Nat → Nat} (hF : ∀ i, i < 4 → F i ≤ 3) : f_X4_meetsRows 256 (nI (F 0)) (nI (F 1)) (nI (F 2)) (nI (F 3)) I R = some (bi (qs.all (rowOK F k l m))) := by
  have h65 := hq.1
  have e := mtC_L hS hk hl hm hq g hF qs.length FU 0 (by omega) (by rw [FU_eq]; omega) (by omega)
  unfold f_X4_meetsRows
  rw [nI0, List.drop_zero] at e
  rw [e]
  cases qs.all (rowOK F k l m) with
  | true => rfl
  | false => rfl
