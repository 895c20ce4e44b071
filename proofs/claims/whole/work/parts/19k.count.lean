/-! ===== how many bits ===== -/
def mk (m : Nat) : Nat → Nat
  | 0 => 0
  | k + 1 => m + 256 * mk m k
theorem mk_s (m k : Nat) : mk m (k + 1) = m + 256 * mk m k := rfl
def pcA (k n : Nat) : Nat := n - (n / 2 &&& mk 85 k)
def pcB (k n : Nat) : Nat := (n &&& mk 51 k) + (n / 4 &&& mk 51 k)
def pcC (k n : Nat) : Nat := (n + n / 16) &&& mk 15 k
def byA (r : Nat) : Nat := r - (r / 2 &&& 85)
def byB (r : Nat) : Nat := (r &&& 51) + (r / 4 &&& 51)
def byC (r : Nat) : Nat := (r + r / 16) &&& 15
theorem by_1 : ∀ r, r < 256 → ∀ z, z < 2 → (r / 2 + 128 * z &&& 85) = (r / 2 &&& 85) := by decide +kernel
theorem by_2 : ∀ r, r < 256 → ∀ z, z < 4 → (r / 4 + 64 * z &&& 51) = (r / 4 &&& 51) := by decide +kernel
theorem by_3 : ∀ r, r < 69 → ∀ z, z < 5 → (r + r / 16 + 16 * z &&& 15) = (r + r / 16 &&& 15) := by decide +kernel
theorem by_4 : ∀ r, r < 256 → byA r < 256 ∧ byB (byA r) < 69 ∧ byB (byA r) % 16 < 5 ∧ byC (byB (byA r)) = fb_ct r.testBit 8 := by decide +kernel
theorem pcA_c {k r q : Nat} (hr : r < 256) : pcA (k + 1) (r + 256 * q) = byA r + 256 * pcA k q := by
  unfold pcA byA
  have h1 : (r + 256 * q) / 2 = (r / 2 + 128 * (q % 2)) + 256 * (q / 2) := by omega
  rw [mk_s, h1, and_byte (by omega) (by omega), by_1 r hr (q % 2) (by omega)]
  have h2 : (r / 2 &&& 85) ≤ r / 2 := Nat.and_le_left
  have h3 : (q / 2 &&& mk 85 k) ≤ q / 2 := Nat.and_le_left
  omega
theorem pcB_c {k r q : Nat} (hr : r < 256) : pcB (k + 1) (r + 256 * q) = byB r + 256 * pcB k q := by
  unfold pcB byB
  have h1 : (r + 256 * q) / 4 = (r / 4 + 64 * (q % 4)) + 256 * (q / 4) := by omega
  rw [mk_s, h1, and_byte hr (by omega), and_byte (show r / 4 + 64 * (q % 4) < 256 by omega) (by omega), by_2 r hr (q % 4) (by omega)]
  omega
theorem pcC_c {k r q : Nat} (hr : r < 69) (hq : q % 16 < 5) : pcC (k + 1) (r + 256 * q) = byC r + 256 * pcC k q := by
  unfold pcC byC
  have h1 : r + 256 * q + (r + 256 * q) / 16 = (r + r / 16 + 16 * (q % 16)) + 256 * (q + q / 16) := by omega
  rw [mk_s, h1, and_byte (by omega) (by omega), by_3 r hr (q % 16) hq]
theorem pcB_n {k n : Nat} : pcB k (pcA k n) % 16 < 5 := by
  cases k with
  | zero =>
    unfold pcB
    rw [show mk 51 0 = 0 from rfl, Nat.and_zero, Nat.and_zero]
    decide
  | succ k =>
    have h := by_4 (n % 256) (Nat.mod_lt _ (by decide))
    rw [show n = n % 256 + 256 * (n / 256) by omega, pcA_c (Nat.mod_lt _ (by decide)), pcB_c h.1]
    omega
theorem pc_c {k r q : Nat} (hr : r < 256) : pcC (k + 1) (pcB (k + 1) (pcA (k + 1) (r + 256 * q))) = fb_ct r.testBit 8 + 256 * pcC k (pcB k (pcA k q)) := by
  have h := by_4 r hr
  rw [pcA_c hr, pcB_c h.1, pcC_c h.2.1 pcB_n, h.2.2.2]
theorem ct_byte {m r q : Nat} (hr : r < 256) : fb_ct (r + 256 * q).testBit (8 + m) = fb_ct r.testBit 8 + fb_ct q.testBit m := by
  rw [fb_ct_split]
  congr 1
  · apply fb_ct_cong
    intro k hk
    rw [show (256 : Nat) = 2 ^ 8 from rfl, Nat.add_comm r, Nat.testBit_two_pow_mul_add _ hr, if_pos hk]
  · apply fb_ct_cong
    intro k hk
    rw [show (256 : Nat) = 2 ^ 8 from rfl, Nat.add_comm r, Nat.testBit_two_pow_mul_add _ hr, if_neg (by omega), show 8 + k - 8 = k by omega]
theorem ct_le8 (p : Nat → Bool) : fb_ct p 8 ≤ 8 := fb_ct_le p 8
def pcF (c : Nat) : Nat := (c + c / 256 + (c + c / 256) / 65536 + (c + c / 256 + (c + c / 256) / 65536) / 4294967296) % 128
theorem dv1 {s q : Nat} (h : s < 256) : (s + 256 * q) / 256 = q := by omega
theorem dv2 {s t q : Nat} (h : s < 256) (h' : t < 256) : (s + 256 * (t + 256 * q)) / 65536 = q := by omega
theorem dv4 {s t u v q : Nat} (h : s < 256) (h' : t < 256) (h'' : u < 256) (h3 : v < 256) : (s + 256 * (t + 256 * (u + 256 * (v + 256 * q)))) / 4294967296 = q := by omega
theorem pcF_8 {a b c d e f g h : Nat} (ha : a ≤ 8) (hb : b ≤ 8) (hc : c ≤ 8) (hd : d ≤ 8) (he : e ≤ 8) (hf : f ≤ 8) (hg : g ≤ 8) (hh : h ≤ 8) : pcF (a + 256 * (b + 256 * (c + 256 * (d + 256 * (e + 256 * (f + 256 * (g + 256 * h))))))) = a + b + c + d + e + f + g + h := by
  have step : ∀ {s t p q : Nat}, (s + 256 * p) + (t + 256 * q) = (s + t) + 256 * (p + q) := fun {s t p q} => by omega
  have last : ∀ {s p : Nat}, (s + 256 * p) + h = (s + h) + 256 * p := fun {s p} => by omega
  unfold pcF
  rw [dv1 (show a < 256 by omega)]
  have h2 : a + 256 * (b + 256 * (c + 256 * (d + 256 * (e + 256 * (f + 256 * (g + 256 * h)))))) + (b + 256 * (c + 256 * (d + 256 * (e + 256 * (f + 256 * (g + 256 * h)))))) = (a + b) + 256 * ((b + c) + 256 * ((c + d) + 256 * ((d + e) + 256 * ((e + f) + 256 * ((f + g) + 256 * ((g + h) + 256 * h)))))) := by
    rw [step, step, step, step, step, step, last]
  rw [h2, dv2 (show a + b < 256 by omega) (show b + c < 256 by omega)]
  have h4 : (a + b) + 256 * ((b + c) + 256 * ((c + d) + 256 * ((d + e) + 256 * ((e + f) + 256 * ((f + g) + 256 * ((g + h) + 256 * h)))))) + ((c + d) + 256 * ((d + e) + 256 * ((e + f) + 256 * ((f + g) + 256 * ((g + h) + 256 * h))))) = (a + b + (c + d)) + 256 * ((b + c + (d + e)) + 256 * ((c + d + (e + f)) + 256 * ((d + e + (f + g)) + 256 * ((e + f + (g + h)) + 256 * ((f + g + h) + 256 * ((g + h) + 256 * h)))))) := by
    rw [step, step, step, step, step, last]
  rw [h4, dv4 (by omega) (by omega) (by omega) (by omega)]
  generalize (b + c + (d + e)) + 256 * ((c + d + (e + f)) + 256 * ((d + e + (f + g)) + 256 * ((e + f + (g + h)) + 256 * ((f + g + h) + 256 * ((g + h) + 256 * h))))) = X
  generalize (f + g + h) + 256 * ((g + h) + 256 * h) = Y
  omega
theorem pc_nat {n : Nat} (hn : n < 2 ^ 64) : pcF (pcC 8 (pcB 8 (pcA 8 n))) = fb_ct n.testBit 64 := by
  obtain ⟨r0, n1, e0, l0⟩ : ∃ r q, n = r + 256 * q ∧ r < 256 := ⟨n % 256, n / 256, by omega, by omega⟩
  obtain ⟨r1, n2, e1, l1⟩ : ∃ r q, n1 = r + 256 * q ∧ r < 256 := ⟨n1 % 256, n1 / 256, by omega, by omega⟩
  obtain ⟨r2, n3, e2, l2⟩ : ∃ r q, n2 = r + 256 * q ∧ r < 256 := ⟨n2 % 256, n2 / 256, by omega, by omega⟩
  obtain ⟨r3, n4, e3, l3⟩ : ∃ r q, n3 = r + 256 * q ∧ r < 256 := ⟨n3 % 256, n3 / 256, by omega, by omega⟩
  obtain ⟨r4, n5, e4, l4⟩ : ∃ r q, n4 = r + 256 * q ∧ r < 256 := ⟨n4 % 256, n4 / 256, by omega, by omega⟩
  obtain ⟨r5, n6, e5, l5⟩ : ∃ r q, n5 = r + 256 * q ∧ r < 256 := ⟨n5 % 256, n5 / 256, by omega, by omega⟩
  obtain ⟨r6, n7, e6, l6⟩ : ∃ r q, n6 = r + 256 * q ∧ r < 256 := ⟨n6 % 256, n6 / 256, by omega, by omega⟩
  obtain ⟨r7, n8, e7, l7⟩ : ∃ r q, n7 = r + 256 * q ∧ r < 256 := ⟨n7 % 256, n7 / 256, by omega, by omega⟩
  subst e7 e6 e5 e4 e3 e2 e1 e0
  have z0 : pcC 0 (pcB 0 (pcA 0 n8)) = 0 := by unfold pcC; rw [show mk 15 0 = 0 from rfl, Nat.and_zero]
  rw [pc_c l0, pc_c l1, pc_c l2, pc_c l3, pc_c l4, pc_c l5, pc_c l6, pc_c l7, z0, show (64 : Nat) = 8 + (8 + (8 + (8 + (8 + (8 + (8 + (8 + 0))))))) from rfl, ct_byte l0, ct_byte l1, ct_byte l2, ct_byte l3, ct_byte l4, ct_byte l5, ct_byte l6, ct_byte l7, show fb_ct n8.testBit 0 = 0 from rfl, Nat.mul_zero, Nat.add_zero, pcF_8 (ct_le8 _) (ct_le8 _) (ct_le8 _) (ct_le8 _) (ct_le8 _) (ct_le8 _) (ct_le8 _) (ct_le8 _)]
  omega
