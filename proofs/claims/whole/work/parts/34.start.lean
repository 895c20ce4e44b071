theorem qs95 : Cond.classLink RL 7 RX10 ∈ GW := inGW (List.mem_of_getElem? (i := 95) (by decide +kernel)) (by decide +kernel)
theorem qs96 : Cond.instantiable RX10 15 ∈ GW := inGW (List.mem_of_getElem? (i := 96) (by decide +kernel)) (by decide +kernel)
theorem qs80 : Cond.initialized RX10 ∈ GW := inGW (List.mem_of_getElem? (i := 80) (by decide +kernel)) (by decide +kernel)
theorem qs810 : Cond.classLink RL 10 RX11 ∈ GW := inGW (List.mem_of_getElem? (i := 810) (by decide +kernel)) (by decide +kernel)
theorem qs811 : Cond.instantiable RX11 32 ∈ GW := inGW (List.mem_of_getElem? (i := 811) (by decide +kernel)) (by decide +kernel)
theorem qs92 : Cond.initialized RX11 ∈ GW := inGW (List.mem_of_getElem? (i := 92) (by decide +kernel)) (by decide +kernel)
theorem qs97 : Cond.methodLink RL 9 yX10_init ∈ GW := inGW (List.mem_of_getElem? (i := 97) (by decide +kernel)) (by decide +kernel)
theorem qs98 : Cond.instanceMethod yX10_init ∈ GW := inGW (List.mem_of_getElem? (i := 98) (by decide +kernel)) (by decide +kernel)
set_option maxRecDepth 30000 in
theorem qs99 : Cond.code yX10_init cX10_init 1 none ∈ GW := inGW (List.mem_of_getElem? (i := 99) rfl) (by decide +kernel)
theorem qs812 : Cond.methodLink RL 12 yX11_init ∈ GW := inGW (List.mem_of_getElem? (i := 812) (by decide +kernel)) (by decide +kernel)
theorem qs813 : Cond.instanceMethod yX11_init ∈ GW := inGW (List.mem_of_getElem? (i := 813) (by decide +kernel)) (by decide +kernel)
set_option maxRecDepth 30000 in
theorem qs814 : Cond.code yX11_init cX11_init 1 none ∈ GW := inGW (List.mem_of_getElem? (i := 814) rfl) (by decide +kernel)
theorem qs149 : Cond.arrayClass .int ∈ GW := inGW (List.mem_of_getElem? (i := 149) (by decide +kernel)) (by decide +kernel)
theorem qs304 : Cond.arrayClass .long ∈ GW := inGW (List.mem_of_getElem? (i := 304) (by decide +kernel)) (by decide +kernel)
theorem qs913 : Cond.arrayClass .boolean ∈ GW := inGW (List.mem_of_getElem? (i := 913) (by decide +kernel)) (by decide +kernel)
theorem qs254 : Cond.instantiable RX0 11 ∈ GW := inGW (List.mem_of_getElem? (i := 254) (by decide +kernel)) (by decide +kernel)
theorem qs198 : Cond.instantiable RX1 2 ∈ GW := inGW (List.mem_of_getElem? (i := 198) (by decide +kernel)) (by decide +kernel)
theorem qs215 : Cond.instantiable RX2 5 ∈ GW := inGW (List.mem_of_getElem? (i := 215) (by decide +kernel)) (by decide +kernel)
theorem qs150 : Cond.instantiable RX3 2 ∈ GW := inGW (List.mem_of_getElem? (i := 150) (by decide +kernel)) (by decide +kernel)
theorem qs306 : Cond.instantiable RX4 5 ∈ GW := inGW (List.mem_of_getElem? (i := 306) (by decide +kernel)) (by decide +kernel)
theorem qs239 : Cond.instantiable RX5 2 ∈ GW := inGW (List.mem_of_getElem? (i := 239) (by decide +kernel)) (by decide +kernel)
theorem qs312 : Cond.instantiable RX6 1 ∈ GW := inGW (List.mem_of_getElem? (i := 312) (by decide +kernel)) (by decide +kernel)
theorem qs104 : Cond.instantiable RX7 3 ∈ GW := inGW (List.mem_of_getElem? (i := 104) (by decide +kernel)) (by decide +kernel)
theorem qs112 : Cond.instantiable RX8 3 ∈ GW := inGW (List.mem_of_getElem? (i := 112) (by decide +kernel)) (by decide +kernel)
theorem qs339 : Cond.instantiable RX9 4 ∈ GW := inGW (List.mem_of_getElem? (i := 339) (by decide +kernel)) (by decide +kernel)
def R0C : mR := u2 (u2 (r_X8_init (u2 (r_X9_init (u2 (r_X4_init (u2 (r_X0_init (u2 (r_X5_init (u2 (r_X2_init (u2 (r_X1_init (u2 (r_X7_init R0 1) 0 0 1) 41) 0 1 41) 243) 0 2 243) 246) 0 3 246) 248) 0 4 248) 256) 0 5 256) 263) 0 6 263) 268) 0 7 268) 0 8 271
def R1C : mR := fun a k => if kdC a = 4 ∧ 5 ≤ k then 6 else if kdC a = 5 ∧ 5 ≤ k then 43 else R0C a k
def I1C : mI := (f_X8_startAs 3 97 (u2 I0 0 11 (-9 : Int32)) R1C).getD I0
def I1M : mI := u2 (u2 I0 1 131 (1 : Int32)) 1 132 (97 : Int32)
def okR (kd : Nat → Nat) (R : mR) (a k : Nat) : Bool := match ft (kd a) k with
  | some t => kd (R a k) == t
  | none => true
set_option maxRecDepth 100000 in
theorem okR_C : ∀ a, a < 272 → ∀ k, k < 16 → okR kdC R1C a k = true := by decide +kernel
set_option maxRecDepth 100000 in
theorem okR_M : ∀ a, a < 21 → ∀ k, k < 32 → okR kdM R1M a k = true := by decide +kernel
theorem okR_t {kd : Nat → Nat} {R : mR} {a k t : Nat} (h : okR kd R a k = true) (ht : ft (kd a) k = some t) : kd (R a k) = t := by
  unfold okR at h
  rw [ht] at h
  simpa using h
set_option maxRecDepth 100000 in
theorem kdC_16 : ∀ a, a < 272 → kdC a ≤ 16 := by decide +kernel
set_option maxRecDepth 100000 in
theorem lnC_45 : ∀ a, a < 272 → (kdC a = 4 ∨ kdC a = 5) → lnC a = 5 := by decide +kernel
theorem kdC_ge {a : Nat} (h : ¬ a < 272) : kdC a = 0 := by
  unfold kdC
  rw [List.getD_eq_getElem?_getD, List.getElem?_eq_none (by rw [kdC_len]; omega)]
  rfl
theorem kdM_ge {a : Nat} (h : ¬ a < 21) : kdM a = 0 := by
  unfold kdM
  rw [List.getD_eq_getElem?_getD, List.getElem?_eq_none (by rw [kdM_len]; omega)]
  rfl
theorem fd_len16 : ∀ ci, ci ≤ 10 → (fd ci).length ≤ 16 := by decide
theorem WT_R1C : WT kdC R1C := by
  intro a k t h
  by_cases ha : a < 272
  · by_cases hk : k < 16
    · exact okR_t (okR_C a ha k hk) h
    · have h16 := kdC_16 a ha
      by_cases h4 : kdC a = 4
      · rw [h4] at h
        have e : R1C a k = 6 := by unfold R1C; rw [if_pos ⟨h4, by omega⟩]
        rw [e, ← Option.some.inj h]
        rfl
      · by_cases h5 : kdC a = 5
        · rw [h5] at h
          have e : R1C a k = 43 := by unfold R1C; rw [if_neg (fun q => h4 q.1), if_pos ⟨h5, by omega⟩]
          rw [e, ← Option.some.inj h]
          rfl
        · exfalso
          unfold ft at h
          rw [if_neg h4, if_neg h5] at h
          by_cases h6 : kdC a < 6
          · rw [if_pos h6] at h
            cases h
          · rw [if_neg h6, List.getElem?_eq_none (Nat.le_trans (fd_len16 _ (by omega)) (by omega))] at h
            cases h
  · rw [kdC_ge ha] at h
    cases h
theorem kdM_k : ∀ a, a < 21 → kdM a = 1 ∨ kdM a = 2 ∨ kdM a = 3 ∨ kdM a = 17 := by decide +kernel
theorem WT_R1M : WT kdM R1M := by
  intro a k t h
  by_cases ha : a < 21
  · by_cases hk : k < 32
    · exact okR_t (okR_M a ha k hk) h
    · exfalso
      rcases kdM_k a ha with q | q | q | q
      · rw [q] at h; cases h
      · rw [q] at h; cases h
      · rw [q] at h; cases h
      · rw [q] at h
        have e : ft 17 k = none := by
          unfold ft
          rw [if_neg (by decide), if_neg (by decide), if_neg (by decide), List.getElem?_eq_none (show (fd (17 - 6)).length ≤ k from Nat.le_trans (by decide) (Nat.le_of_not_lt hk))]
        rw [e] at h
        cases h
  · rw [kdM_ge ha] at h
    cases h
theorem fixC : ∀ x, x < 272 → ∀ k, ((kdC x = 4 ∨ kdC x = 5) → k < lnC x → R0C x k = R1C x k) ∧ (¬ (kdC x = 4 ∨ kdC x = 5) → R0C x k = R1C x k) := by
  intro x hx k
  refine ⟨fun h hk => ?_, fun h => ?_⟩
  · rw [lnC_45 x hx h] at hk
    unfold R1C
    rw [if_neg (fun q => by omega), if_neg (fun q => by omega)]
  · unfold R1C
    rw [if_neg (fun q => h (Or.inl q.1)), if_neg (fun q => h (Or.inr q.1))]
theorem I1C_some : f_X8_startAs 3 97 (u2 I0 0 11 (-9 : Int32)) R1C = some I1C := by
  have h : (f_X8_startAs 3 97 (u2 I0 0 11 (-9 : Int32)) R1C).isSome = true := by decide +kernel
  unfold I1C
  cases hh : f_X8_startAs 3 97 (u2 I0 0 11 (-9 : Int32)) R1C with
  | none => rw [hh] at h; cases h
  | some v => rfl
theorem Fr0 : Fr 1 I0 L0 R0 := fun _ _ _ => ⟨rfl, rfl, rfl⟩

set_option maxHeartbeats 8000000 in
set_option maxRecDepth 100000 in
theorem start_of {p : Program} {e : Env} {s : State} {m : MethodId} {below : List Frame} {meth : Method} {c : Code} (l : Launch) {b Ln : Nat} {xs : Nat → Int32} (hL : Ln ≤ 1536) (C0 : lw_At p s m meth c b Ln xs) (Inv : mI → mL → mR → mI → mL → mR → Prop) (h_type : St_type Inv) (h_clear : St_clear Inv) (h_reads : St_reads Inv) (h_term : St_term Inv) (h_drops : St_drops Inv) (h_first : St_first Inv) (h_of : St_of Inv) (h_shown : St_shown Inv) (h_fall : St_fall Inv) (h_weighs : St_weighs Inv) (h_weight : St_weight Inv) (h_calls : St_calls Inv) (h_call : St_call Inv) (h_follows : St_follows Inv) (h_lighter : St_lighter Inv) (h_turns : St_turns Inv) (h_settles : St_settles Inv) (h_next : St_next Inv) (h_letter : St_letter Inv) (h_back : St_back Inv) (h_told : St_told Inv) (h_digest : St_digest Inv) (hInit : Inv I1C L0 R1C I1M L0 R1M) : W p l e room_1 s m #[Value.ref b] below meth c s.heap [] 0 0 (lw_Z below #[Value.ref b] s) (entryFrame m ([Value.ref b] : List Value).toArray 4) := by
  obtain ⟨hx, hb, hr, hml, hown, hts0, hX, hbl, hlocks, hgv⟩ := id C0
  have hts : ∀ w ∈ GW, w.before #[Value.ref b] s = true := fun w h => hts0 w (GW_in h)
  obtain ⟨c0, iS0, hKn0⟩ := u_known (C := RX0) (T := TX0) (N := 11) (n := 11) hts inGX0 (hts (.instantiable RX0 11) qs254)
  obtain ⟨c1, iS1, hKn1⟩ := u_known (C := RX1) (T := TX1) (N := 2) (n := 2) hts inGX1 (hts (.instantiable RX1 2) qs198)
  obtain ⟨c2, iS2, hKn2⟩ := u_known (C := RX2) (T := TX2) (N := 5) (n := 5) hts inGX2 (hts (.instantiable RX2 5) qs215)
  obtain ⟨c3, iS3, hKn3⟩ := u_known (C := RX3) (T := TX3) (N := 2) (n := 2) hts inGX3 (hts (.instantiable RX3 2) qs150)
  obtain ⟨c4, iS4, hKn4⟩ := u_known (C := RX4) (T := TX4) (N := 5) (n := 5) hts inGX4 (hts (.instantiable RX4 5) qs306)
  obtain ⟨c5, iS5, hKn5⟩ := u_known (C := RX5) (T := TX5) (N := 2) (n := 2) hts inGX5 (hts (.instantiable RX5 2) qs239)
  obtain ⟨c6, iS6, hKn6⟩ := u_known (C := RX6) (T := TX6) (N := 1) (n := 1) hts inGX6 (hts (.instantiable RX6 1) qs312)
  obtain ⟨c7, iS7, hKn7⟩ := u_known (C := RX7) (T := TX7) (N := 3) (n := 3) hts inGX7 (hts (.instantiable RX7 3) qs104)
  obtain ⟨c8, iS8, hKn8⟩ := u_known (C := RX8) (T := TX8) (N := 3) (n := 3) hts inGX8 (hts (.instantiable RX8 3) qs112)
  obtain ⟨c9, iS9, hKn9⟩ := u_known (C := RX9) (T := TX9) (N := 4) (n := 4) hts inGX9 (hts (.instantiable RX9 4) qs339)
  obtain ⟨c10, iS10, hKn10⟩ := u_known (C := RX10) (T := TX10) (N := 15) (n := 15) hts inGX10 (hts (.instantiable RX10 15) qs96)
  obtain ⟨c11, iS11, hKn11⟩ := u_known (C := RX11) (T := TX11) (N := 32) (n := 32) hts inGX11 (hts (.instantiable RX11 32) qs811)
  obtain ⟨D, hKc⟩ : ∃ D : va_G, ∀ (k : Nat) (q : vw_C), vwCl[k]? = some q → u_Kn s q.1 q.2.1 q.2.2 (D.1 k) (D.2 k) := by
    refine ⟨(fun k => match k with | 0 => c0 | 1 => c1 | 2 => c2 | 3 => c3 | 4 => c4 | 5 => c5 | 6 => c6 | 7 => c7 | 8 => c8 | 9 => c9 | 10 => c10 | _ => c11, fun k => match k with | 0 => iS0 | 1 => iS1 | 2 => iS2 | 3 => iS3 | 4 => iS4 | 5 => iS5 | 6 => iS6 | 7 => iS7 | 8 => iS8 | 9 => iS9 | 10 => iS10 | _ => iS11), ?_⟩
    intro k q hq
    match k, hq with
    | 0, hq => cases hq; exact hKn0
    | 1, hq => cases hq; exact hKn1
    | 2, hq => cases hq; exact hKn2
    | 3, hq => cases hq; exact hKn3
    | 4, hq => cases hq; exact hKn4
    | 5, hq => cases hq; exact hKn5
    | 6, hq => cases hq; exact hKn6
    | 7, hq => cases hq; exact hKn7
    | 8, hq => cases hq; exact hKn8
    | 9, hq => cases hq; exact hKn9
    | 10, hq => cases hq; exact hKn10
    | 11, hq => cases hq; exact hKn11
    | k + 12, hq => simp [vwCl] at hq
  obtain ⟨cI, kI, pI, fI, gI, jI⟩ := Cond.arrayClass_spec (hts (.arrayClass .int) qs149)
  obtain ⟨cJ, kJ, pJ, fJ, gJ, jJ⟩ := Cond.arrayClass_spec (hts (.arrayClass .long) qs304)
  obtain ⟨cZ, kZ, pZ, fZ, gZ, jZ⟩ := Cond.arrayClass_spec (hts (.arrayClass .boolean) qs913)
  have ha4 : (Cond.arrayOver (.object "FallingRules$Rule")).before #[Value.ref b] s = true := hts0 _ (List.mem_of_getElem? (i := 110) (by decide +kernel))
  have ha5 : (Cond.arrayOver (.object "FallingRules$State")).before #[Value.ref b] s = true := hts0 _ (List.mem_of_getElem? (i := 204) (by decide +kernel))
  obtain ⟨p4, c4, k4, e41, -, e43, e44, e45⟩ := Cond.arrayOver_spec ha4
  obtain ⟨p5, c5, k5, e51, -, e53, e54, e55⟩ := Cond.arrayOver_spec ha5
  have hAO : AO2 s := ⟨va_AO.of ha4, va_AO.of ha5⟩
  obtain ⟨ce, hce⟩ : ∃ ce : Nat → ClassId, ce 0 = cI ∧ ce 1 = cJ ∧ ce 2 = cZ ∧ ce 3 = c4 ∧ ce 4 = c5 := ⟨fun k => match k with | 0 => cI | 1 => cJ | 2 => cZ | 3 => c4 | _ => c5, rfl, rfl, rfl, rfl, rfl⟩
  obtain ⟨z0, z1, z2, z3, z4⟩ := hce
  have hKK : KK D ce s := by
    refine ⟨⟨hKc, ?_⟩, fun w hw => va_Nw.of (nest_on w hw) (hts0 w (nest_in w hw))⟩
    intro k q hq
    match k, hq with
    | 0, hq => cases hq; rw [z0]; exact ⟨fun n z => ⟨fun k h => (by cases h), kI, gI, pI, jI⟩, fI⟩
    | 1, hq => cases hq; rw [z1]; exact ⟨fun n z => ⟨fun k h => (by cases h), kJ, gJ, pJ, jJ⟩, fJ⟩
    | 2, hq => cases hq; rw [z2]; exact ⟨fun n z => ⟨fun k h => (by cases h), kZ, gZ, pZ, jZ⟩, fZ⟩
    | 3, hq => cases hq; rw [z3]; exact ⟨fun n z => ⟨fun k h => (by cases h), k4, e43, p4, e44⟩, k4, p4, e43, e44, e41, e45⟩
    | 4, hq => cases hq; rw [z4]; exact ⟨fun n z => ⟨fun k h => (by cases h), k5, e53, p5, e54⟩, k5, p5, e53, e54, e51, e55⟩
    | k + 5, hq => simp [tyA] at hq
  have hS : va_S (fun q : Nat => s.heap.size ≤ q) s.heap s.heap [] := va_S.rf
  have hP : va_P D vwCl (wd ce s.heap.size kdC lnC 0 I0 L0 R0) s.heap := fun k q h => by simp [wd] at h
  have hl := lv_entry ([.ref b]) (n := 4) (Nat.le_of_ble_eq_true rfl)
  rw [lg_entry_eq]
  generalize (lg_sl ([.ref b]) ++ List.replicate (4 - (lg_sl ([.ref b])).length) Slot.unset).toArray = ls at hl ⊢
  have hl : lv_has ls 4 [(0, .ref b)] := hl
  refine mm_newF (rest := []) (b := s.heap.size) (C := RX10) (T := TX10) (N := 15) (ty := tyX10) (n := 0) hx hb hts hown inGX10 (ci := 10) rfl tyX10_ok ⟨qs95, qs96, qs80⟩ hKK hP rfl hS rfl (fun _ _ _ => ⟨rfl, rfl, rfl⟩) dfX10 (Nat.le_of_ble_eq_true rfl) (Nat.le_of_ble_eq_true rfl) dL_law_0 (fun H hP hz hS _ => ?_)
  refine lv_dup hx hb dL_law_3 rfl ?_
  refine mm_IF (rest := [.ref (s.heap.size + 0)]) (rm := rmcX10_init) (I' := I1C) (L' := L0) (R' := R1C) hx hb hml hown hts hKK hAO hP hz hS (fun q h => h) (show IOK RL 9 yX10_init cX10_init 1 0 from ⟨Or.inl qs97, qs98, qs80, qs99, rfl, by decide +kernel⟩) (c_X10_init l D ce s.heap.size Fr0 R1C fixC WT_R1C I1C I1C_some) rfl hl.1 rfl (Nat.le_of_ble_eq_true rfl) ⟨rfl, rfl⟩ ⟨Nat.le_of_ble_eq_true rfl, Nat.le_of_ble_eq_true rfl⟩ ⟨Nat.le_of_ble_eq_true rfl, Nat.le_of_ble_eq_true rfl⟩ dL_law_4 (fun H locs hPC hS _ => ?_)
  refine lv_astore_n (lv' := [(1, .ref (s.heap.size + 0)), (0, .ref b)]) hx hb dL_law_7 rfl hl (Nat.le_of_ble_eq_true rfl) rfl (fun ls hl => ?_)
  have hb2 : s.heap.size + 272 ≤ H.size := by have h := (hPC 271 _ (wd_at (by decide))).lt; show s.heap.size + 272 ≤ H.size; have h : s.heap.size + 271 < H.size := h; omega
  obtain ⟨b2, hbe⟩ : ∃ z, z = H.size := ⟨_, rfl⟩
  have hP : va_P D vwCl (wd ce b2 kdM lnM 0 I0 L0 R0) H := fun k q h => by simp [wd] at h
  refine mm_newF (rest := []) (b := b2) (C := RX11) (T := TX11) (N := 32) (ty := tyX11) (n := 0) hx hb hts hown inGX11 (ci := 11) rfl tyX11_ok ⟨qs810, qs811, qs92⟩ hKK hP hbe.symm hS rfl (fun _ _ _ => ⟨rfl, rfl, rfl⟩) dfX11 (Nat.le_of_ble_eq_true rfl) (Nat.le_of_ble_eq_true rfl) dL_law_8 (fun H2 hP hz hS hk => ?_)
  have hPC := keepW (X := fun _ => False) hPC (fun q h _ => hk q h) (fun _ _ h => h)
  refine lv_dup hx hb dL_law_11 rfl ?_
  refine mm_IF (rest := [.ref (b2 + 0)]) (rm := rmcX11_init) (I' := I1M) (L' := L0) (R' := R1M) hx hb hml hown hts hKK hAO hP hz hS (fun q h => by have h : b2 ≤ q := h; show s.heap.size ≤ q; omega) (show IOK RL 12 yX11_init cX11_init 1 0 from ⟨Or.inl qs812, qs813, qs92, qs814, rfl, by decide +kernel⟩) (c_X11_init l D ce b2 Fr0 R1M (fun _ _ _ => ⟨fun _ _ => rfl, fun _ => rfl⟩) WT_R1M) rfl hl.1 rfl (Nat.le_of_ble_eq_true rfl) ⟨rfl, rfl⟩ ⟨Nat.le_of_ble_eq_true rfl, Nat.le_of_ble_eq_true rfl⟩ ⟨Nat.le_of_ble_eq_true rfl, Nat.le_of_ble_eq_true rfl⟩ dL_law_12 (fun H3 locs hPM hS hk => ?_)
  have hPC := keepW hPC hk (fun q h1 h2 => by have := h1.2; have h2 : b2 ≤ q := h2; omega)
  refine lv_astore_n (lv' := [(2, .ref (b2 + 0)), (1, .ref (s.heap.size + 0)), (0, .ref b)]) hx hb dL_law_15 rfl hl (Nat.le_of_ble_eq_true rfl) rfl (fun ls hl => ?_)
  refine lv_iconst (v := 0) hx hb dL_law_16 (by decide) ?_
  refine lv_istore_n (lv' := [(3, .int 0), (2, .ref (b2 + 0)), (1, .ref (s.heap.size + 0)), (0, .ref b)]) hx hb dL_law_17 rfl hl (Nat.le_of_ble_eq_true rfl) rfl (fun ls hl => ?_)
  have hl : lv_has ls 4 [(0, .ref b), (1, .ref (s.heap.size + 0)), (2, .ref (b2 + 0)), (3, .int (nI 0))] := lv_sub hl [3, 2, 1, 0] rfl
  exact law_loop hL C0 hKK Inv h_type h_clear h_reads h_term h_drops h_first h_of h_shown h_fall h_weighs h_weight h_calls h_call h_follows h_lighter h_turns h_settles h_next h_letter h_back h_told h_digest s.heap.size b2 (Nat.le_refl _) (by omega) (Ln + 1) 0 (Nat.zero_le _) (by omega) I1C L0 R1C I1M L0 R1M hInit WT_R1C WT_R1M H3 locs ls hPC hPM hS hl
