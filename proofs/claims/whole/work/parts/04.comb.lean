/-! ===== binds of some arities ===== -/
def un0 {γ : Type} (f : γ) : Unit → γ := fun _ => f
def un1 {α1 γ : Type} (f : α1 → γ) : α1 → γ := fun q => f q
def un2 {α1 α2 γ : Type} (f : α1 → α2 → γ) : (α1 × α2) → γ := fun q => f q.1 q.2
def un3 {α1 α2 α3 γ : Type} (f : α1 → α2 → α3 → γ) : (α1 × α2 × α3) → γ := fun q => f q.1 q.2.1 q.2.2
def un4 {α1 α2 α3 α4 γ : Type} (f : α1 → α2 → α3 → α4 → γ) : (α1 × α2 × α3 × α4) → γ := fun q => f q.1 q.2.1 q.2.2.1 q.2.2.2
def un5 {α1 α2 α3 α4 α5 γ : Type} (f : α1 → α2 → α3 → α4 → α5 → γ) : (α1 × α2 × α3 × α4 × α5) → γ := fun q => f q.1 q.2.1 q.2.2.1 q.2.2.2.1 q.2.2.2.2
def un6 {α1 α2 α3 α4 α5 α6 γ : Type} (f : α1 → α2 → α3 → α4 → α5 → α6 → γ) : (α1 × α2 × α3 × α4 × α5 × α6) → γ := fun q => f q.1 q.2.1 q.2.2.1 q.2.2.2.1 q.2.2.2.2.1 q.2.2.2.2.2
def un7 {α1 α2 α3 α4 α5 α6 α7 γ : Type} (f : α1 → α2 → α3 → α4 → α5 → α6 → α7 → γ) : (α1 × α2 × α3 × α4 × α5 × α6 × α7) → γ := fun q => f q.1 q.2.1 q.2.2.1 q.2.2.2.1 q.2.2.2.2.1 q.2.2.2.2.2.1 q.2.2.2.2.2.2
def un8 {α1 α2 α3 α4 α5 α6 α7 α8 γ : Type} (f : α1 → α2 → α3 → α4 → α5 → α6 → α7 → α8 → γ) : (α1 × α2 × α3 × α4 × α5 × α6 × α7 × α8) → γ := fun q => f q.1 q.2.1 q.2.2.1 q.2.2.2.1 q.2.2.2.2.1 q.2.2.2.2.2.1 q.2.2.2.2.2.2.1 q.2.2.2.2.2.2.2
def un9 {α1 α2 α3 α4 α5 α6 α7 α8 α9 γ : Type} (f : α1 → α2 → α3 → α4 → α5 → α6 → α7 → α8 → α9 → γ) : (α1 × α2 × α3 × α4 × α5 × α6 × α7 × α8 × α9) → γ := fun q => f q.1 q.2.1 q.2.2.1 q.2.2.2.1 q.2.2.2.2.1 q.2.2.2.2.2.1 q.2.2.2.2.2.2.1 q.2.2.2.2.2.2.2.1 q.2.2.2.2.2.2.2.2
def bd0 {γ : Type} (x : Option Unit) (f : Option γ) : Option γ := Option.bind x (un0 f)
theorem bd0_o {γ : Type} {x : Option Unit} {f : Option γ} {o : γ} (h : bd0 x f = some o) : x = some () ∧ f  = some o := by
  obtain ⟨q, h1, h2⟩ := bndo h
  exact ⟨h1, h2⟩
theorem bd0_s {γ : Type} (f : Option γ) : bd0 (some ()) f = f  := rfl
def bd1 {α1 γ : Type} (x : Option α1) (f : α1 → Option γ) : Option γ := Option.bind x (un1 f)
theorem bd1_o {α1 γ : Type} {x : Option α1} {f : α1 → Option γ} {o : γ} (h : bd1 x f = some o) : ∃ a1, x = some a1 ∧ f a1 = some o := by
  obtain ⟨q, h1, h2⟩ := bndo h
  exact ⟨q, h1, h2⟩
theorem bd1_s {α1 γ : Type} (f : α1 → Option γ) (a1 : α1) : bd1 (some a1) f = f a1 := rfl
def bd2 {α1 α2 γ : Type} (x : Option (α1 × α2)) (f : α1 → α2 → Option γ) : Option γ := Option.bind x (un2 f)
theorem bd2_o {α1 α2 γ : Type} {x : Option (α1 × α2)} {f : α1 → α2 → Option γ} {o : γ} (h : bd2 x f = some o) : ∃ a1 a2, x = some (a1, a2) ∧ f a1 a2 = some o := by
  obtain ⟨q, h1, h2⟩ := bndo h
  exact ⟨q.1, q.2, h1, h2⟩
theorem bd2_s {α1 α2 γ : Type} (f : α1 → α2 → Option γ) (a1 : α1)  (a2 : α2) : bd2 (some (a1, a2)) f = f a1 a2 := rfl
def bd3 {α1 α2 α3 γ : Type} (x : Option (α1 × α2 × α3)) (f : α1 → α2 → α3 → Option γ) : Option γ := Option.bind x (un3 f)
theorem bd3_o {α1 α2 α3 γ : Type} {x : Option (α1 × α2 × α3)} {f : α1 → α2 → α3 → Option γ} {o : γ} (h : bd3 x f = some o) : ∃ a1 a2 a3, x = some (a1, a2, a3) ∧ f a1 a2 a3 = some o := by
  obtain ⟨q, h1, h2⟩ := bndo h
  exact ⟨q.1, q.2.1, q.2.2, h1, h2⟩
theorem bd3_s {α1 α2 α3 γ : Type} (f : α1 → α2 → α3 → Option γ) (a1 : α1)  (a2 : α2)  (a3 : α3) : bd3 (some (a1, a2, a3)) f = f a1 a2 a3 := rfl
def bd4 {α1 α2 α3 α4 γ : Type} (x : Option (α1 × α2 × α3 × α4)) (f : α1 → α2 → α3 → α4 → Option γ) : Option γ := Option.bind x (un4 f)
theorem bd4_o {α1 α2 α3 α4 γ : Type} {x : Option (α1 × α2 × α3 × α4)} {f : α1 → α2 → α3 → α4 → Option γ} {o : γ} (h : bd4 x f = some o) : ∃ a1 a2 a3 a4, x = some (a1, a2, a3, a4) ∧ f a1 a2 a3 a4 = some o := by
  obtain ⟨q, h1, h2⟩ := bndo h
  exact ⟨q.1, q.2.1, q.2.2.1, q.2.2.2, h1, h2⟩
theorem bd4_s {α1 α2 α3 α4 γ : Type} (f : α1 → α2 → α3 → α4 → Option γ) (a1 : α1)  (a2 : α2)  (a3 : α3)  (a4 : α4) : bd4 (some (a1, a2, a3, a4)) f = f a1 a2 a3 a4 := rfl
def bd5 {α1 α2 α3 α4 α5 γ : Type} (x : Option (α1 × α2 × α3 × α4 × α5)) (f : α1 → α2 → α3 → α4 → α5 → Option γ) : Option γ := Option.bind x (un5 f)
theorem bd5_o {α1 α2 α3 α4 α5 γ : Type} {x : Option (α1 × α2 × α3 × α4 × α5)} {f : α1 → α2 → α3 → α4 → α5 → Option γ} {o : γ} (h : bd5 x f = some o) : ∃ a1 a2 a3 a4 a5, x = some (a1, a2, a3, a4, a5) ∧ f a1 a2 a3 a4 a5 = some o := by
  obtain ⟨q, h1, h2⟩ := bndo h
  exact ⟨q.1, q.2.1, q.2.2.1, q.2.2.2.1, q.2.2.2.2, h1, h2⟩
theorem bd5_s {α1 α2 α3 α4 α5 γ : Type} (f : α1 → α2 → α3 → α4 → α5 → Option γ) (a1 : α1)  (a2 : α2)  (a3 : α3)  (a4 : α4)  (a5 : α5) : bd5 (some (a1, a2, a3, a4, a5)) f = f a1 a2 a3 a4 a5 := rfl
def bd6 {α1 α2 α3 α4 α5 α6 γ : Type} (x : Option (α1 × α2 × α3 × α4 × α5 × α6)) (f : α1 → α2 → α3 → α4 → α5 → α6 → Option γ) : Option γ := Option.bind x (un6 f)
theorem bd6_o {α1 α2 α3 α4 α5 α6 γ : Type} {x : Option (α1 × α2 × α3 × α4 × α5 × α6)} {f : α1 → α2 → α3 → α4 → α5 → α6 → Option γ} {o : γ} (h : bd6 x f = some o) : ∃ a1 a2 a3 a4 a5 a6, x = some (a1, a2, a3, a4, a5, a6) ∧ f a1 a2 a3 a4 a5 a6 = some o := by
  obtain ⟨q, h1, h2⟩ := bndo h
  exact ⟨q.1, q.2.1, q.2.2.1, q.2.2.2.1, q.2.2.2.2.1, q.2.2.2.2.2, h1, h2⟩
theorem bd6_s {α1 α2 α3 α4 α5 α6 γ : Type} (f : α1 → α2 → α3 → α4 → α5 → α6 → Option γ) (a1 : α1)  (a2 : α2)  (a3 : α3)  (a4 : α4)  (a5 : α5)  (a6 : α6) : bd6 (some (a1, a2, a3, a4, a5, a6)) f = f a1 a2 a3 a4 a5 a6 := rfl
def bd7 {α1 α2 α3 α4 α5 α6 α7 γ : Type} (x : Option (α1 × α2 × α3 × α4 × α5 × α6 × α7)) (f : α1 → α2 → α3 → α4 → α5 → α6 → α7 → Option γ) : Option γ := Option.bind x (un7 f)
theorem bd7_o {α1 α2 α3 α4 α5 α6 α7 γ : Type} {x : Option (α1 × α2 × α3 × α4 × α5 × α6 × α7)} {f : α1 → α2 → α3 → α4 → α5 → α6 → α7 → Option γ} {o : γ} (h : bd7 x f = some o) : ∃ a1 a2 a3 a4 a5 a6 a7, x = some (a1, a2, a3, a4, a5, a6, a7) ∧ f a1 a2 a3 a4 a5 a6 a7 = some o := by
  obtain ⟨q, h1, h2⟩ := bndo h
  exact ⟨q.1, q.2.1, q.2.2.1, q.2.2.2.1, q.2.2.2.2.1, q.2.2.2.2.2.1, q.2.2.2.2.2.2, h1, h2⟩
theorem bd7_s {α1 α2 α3 α4 α5 α6 α7 γ : Type} (f : α1 → α2 → α3 → α4 → α5 → α6 → α7 → Option γ) (a1 : α1)  (a2 : α2)  (a3 : α3)  (a4 : α4)  (a5 : α5)  (a6 : α6)  (a7 : α7) : bd7 (some (a1, a2, a3, a4, a5, a6, a7)) f = f a1 a2 a3 a4 a5 a6 a7 := rfl
def bd8 {α1 α2 α3 α4 α5 α6 α7 α8 γ : Type} (x : Option (α1 × α2 × α3 × α4 × α5 × α6 × α7 × α8)) (f : α1 → α2 → α3 → α4 → α5 → α6 → α7 → α8 → Option γ) : Option γ := Option.bind x (un8 f)
theorem bd8_o {α1 α2 α3 α4 α5 α6 α7 α8 γ : Type} {x : Option (α1 × α2 × α3 × α4 × α5 × α6 × α7 × α8)} {f : α1 → α2 → α3 → α4 → α5 → α6 → α7 → α8 → Option γ} {o : γ} (h : bd8 x f = some o) : ∃ a1 a2 a3 a4 a5 a6 a7 a8, x = some (a1, a2, a3, a4, a5, a6, a7, a8) ∧ f a1 a2 a3 a4 a5 a6 a7 a8 = some o := by
  obtain ⟨q, h1, h2⟩ := bndo h
  exact ⟨q.1, q.2.1, q.2.2.1, q.2.2.2.1, q.2.2.2.2.1, q.2.2.2.2.2.1, q.2.2.2.2.2.2.1, q.2.2.2.2.2.2.2, h1, h2⟩
theorem bd8_s {α1 α2 α3 α4 α5 α6 α7 α8 γ : Type} (f : α1 → α2 → α3 → α4 → α5 → α6 → α7 → α8 → Option γ) (a1 : α1)  (a2 : α2)  (a3 : α3)  (a4 : α4)  (a5 : α5)  (a6 : α6)  (a7 : α7)  (a8 : α8) : bd8 (some (a1, a2, a3, a4, a5, a6, a7, a8)) f = f a1 a2 a3 a4 a5 a6 a7 a8 := rfl
def bd9 {α1 α2 α3 α4 α5 α6 α7 α8 α9 γ : Type} (x : Option (α1 × α2 × α3 × α4 × α5 × α6 × α7 × α8 × α9)) (f : α1 → α2 → α3 → α4 → α5 → α6 → α7 → α8 → α9 → Option γ) : Option γ := Option.bind x (un9 f)
theorem bd9_o {α1 α2 α3 α4 α5 α6 α7 α8 α9 γ : Type} {x : Option (α1 × α2 × α3 × α4 × α5 × α6 × α7 × α8 × α9)} {f : α1 → α2 → α3 → α4 → α5 → α6 → α7 → α8 → α9 → Option γ} {o : γ} (h : bd9 x f = some o) : ∃ a1 a2 a3 a4 a5 a6 a7 a8 a9, x = some (a1, a2, a3, a4, a5, a6, a7, a8, a9) ∧ f a1 a2 a3 a4 a5 a6 a7 a8 a9 = some o := by
  obtain ⟨q, h1, h2⟩ := bndo h
  exact ⟨q.1, q.2.1, q.2.2.1, q.2.2.2.1, q.2.2.2.2.1, q.2.2.2.2.2.1, q.2.2.2.2.2.2.1, q.2.2.2.2.2.2.2.1, q.2.2.2.2.2.2.2.2, h1, h2⟩
theorem bd9_s {α1 α2 α3 α4 α5 α6 α7 α8 α9 γ : Type} (f : α1 → α2 → α3 → α4 → α5 → α6 → α7 → α8 → α9 → Option γ) (a1 : α1)  (a2 : α2)  (a3 : α3)  (a4 : α4)  (a5 : α5)  (a6 : α6)  (a7 : α7)  (a8 : α8)  (a9 : α9) : bd9 (some (a1, a2, a3, a4, a5, a6, a7, a8, a9)) f = f a1 a2 a3 a4 a5 a6 a7 a8 a9 := rfl
def bdS {α β γ : Type} (x : Option (α ⊕ β)) (F : α → Option γ) (G : β → Option γ) : Option γ := Option.bind x (Sum.elim F G)
theorem bdS_o {α β γ : Type} {x : Option (α ⊕ β)} {F : α → Option γ} {G : β → Option γ} {o : γ} (h : bdS x F G = some o) : ∃ q, x = some q ∧ Sum.elim F G q = some o := bndo h
theorem bdS_l {α β γ : Type} (F : α → Option γ) (G : β → Option γ) (a : α) : bdS (some (Sum.inl a)) F G = F a := rfl
theorem bdS_r {α β γ : Type} (F : α → Option γ) (G : β → Option γ) (a : β) : bdS (some (Sum.inr a)) F G = G a := rfl
theorem elL0 { β γ : Type} {f : Option γ} {G : β → Option γ} {q : Unit ⊕ β} {o : γ}  (h : Sum.elim (un0 f) G q = some o) (hy : q = Sum.inl ()) : f  = some o := by subst hy; exact h
theorem elR0 { β γ : Type} {f : Option γ} {F : β → Option γ} {q : β ⊕ Unit} {o : γ}  (h : Sum.elim F (un0 f) q = some o) (hy : q = Sum.inr ()) : f  = some o := by subst hy; exact h
theorem elL1 {α1 β γ : Type} {f : α1 → Option γ} {G : β → Option γ} {q : α1 ⊕ β} {o : γ} {a1 : α1} (h : Sum.elim (un1 f) G q = some o) (hy : q = Sum.inl a1) : f a1 = some o := by subst hy; exact h
theorem elR1 {α1 β γ : Type} {f : α1 → Option γ} {F : β → Option γ} {q : β ⊕ α1} {o : γ} {a1 : α1} (h : Sum.elim F (un1 f) q = some o) (hy : q = Sum.inr a1) : f a1 = some o := by subst hy; exact h
theorem elL2 {α1 α2 β γ : Type} {f : α1 → α2 → Option γ} {G : β → Option γ} {q : (α1 × α2) ⊕ β} {o : γ} {a1 : α1} {a2 : α2} (h : Sum.elim (un2 f) G q = some o) (hy : q = Sum.inl (a1, a2)) : f a1 a2 = some o := by subst hy; exact h
theorem elR2 {α1 α2 β γ : Type} {f : α1 → α2 → Option γ} {F : β → Option γ} {q : β ⊕ (α1 × α2)} {o : γ} {a1 : α1} {a2 : α2} (h : Sum.elim F (un2 f) q = some o) (hy : q = Sum.inr (a1, a2)) : f a1 a2 = some o := by subst hy; exact h
theorem elL3 {α1 α2 α3 β γ : Type} {f : α1 → α2 → α3 → Option γ} {G : β → Option γ} {q : (α1 × α2 × α3) ⊕ β} {o : γ} {a1 : α1} {a2 : α2} {a3 : α3} (h : Sum.elim (un3 f) G q = some o) (hy : q = Sum.inl (a1, a2, a3)) : f a1 a2 a3 = some o := by subst hy; exact h
theorem elR3 {α1 α2 α3 β γ : Type} {f : α1 → α2 → α3 → Option γ} {F : β → Option γ} {q : β ⊕ (α1 × α2 × α3)} {o : γ} {a1 : α1} {a2 : α2} {a3 : α3} (h : Sum.elim F (un3 f) q = some o) (hy : q = Sum.inr (a1, a2, a3)) : f a1 a2 a3 = some o := by subst hy; exact h
theorem elL4 {α1 α2 α3 α4 β γ : Type} {f : α1 → α2 → α3 → α4 → Option γ} {G : β → Option γ} {q : (α1 × α2 × α3 × α4) ⊕ β} {o : γ} {a1 : α1} {a2 : α2} {a3 : α3} {a4 : α4} (h : Sum.elim (un4 f) G q = some o) (hy : q = Sum.inl (a1, a2, a3, a4)) : f a1 a2 a3 a4 = some o := by subst hy; exact h
theorem elR4 {α1 α2 α3 α4 β γ : Type} {f : α1 → α2 → α3 → α4 → Option γ} {F : β → Option γ} {q : β ⊕ (α1 × α2 × α3 × α4)} {o : γ} {a1 : α1} {a2 : α2} {a3 : α3} {a4 : α4} (h : Sum.elim F (un4 f) q = some o) (hy : q = Sum.inr (a1, a2, a3, a4)) : f a1 a2 a3 a4 = some o := by subst hy; exact h
theorem elL5 {α1 α2 α3 α4 α5 β γ : Type} {f : α1 → α2 → α3 → α4 → α5 → Option γ} {G : β → Option γ} {q : (α1 × α2 × α3 × α4 × α5) ⊕ β} {o : γ} {a1 : α1} {a2 : α2} {a3 : α3} {a4 : α4} {a5 : α5} (h : Sum.elim (un5 f) G q = some o) (hy : q = Sum.inl (a1, a2, a3, a4, a5)) : f a1 a2 a3 a4 a5 = some o := by subst hy; exact h
theorem elR5 {α1 α2 α3 α4 α5 β γ : Type} {f : α1 → α2 → α3 → α4 → α5 → Option γ} {F : β → Option γ} {q : β ⊕ (α1 × α2 × α3 × α4 × α5)} {o : γ} {a1 : α1} {a2 : α2} {a3 : α3} {a4 : α4} {a5 : α5} (h : Sum.elim F (un5 f) q = some o) (hy : q = Sum.inr (a1, a2, a3, a4, a5)) : f a1 a2 a3 a4 a5 = some o := by subst hy; exact h
theorem elL6 {α1 α2 α3 α4 α5 α6 β γ : Type} {f : α1 → α2 → α3 → α4 → α5 → α6 → Option γ} {G : β → Option γ} {q : (α1 × α2 × α3 × α4 × α5 × α6) ⊕ β} {o : γ} {a1 : α1} {a2 : α2} {a3 : α3} {a4 : α4} {a5 : α5} {a6 : α6} (h : Sum.elim (un6 f) G q = some o) (hy : q = Sum.inl (a1, a2, a3, a4, a5, a6)) : f a1 a2 a3 a4 a5 a6 = some o := by subst hy; exact h
theorem elR6 {α1 α2 α3 α4 α5 α6 β γ : Type} {f : α1 → α2 → α3 → α4 → α5 → α6 → Option γ} {F : β → Option γ} {q : β ⊕ (α1 × α2 × α3 × α4 × α5 × α6)} {o : γ} {a1 : α1} {a2 : α2} {a3 : α3} {a4 : α4} {a5 : α5} {a6 : α6} (h : Sum.elim F (un6 f) q = some o) (hy : q = Sum.inr (a1, a2, a3, a4, a5, a6)) : f a1 a2 a3 a4 a5 a6 = some o := by subst hy; exact h
theorem elL7 {α1 α2 α3 α4 α5 α6 α7 β γ : Type} {f : α1 → α2 → α3 → α4 → α5 → α6 → α7 → Option γ} {G : β → Option γ} {q : (α1 × α2 × α3 × α4 × α5 × α6 × α7) ⊕ β} {o : γ} {a1 : α1} {a2 : α2} {a3 : α3} {a4 : α4} {a5 : α5} {a6 : α6} {a7 : α7} (h : Sum.elim (un7 f) G q = some o) (hy : q = Sum.inl (a1, a2, a3, a4, a5, a6, a7)) : f a1 a2 a3 a4 a5 a6 a7 = some o := by subst hy; exact h
theorem elR7 {α1 α2 α3 α4 α5 α6 α7 β γ : Type} {f : α1 → α2 → α3 → α4 → α5 → α6 → α7 → Option γ} {F : β → Option γ} {q : β ⊕ (α1 × α2 × α3 × α4 × α5 × α6 × α7)} {o : γ} {a1 : α1} {a2 : α2} {a3 : α3} {a4 : α4} {a5 : α5} {a6 : α6} {a7 : α7} (h : Sum.elim F (un7 f) q = some o) (hy : q = Sum.inr (a1, a2, a3, a4, a5, a6, a7)) : f a1 a2 a3 a4 a5 a6 a7 = some o := by subst hy; exact h
theorem elL8 {α1 α2 α3 α4 α5 α6 α7 α8 β γ : Type} {f : α1 → α2 → α3 → α4 → α5 → α6 → α7 → α8 → Option γ} {G : β → Option γ} {q : (α1 × α2 × α3 × α4 × α5 × α6 × α7 × α8) ⊕ β} {o : γ} {a1 : α1} {a2 : α2} {a3 : α3} {a4 : α4} {a5 : α5} {a6 : α6} {a7 : α7} {a8 : α8} (h : Sum.elim (un8 f) G q = some o) (hy : q = Sum.inl (a1, a2, a3, a4, a5, a6, a7, a8)) : f a1 a2 a3 a4 a5 a6 a7 a8 = some o := by subst hy; exact h
theorem elR8 {α1 α2 α3 α4 α5 α6 α7 α8 β γ : Type} {f : α1 → α2 → α3 → α4 → α5 → α6 → α7 → α8 → Option γ} {F : β → Option γ} {q : β ⊕ (α1 × α2 × α3 × α4 × α5 × α6 × α7 × α8)} {o : γ} {a1 : α1} {a2 : α2} {a3 : α3} {a4 : α4} {a5 : α5} {a6 : α6} {a7 : α7} {a8 : α8} (h : Sum.elim F (un8 f) q = some o) (hy : q = Sum.inr (a1, a2, a3, a4, a5, a6, a7, a8)) : f a1 a2 a3 a4 a5 a6 a7 a8 = some o := by subst hy; exact h
theorem elL9 {α1 α2 α3 α4 α5 α6 α7 α8 α9 β γ : Type} {f : α1 → α2 → α3 → α4 → α5 → α6 → α7 → α8 → α9 → Option γ} {G : β → Option γ} {q : (α1 × α2 × α3 × α4 × α5 × α6 × α7 × α8 × α9) ⊕ β} {o : γ} {a1 : α1} {a2 : α2} {a3 : α3} {a4 : α4} {a5 : α5} {a6 : α6} {a7 : α7} {a8 : α8} {a9 : α9} (h : Sum.elim (un9 f) G q = some o) (hy : q = Sum.inl (a1, a2, a3, a4, a5, a6, a7, a8, a9)) : f a1 a2 a3 a4 a5 a6 a7 a8 a9 = some o := by subst hy; exact h
theorem elR9 {α1 α2 α3 α4 α5 α6 α7 α8 α9 β γ : Type} {f : α1 → α2 → α3 → α4 → α5 → α6 → α7 → α8 → α9 → Option γ} {F : β → Option γ} {q : β ⊕ (α1 × α2 × α3 × α4 × α5 × α6 × α7 × α8 × α9)} {o : γ} {a1 : α1} {a2 : α2} {a3 : α3} {a4 : α4} {a5 : α5} {a6 : α6} {a7 : α7} {a8 : α8} {a9 : α9} (h : Sum.elim F (un9 f) q = some o) (hy : q = Sum.inr (a1, a2, a3, a4, a5, a6, a7, a8, a9)) : f a1 a2 a3 a4 a5 a6 a7 a8 a9 = some o := by subst hy; exact h
