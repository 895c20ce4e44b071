/-! ===== the least weights: what is meant, and the class ===== -/
def fg (a b c d k l m : Nat) : Nat → Nat := fun i => if i = 0 then a else if i = 1 then b else if i = 2 then c else if i = 3 then d else if i = 4 then k else if i = 5 then l else m
def nm (a b c d : Nat) : Nat := 1000 * a + 100 * b + 10 * c + d
/-- a row of trials, in order: what it ends with -/
def SR (B : Nat → Prop) (P : Nat → Prop) (last : Nat) (best : Option Nat) (o : Int32 ⊕ Unit) : Prop := match o with
  | Sum.inr _ => ∀ X, B X → ¬ P X
  | Sum.inl r => ∃ X, B X ∧ (∀ Y, B Y → Y < X → ¬ P Y) ∧ ((P X ∧ r = nI (1000 * X + last) ∧ ∀ b, best = some b → 1000 * X + last ≤ b) ∨ (∃ b, best = some b ∧ b < 1000 * X + last ∧ r = nI b))
theorem SR.app {B1 B2 B : Nat → Prop} {P : Nat → Prop} {last : Nat} {best : Option Nat} {o : Int32 ⊕ Unit} (h1 : ∀ X, B1 X → ¬ P X) (h2 : SR B2 P last best o) (hB : ∀ X, B X ↔ B1 X ∨ B2 X) : SR B P last best o := by
  cases o with
  | inr _ => exact fun X hX => ((hB X).mp hX).elim (h1 X) (h2 X)
  | inl r =>
    obtain ⟨X, k1, k2, k3⟩ := h2
    exact ⟨X, (hB X).mpr (Or.inr k1), fun Y hY hl => ((hB Y).mp hY).elim (h1 Y) (fun w => k2 Y w hl), k3⟩
theorem SR.fst {B1 B : Nat → Prop} {P : Nat → Prop} {last : Nat} {best : Option Nat} {r : Int32} (h1 : SR B1 P last best (Sum.inl r)) (hB : ∀ X, B1 X → B X) (hlt : ∀ X Y, B1 X → B Y → Y < X → B1 Y) : SR B P last best (Sum.inl r) := by
  obtain ⟨X, k1, k2, k3⟩ := h1
  exact ⟨X, hB X k1, fun Y hY hl => k2 Y (hlt X Y k1 hY hl) hl, k3⟩
