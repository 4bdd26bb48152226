section Base
theorem lcm1_lt (a b : Int) : lcm1 a b < 0 ↔ a < b := by unfold lcm1; split <;> (try split) <;> omega
theorem lcm1_gt (a b : Int) : 0 < lcm1 a b ↔ b < a := by unfold lcm1; split <;> (try split) <;> omega
theorem lcm1_le (a b : Int) : lcm1 a b ≤ 0 ↔ a ≤ b := by unfold lcm1; split <;> (try split) <;> omega
theorem lcm1_ge (a b : Int) : 0 ≤ lcm1 a b ↔ b ≤ a := by unfold lcm1; split <;> (try split) <;> omega
theorem lcm1_eq (a b : Int) : lcm1 a b = 0 ↔ a = b := by unfold lcm1; split <;> (try split) <;> omega
theorem blt {a b : Int} {P Q : Prop} (h1 : a < b → P) (h2 : ¬ a < b → Q) : brb (decide (lcm1 a b < 0)) P Q := brbI (fun h => h1 ((lcm1_lt a b).1 h)) (fun h => h2 (fun q => h ((lcm1_lt a b).2 q)))
theorem bgt {a b : Int} {P Q : Prop} (h1 : b < a → P) (h2 : ¬ b < a → Q) : brb (decide (0 < lcm1 a b)) P Q := brbI (fun h => h1 ((lcm1_gt a b).1 h)) (fun h => h2 (fun q => h ((lcm1_gt a b).2 q)))
theorem ble {a b : Int} {P Q : Prop} (h1 : a ≤ b → P) (h2 : ¬ a ≤ b → Q) : brb (decide (lcm1 a b ≤ 0)) P Q := brbI (fun h => h1 ((lcm1_le a b).1 h)) (fun h => h2 (fun q => h ((lcm1_le a b).2 q)))
theorem bge {a b : Int} {P Q : Prop} (h1 : b ≤ a → P) (h2 : ¬ b ≤ a → Q) : brb (decide (0 ≤ lcm1 a b)) P Q := brbI (fun h => h1 ((lcm1_ge a b).1 h)) (fun h => h2 (fun q => h ((lcm1_ge a b).2 q)))
theorem beq0 {a b : Int} {P Q : Prop} (h1 : a = b → P) (h2 : ¬ a = b → Q) : brb (decide (lcm1 a b = 0)) P Q := brbI (fun h => h1 ((lcm1_eq a b).1 h)) (fun h => h2 (fun q => h ((lcm1_eq a b).2 q)))
theorem bne0 {a b : Int} {P Q : Prop} (h1 : ¬ a = b → P) (h2 : a = b → Q) : brb (!decide (lcm1 a b = 0)) P Q := brbN (fun h => h1 (fun q => h ((lcm1_eq a b).2 q))) (fun h => h2 ((lcm1_eq a b).1 h))
/-- a loop that runs out -/
theorem lp {α : Type} (m : α → Nat) {P : α → Prop} (h : ∀ a, (∀ b, m b < m a → P b) → P a) (a : α) : P a := by
  have : ∀ n a, m a = n → P a := by
    intro n
    induction n using Nat.strongRecOn with
    | _ n ih =>
      intro a ha
      exact h a (fun b hb => ih (m b) (by omega) b rfl)
  exact this (m a) a rfl
theorem beqI {n m : Nat} (h : n = m) : (n == m) = true := by rw [h]; exact beq_self_eq_true m
end Base
