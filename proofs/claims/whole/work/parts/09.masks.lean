/-! the parts of a mask, from above: (b - 1) &&& M is the next below b -/
theorem gw_subm : ∀ (b M x : Nat), b &&& M = b → x &&& M = x → x < b → x ≤ (b - 1) &&& M := by
  intro b
  induction b using Nat.strongRecOn with
  | ind b ih =>
    intro M x hb hx hlt
    have b2 : b / 2 &&& M / 2 = b / 2 := by rw [← Nat.and_div_two, hb]
    have x2 : x / 2 &&& M / 2 = x / 2 := by rw [← Nat.and_div_two, hx]
    have bm : b % 2 = 1 → M % 2 = 1 := fun h => by
      have h1 : (b &&& M) % 2 = 1 := by rw [hb]; exact h
      exact (Nat.and_mod_two_eq_one.mp h1).2
    have xm : x % 2 = 1 → M % 2 = 1 := fun h => by
      have h1 : (x &&& M) % 2 = 1 := by rw [hx]; exact h
      exact (Nat.and_mod_two_eq_one.mp h1).2
    have n2 : ((b - 1) &&& M) / 2 = (b - 1) / 2 &&& M / 2 := Nat.and_div_two
    have nm : ((b - 1) &&& M) % 2 = 1 ↔ (b - 1) % 2 = 1 ∧ M % 2 = 1 := Nat.and_mod_two_eq_one
    rcases (show b % 2 = 1 ∨ b % 2 = 0 by omega) with h | h
    · rw [show (b - 1) / 2 = b / 2 by omega, b2] at n2
      omega
    · have h1 := ih (b / 2) (by omega) (M / 2) (x / 2) b2 x2 (by omega)
      rw [show (b - 1) / 2 = b / 2 - 1 by omega] at n2
      rw [← n2] at h1
      have h2 : (b - 1) % 2 = 1 := by omega
      rcases (show x % 2 = 1 ∨ x % 2 = 0 by omega) with h3 | h3
      · have h4 := nm.mpr ⟨h2, xm h3⟩
        omega
      · omega
theorem gw_subm_in (b M : Nat) : ((b - 1) &&& M) &&& M = (b - 1) &&& M := by
  rw [Nat.and_assoc, Nat.and_self]
