/-! pigeons; iteration; the first repetition -/
theorem gw_pig : ∀ (N : Nat) (f : Nat → Nat), (∀ i, i ≤ N → f i < N) → ∃ i j, i < j ∧ j ≤ N ∧ f i = f j := by
  intro N
  induction N with
  | zero => intro f h; exact absurd (h 0 (Nat.le_refl _)) (Nat.not_lt_zero _)
  | succ N ih =>
    intro f h
    by_cases hv : ∃ i, i ≤ N ∧ f i = f (N + 1)
    · obtain ⟨i, h1, h2⟩ := hv
      exact ⟨i, N + 1, by omega, Nat.le_refl _, h2⟩
    · have hne : ∀ i, i ≤ N → f i ≠ f (N + 1) := fun i hi e => hv ⟨i, hi, e⟩
      have hl := h (N + 1) (Nat.le_refl _)
      obtain ⟨i, j, h1, h2, h3⟩ := ih (fun i => if f (N + 1) < f i then f i - 1 else f i) (fun i hi => by
        have h1 := hne i hi
        have h2 := h i (by omega)
        show (if f (N + 1) < f i then f i - 1 else f i) < N
        split <;> omega)
      have h4 := hne i (by omega)
      have h5 := hne j h2
      refine ⟨i, j, h1, by omega, ?_⟩
      have h6 : (if f (N + 1) < f i then f i - 1 else f i) = (if f (N + 1) < f j then f j - 1 else f j) := h3
      split at h6 <;> split at h6 <;> omega
def gw_it (F : Nat → Nat) : Nat → Nat → Nat
  | 0, c => c
  | n + 1, c => F (gw_it F n c)
theorem gw_it_in {F : Nat → Nat} {N : Nat} (hF : ∀ c, c < N → F c < N) {c : Nat} (hc : c < N) : ∀ n, gw_it F n c < N := by
  intro n
  induction n with
  | zero => exact hc
  | succ n ih => exact hF _ ih
theorem gw_it_add (F : Nat → Nat) (c : Nat) : ∀ m n, gw_it F (n + m) c = gw_it F n (gw_it F m c) := by
  intro m n
  induction n with
  | zero => rw [Nat.zero_add]; rfl
  | succ n ih => rw [show n + 1 + m = (n + m) + 1 by omega]; show F _ = F _; rw [ih]
/-- t0 < t1 is the first repetition of the sequence from c -/
def gw_Rho (F : Nat → Nat) (c t0 t1 : Nat) : Prop := t0 < t1 ∧ gw_it F t0 c = gw_it F t1 c ∧ ∀ i j, i < j → j < t1 → gw_it F i c ≠ gw_it F j c
theorem gw_rho_le {F : Nat → Nat} {N c t0 t1 : Nat} (hF : ∀ c, c < N → F c < N) (hc : c < N) (h : gw_Rho F c t0 t1) : t1 ≤ N := by
  apply Nat.le_of_not_lt
  intro hn
  obtain ⟨i, j, h1, h2, h3⟩ := gw_pig N (fun i => gw_it F i c) (fun i _ => gw_it_in hF hc i)
  exact h.2.2 i j h1 (by omega) h3
theorem gw_rho_p {F : Nat → Nat} {c t0 t1 : Nat} (h : gw_Rho F c t0 t1) : ∀ n, t0 ≤ n → gw_it F (n + (t1 - t0)) c = gw_it F n c := by
  intro n hn
  have h0 := h.1
  have e1 : n + (t1 - t0) = (n - t0) + t1 := by omega
  have e2 : gw_it F n c = gw_it F ((n - t0) + t0) c := by rw [show (n - t0) + t0 = n by omega]
  rw [e1, e2, gw_it_add, gw_it_add, h.2.1]
theorem gw_rho_m {F : Nat → Nat} {c t0 t1 : Nat} (h : gw_Rho F c t0 t1) : ∀ k n, t0 ≤ n → gw_it F (n + k * (t1 - t0)) c = gw_it F n c := by
  intro k n hn
  induction k with
  | zero => rw [Nat.zero_mul, Nat.add_zero]
  | succ k ih =>
    rw [Nat.succ_mul, ← Nat.add_assoc, gw_rho_p h _ (by omega), ih]
theorem gw_rho_r {F : Nat → Nat} {c t0 t1 : Nat} (h : gw_Rho F c t0 t1) {n : Nat} (hn : t0 ≤ n) : gw_it F (t0 + (n - t0) % (t1 - t0)) c = gw_it F n c := by
  have e := gw_rho_m h ((n - t0) / (t1 - t0)) (t0 + (n - t0) % (t1 - t0)) (by omega)
  rw [← e]
  have e2 := Nat.mod_add_div (n - t0) (t1 - t0)
  rw [Nat.mul_comm] at e2
  rw [show t0 + (n - t0) % (t1 - t0) + (n - t0) / (t1 - t0) * (t1 - t0) = n by omega]
theorem gw_rho_e {F : Nat → Nat} {c t0 t1 : Nat} (h : gw_Rho F c t0 t1) {i j : Nat} (hi : t0 ≤ i) (hj : t0 ≤ j) (e : gw_it F i c = gw_it F j c) : (i - t0) % (t1 - t0) = (j - t0) % (t1 - t0) := by
  have h0 := h.1
  have p : 0 < t1 - t0 := by omega
  rw [← gw_rho_r h hi, ← gw_rho_r h hj] at e
  have hi' := Nat.mod_lt (i - t0) p
  have hj' := Nat.mod_lt (j - t0) p
  rcases Nat.lt_trichotomy ((i - t0) % (t1 - t0)) ((j - t0) % (t1 - t0)) with g | g | g
  · exact absurd e (h.2.2 _ _ (by omega) (by omega))
  · exact g
  · exact absurd e.symm (h.2.2 _ _ (by omega) (by omega))
/-- from any place on the cycle, the period is the least number of steps back to it -/
theorem gw_rho_min {F : Nat → Nat} {c t0 t1 u j : Nat} (h : gw_Rho F c t0 t1) (hu : t0 ≤ u) (h1 : 0 < j) (h2 : j < t1 - t0) : gw_it F (u + j) c ≠ gw_it F u c := by
  intro e
  have g := gw_rho_e h (i := u + j) (j := u) (by omega) hu e
  rw [show u + j - t0 = (u - t0) + j by omega] at g
  have g1 : ((u - t0) + j) % (t1 - t0) = ((u - t0) % (t1 - t0) + j) % (t1 - t0) := by rw [Nat.mod_add_mod]
  rw [g1] at g
  have h3 := Nat.mod_lt (u - t0) (show 0 < t1 - t0 by omega)
  generalize (u - t0) % (t1 - t0) = r at *
  generalize t1 - t0 = p at *
  rcases Nat.lt_or_ge (r + j) p with g2 | g2
  · rw [Nat.mod_eq_of_lt g2] at g; omega
  · rw [Nat.mod_eq_sub_mod g2, Nat.mod_eq_of_lt (by omega)] at g; omega
/-- the tail is the least place from which the period leads back -/
theorem gw_rho_tail {F : Nat → Nat} {c t0 t1 u : Nat} (h : gw_Rho F c t0 t1) (hu : u < t0) : gw_it F u c ≠ gw_it F (u + (t1 - t0)) c := by
  have h0 := h.1
  exact h.2.2 u (u + (t1 - t0)) (by omega) (by omega)
theorem gw_rho_tail0 {F : Nat → Nat} {c t0 t1 : Nat} (h : gw_Rho F c t0 t1) : gw_it F t0 c = gw_it F (t0 + (t1 - t0)) c := by
  have h0 := h.1
  rw [show t0 + (t1 - t0) = t1 by omega]
  exact h.2.1
/-- there is one, and not beyond N -/
theorem gw_rho_ex {F : Nat → Nat} {N c : Nat} (hF : ∀ c, c < N → F c < N) (hc : c < N) : ∃ t0 t1, gw_Rho F c t0 t1 := by
  have key : ∀ n, (∀ i j, i < j → j < n → gw_it F i c ≠ gw_it F j c) ∨ ∃ t0 t1, gw_Rho F c t0 t1 := by
    intro n
    induction n with
    | zero => exact Or.inl (fun i j _ h => absurd h (Nat.not_lt_zero _))
    | succ n ih =>
      rcases ih with h | h
      · by_cases g : ∃ i, i < n ∧ gw_it F i c = gw_it F n c
        · obtain ⟨i, h1, h2⟩ := g
          exact Or.inr ⟨i, n, h1, h2, h⟩
        · refine Or.inl (fun i j h1 h2 => ?_)
          rcases Nat.lt_or_ge j n with h3 | h3
          · exact h i j h1 h3
          · have e : j = n := by omega
            subst e
            exact fun e => g ⟨i, h1, e⟩
      · exact Or.inr h
  rcases key (N + 1) with h | h
  · obtain ⟨i, j, h1, h2, h3⟩ := gw_pig N (fun i => gw_it F i c) (fun i _ => gw_it_in hF hc i)
    exact absurd h3 (h i j h1 (by omega))
  · exact h
