/-! counting and packing: gw_cnt q n of the nets below n have q; gw_pk q b n packs b of them, in order -/
def gw_cnt (q : Nat → Bool) : Nat → Nat
  | 0 => 0
  | n + 1 => gw_cnt q n + (q n).toNat
def gw_pk (q b : Nat → Bool) : Nat → Nat
  | 0 => 0
  | n + 1 => if q n = true then gw_pk q b n ||| ((b n).toNat <<< gw_cnt q n) else gw_pk q b n
theorem gw_cnt_t {q : Nat → Bool} {n : Nat} (h : q n = true) : gw_cnt q (n + 1) = gw_cnt q n + 1 := by
  show gw_cnt q n + (q n).toNat = _
  rw [h]; rfl
theorem gw_cnt_f {q : Nat → Bool} {n : Nat} (h : q n = false) : gw_cnt q (n + 1) = gw_cnt q n := by
  show gw_cnt q n + (q n).toNat = _
  rw [h]; rfl
theorem gw_pk_t {q b : Nat → Bool} {n : Nat} (h : q n = true) : gw_pk q b (n + 1) = gw_pk q b n ||| ((b n).toNat <<< gw_cnt q n) := by
  show (if q n = true then _ else _) = _
  rw [if_pos h]
theorem gw_pk_f {q b : Nat → Bool} {n : Nat} (h : q n = false) : gw_pk q b (n + 1) = gw_pk q b n := by
  show (if q n = true then _ else _) = _
  rw [if_neg (by rw [h]; exact Bool.false_ne_true)]
theorem gw_cnt_s (q : Nat → Bool) (n : Nat) : gw_cnt q n ≤ gw_cnt q (n + 1) := Nat.le_add_right _ _
theorem gw_cnt_mono {q : Nat → Bool} {m n : Nat} (h : m ≤ n) : gw_cnt q m ≤ gw_cnt q n := by
  induction n with
  | zero => rw [Nat.le_zero.mp h]; exact Nat.le_refl _
  | succ n ih =>
    rcases Nat.lt_or_ge n m with h1 | h1
    · rw [show m = n + 1 by omega]; exact Nat.le_refl _
    · exact Nat.le_trans (ih h1) (gw_cnt_s q n)
theorem gw_cnt_lt {q : Nat → Bool} {j n : Nat} (hq : q j = true) (h : j < n) : gw_cnt q j < gw_cnt q n := by
  have h1 : gw_cnt q (j + 1) ≤ gw_cnt q n := gw_cnt_mono h
  rw [gw_cnt_t hq] at h1
  exact h1
theorem gw_cnt_inj {q : Nat → Bool} {i j : Nat} (hi : q i = true) (hj : q j = true) (h : gw_cnt q i = gw_cnt q j) : i = j := by
  rcases Nat.lt_trichotomy i j with h1 | h1 | h1
  · have := gw_cnt_lt hi h1; omega
  · exact h1
  · have := gw_cnt_lt hj h1; omega
theorem gw_cnt_sur {q : Nat → Bool} {i n : Nat} (h : i < gw_cnt q n) : ∃ j, j < n ∧ q j = true ∧ gw_cnt q j = i := by
  induction n with
  | zero => exact absurd h (Nat.not_lt_zero _)
  | succ n ih =>
    cases hq : q n with
    | false =>
      rw [gw_cnt_f hq] at h
      obtain ⟨j, h1, h2, h3⟩ := ih h
      exact ⟨j, by omega, h2, h3⟩
    | true =>
      rw [gw_cnt_t hq] at h
      rcases Nat.lt_or_ge i (gw_cnt q n) with h1 | h1
      · obtain ⟨j, h1, h2, h3⟩ := ih h1
        exact ⟨j, by omega, h2, h3⟩
      · exact ⟨n, by omega, hq, by omega⟩
theorem gw_cnt_le (q : Nat → Bool) (n : Nat) : gw_cnt q n ≤ n := by
  induction n with
  | zero => exact Nat.le_refl _
  | succ n ih =>
    cases hq : q n with
    | false => rw [gw_cnt_f hq]; omega
    | true => rw [gw_cnt_t hq]; omega
theorem gw_cnt_congr {p q : Nat → Bool} {n : Nat} (h : ∀ j, j < n → p j = q j) : gw_cnt p n = gw_cnt q n := by
  induction n with
  | zero => rfl
  | succ n ih =>
    show gw_cnt p n + (p n).toNat = gw_cnt q n + (q n).toNat
    rw [ih (fun j hj => h j (by omega)), h n (by omega)]
/-- more of them have q than p, if p gives q and one has q without p -/
theorem gw_cnt_sub {p q : Nat → Bool} {n : Nat} (h : ∀ j, j < n → p j = true → q j = true) : gw_cnt p n ≤ gw_cnt q n := by
  induction n with
  | zero => exact Nat.le_refl _
  | succ n ih =>
    have h0 := ih (fun j hj => h j (by omega))
    cases hp : p n with
    | false => rw [gw_cnt_f hp]; exact Nat.le_trans h0 (gw_cnt_s q n)
    | true => rw [gw_cnt_t hp, gw_cnt_t (h n (by omega) hp)]; omega
theorem gw_cnt_ssub {p q : Nat → Bool} {n c : Nat} (h : ∀ j, j < n → p j = true → q j = true) (hc : c < n) (hp : p c = false) (hq : q c = true) : gw_cnt p n < gw_cnt q n := by
  induction n with
  | zero => exact absurd hc (Nat.not_lt_zero _)
  | succ n ih =>
    rcases Nat.lt_or_ge c n with h1 | h1
    · have h0 := ih (fun j hj => h j (by omega)) h1
      cases hp' : p n with
      | false => rw [gw_cnt_f hp']; exact Nat.lt_of_lt_of_le h0 (gw_cnt_s q n)
      | true => rw [gw_cnt_t hp', gw_cnt_t (h n (by omega) hp')]; omega
    · have e : c = n := by omega
      subst e
      rw [gw_cnt_f hp, gw_cnt_t hq]
      have := gw_cnt_sub (n := c) (fun j hj => h j (by omega))
      omega
/-- two disjoint kinds count together -/
theorem gw_cnt_add {p q r : Nat → Bool} {n : Nat} (h : ∀ j, j < n → (r j).toNat = (p j).toNat + (q j).toNat) : gw_cnt r n = gw_cnt p n + gw_cnt q n := by
  induction n with
  | zero => rfl
  | succ n ih =>
    show gw_cnt r n + (r n).toNat = (gw_cnt p n + (p n).toNat) + (gw_cnt q n + (q n).toNat)
    rw [ih (fun j hj => h j (by omega)), h n (by omega)]
    omega
theorem gw_sh_bit (b : Bool) (p i : Nat) : ((b.toNat) <<< p).testBit i = (decide (i = p) && b) := by
  rw [Nat.testBit_shiftLeft, Nat.testBit_bool_toNat]
  rcases Nat.lt_trichotomy i p with h | h | h
  · rw [decide_eq_false (show ¬ i ≥ p by omega), decide_eq_false (show ¬ i = p by omega)]; rfl
  · rw [decide_eq_true (show i ≥ p by omega), decide_eq_true h, decide_eq_true (show i - p = 0 by omega)]; rfl
  · rw [decide_eq_false (show ¬ i - p = 0 by omega), decide_eq_false (show ¬ i = p by omega)]; simp
theorem gw_sh_lt (b : Bool) (p : Nat) : b.toNat <<< p < 2 ^ (p + 1) := by
  apply Nat.lt_pow_two_of_testBit
  intro i hi
  rw [gw_sh_bit, decide_eq_false (show ¬ i = p by omega)]; rfl
theorem gw_pk_lt (q b : Nat → Bool) (n : Nat) : gw_pk q b n < 2 ^ gw_cnt q n := by
  induction n with
  | zero => exact Nat.one_pos
  | succ n ih =>
    cases hq : q n with
    | false => rw [gw_pk_f hq, gw_cnt_f hq]; exact ih
    | true =>
      rw [gw_pk_t hq, gw_cnt_t hq]
      exact Nat.or_lt_two_pow (Nat.lt_of_lt_of_le ih (Nat.pow_le_pow_right (by omega) (by omega))) (gw_sh_lt _ _)
theorem gw_pk_bit {q b : Nat → Bool} {j n : Nat} (hq : q j = true) (h : j < n) : (gw_pk q b n).testBit (gw_cnt q j) = b j := by
  induction n with
  | zero => exact absurd h (Nat.not_lt_zero _)
  | succ n ih =>
    rcases Nat.lt_or_ge j n with h1 | h1
    · cases hn : q n with
      | false => rw [gw_pk_f hn]; exact ih h1
      | true =>
        have h2 := gw_cnt_lt hq h1
        rw [gw_pk_t hn, Nat.testBit_or, ih h1, gw_sh_bit, decide_eq_false (show ¬ gw_cnt q j = gw_cnt q n by omega)]
        simp
    · have e : j = n := by omega
      subst e
      rw [gw_pk_t hq, Nat.testBit_or, gw_sh_bit, decide_eq_true rfl, Nat.testBit_lt_two_pow (gw_pk_lt q b j)]
      simp
theorem gw_num_ext {q : Nat → Bool} {a a' n : Nat} (ha : a < 2 ^ gw_cnt q n) (ha' : a' < 2 ^ gw_cnt q n) (h : ∀ j, j < n → q j = true → a.testBit (gw_cnt q j) = a'.testBit (gw_cnt q j)) : a = a' := by
  apply Nat.eq_of_testBit_eq
  intro i
  rcases Nat.lt_or_ge i (gw_cnt q n) with h1 | h1
  · obtain ⟨j, h2, h3, rfl⟩ := gw_cnt_sur h1
    exact h j h2 h3
  · rw [Nat.testBit_lt_two_pow (Nat.lt_of_lt_of_le ha (Nat.pow_le_pow_right (by omega) h1)), Nat.testBit_lt_two_pow (Nat.lt_of_lt_of_le ha' (Nat.pow_le_pow_right (by omega) h1))]
theorem gw_pk_of {q b : Nat → Bool} {a n : Nat} (ha : a < 2 ^ gw_cnt q n) (h : ∀ j, j < n → q j = true → a.testBit (gw_cnt q j) = b j) : a = gw_pk q b n :=
  gw_num_ext ha (gw_pk_lt q b n) (fun j hj hq => by rw [h j hj hq, gw_pk_bit hq hj])
theorem gw_pk_congr {q b b' : Nat → Bool} {n : Nat} (h : ∀ j, j < n → q j = true → b j = b' j) : gw_pk q b n = gw_pk q b' n :=
  gw_pk_of (gw_pk_lt q b n) (fun j hj hq => by rw [gw_pk_bit hq hj, h j hj hq])
