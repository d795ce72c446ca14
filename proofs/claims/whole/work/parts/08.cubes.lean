/-! cubes as numbers in base 3 -/
def gw_dg (c k : Nat) : Nat := c / 3 ^ k % 3
theorem gw_dg_lt (c k : Nat) : gw_dg c k < 3 := Nat.mod_lt _ (by omega)
theorem gw_p3 (k : Nat) : 0 < 3 ^ k := Nat.pow_pos (by omega)
theorem gw_dg_at {lo hi d k : Nat} (hl : lo < 3 ^ k) (hd : d < 3) : gw_dg (lo + 3 ^ k * (3 * hi + d)) k = d := by
  unfold gw_dg
  rw [Nat.add_mul_div_left _ _ (gw_p3 k), Nat.div_eq_of_lt hl]
  omega
theorem gw_dg_lo {lo q k j : Nat} (hj : j < k) : gw_dg (lo + 3 ^ k * q) j = gw_dg lo j := by
  unfold gw_dg
  have e : 3 ^ k * q = 3 ^ j * (3 * (3 ^ (k - j - 1) * q)) := by
    rw [show k = j + (1 + (k - j - 1)) by omega, Nat.pow_add, Nat.pow_add, Nat.pow_one]
    rw [show j + (1 + (k - j - 1)) - j - 1 = k - j - 1 by omega]
    simp only [Nat.mul_assoc]
  rw [e, Nat.add_mul_div_left _ _ (gw_p3 j)]
  omega
theorem gw_dg_hi {lo hi d k j : Nat} (hl : lo < 3 ^ k) (hd : d < 3) (hj : k < j) : gw_dg (lo + 3 ^ k * (3 * hi + d)) j = gw_dg hi (j - k - 1) := by
  unfold gw_dg
  have e : 3 ^ j = 3 ^ k * (3 * 3 ^ (j - k - 1)) := by
    rw [← Nat.pow_succ', ← Nat.pow_add]
    congr 1
    omega
  rw [e, ← Nat.div_div_eq_div_mul, Nat.add_mul_div_left _ _ (gw_p3 k), Nat.div_eq_of_lt hl, Nat.zero_add, ← Nat.div_div_eq_div_mul]
  rw [show (3 * hi + d) / 3 = hi by omega]
theorem gw_dg_dec (c k : Nat) : ∃ lo hi, lo < 3 ^ k ∧ c = lo + 3 ^ k * (3 * hi + gw_dg c k) := by
  refine ⟨c % 3 ^ k, c / 3 ^ k / 3, Nat.mod_lt _ (gw_p3 k), ?_⟩
  unfold gw_dg
  rw [show 3 * (c / 3 ^ k / 3) + c / 3 ^ k % 3 = c / 3 ^ k by omega]
  exact (Nat.mod_add_div c (3 ^ k)).symm
/-- two numbers that differ in their digit k alone -/
theorem gw_dg_two {lo hi d e k j : Nat} (hl : lo < 3 ^ k) (hd : d < 3) (he : e < 3) (hj : j ≠ k) : gw_dg (lo + 3 ^ k * (3 * hi + d)) j = gw_dg (lo + 3 ^ k * (3 * hi + e)) j := by
  rcases Nat.lt_or_ge j k with h | h
  · rw [gw_dg_lo h, gw_dg_lo h]
  · rw [gw_dg_hi hl hd (by omega), gw_dg_hi hl he (by omega)]
theorem gw_dg_add {c k e : Nat} (h : gw_dg c k + e < 3) : gw_dg (c + e * 3 ^ k) k = gw_dg c k + e ∧ ∀ j, j ≠ k → gw_dg (c + e * 3 ^ k) j = gw_dg c j := by
  obtain ⟨lo, hi, hl, hc⟩ := gw_dg_dec c k
  have hd := gw_dg_lt c k
  generalize gw_dg c k = d at *
  have e1 : c + e * 3 ^ k = lo + 3 ^ k * (3 * hi + (d + e)) := by
    rw [hc, ← Nat.add_assoc, Nat.mul_add (3 ^ k) (3 * hi + d) e, Nat.mul_comm e]
    omega
  rw [e1]
  refine ⟨gw_dg_at hl h, fun j hj => ?_⟩
  rw [gw_dg_two hl h hd hj, ← hc]
theorem gw_dg_sub {c k e : Nat} (h : e ≤ gw_dg c k) : e * 3 ^ k ≤ c ∧ gw_dg (c - e * 3 ^ k) k = gw_dg c k - e ∧ ∀ j, j ≠ k → gw_dg (c - e * 3 ^ k) j = gw_dg c j := by
  obtain ⟨lo, hi, hl, hc⟩ := gw_dg_dec c k
  have hd := gw_dg_lt c k
  generalize gw_dg c k = d at *
  have e1 : c = lo + 3 ^ k * (3 * hi + (d - e)) + e * 3 ^ k := by
    rw [Nat.mul_comm e, Nat.add_assoc, ← Nat.mul_add, show 3 * hi + (d - e) + e = 3 * hi + d by omega]
    exact hc
  have e2 : c - e * 3 ^ k = lo + 3 ^ k * (3 * hi + (d - e)) := by omega
  refine ⟨by omega, ?_, fun j hj => ?_⟩
  · rw [e2]; exact gw_dg_at hl (by omega)
  · rw [e2, gw_dg_two hl (by omega) hd hj, ← hc]
theorem gw_dg_top {c k e m : Nat} (hk : k < m) (hc : c < 3 ^ m) (h : gw_dg c k + e < 3) : c + e * 3 ^ k < 3 ^ m := by
  obtain ⟨lo, hi, hl, hc'⟩ := gw_dg_dec c k
  have em : 3 ^ m = 3 ^ k * (3 * 3 ^ (m - k - 1)) := by
    rw [← Nat.pow_succ', ← Nat.pow_add]
    congr 1
    omega
  rw [em] at hc ⊢
  have hd := gw_dg_lt c k
  generalize gw_dg c k = d at *
  generalize 3 ^ (m - k - 1) = M at *
  have hw : 0 < 3 ^ k := gw_p3 k
  generalize 3 ^ k = w at *
  have h1 : 3 * hi + d < 3 * M := by
    apply Nat.lt_of_mul_lt_mul_left (a := w)
    omega
  have h2 : w * (3 * hi + d + e) < w * (3 * M) := Nat.mul_lt_mul_of_pos_left (by omega) hw
  have h3 : w * (3 * hi + d + e + 1) ≤ w * (3 * M) := Nat.mul_le_mul_left w (by omega)
  have h4 : w * (3 * hi + d + e + 1) = w * (3 * hi + d) + w * e + w := by
    rw [Nat.mul_add, Nat.mul_add, Nat.mul_one]
  have h5 : e * w = w * e := Nat.mul_comm _ _
  omega
def gw_mt (m c a : Nat) : Prop := ∀ k, k < m → gw_dg c k = 2 ∨ gw_dg c k = (a.testBit k).toNat
def gw_hd (m : Nat) (T : Nat → Bool) (c : Nat) : Prop := ∀ a, a < 2 ^ m → gw_mt m c a → T a = true
theorem gw_hd_split {m k c : Nat} {T : Nat → Bool} (hk : k < m) (h2 : gw_dg c k = 2) : gw_hd m T c ↔ gw_hd m T (c - 3 ^ k) ∧ gw_hd m T (c - 2 * 3 ^ k) := by
  obtain ⟨_, p1, p2⟩ := gw_dg_sub (c := c) (k := k) (e := 1) (by omega)
  obtain ⟨_, q1, q2⟩ := gw_dg_sub (c := c) (k := k) (e := 2) (by omega)
  rw [Nat.one_mul] at p1 p2
  constructor
  · intro h
    refine ⟨fun a ha hm => h a ha (fun j hj => ?_), fun a ha hm => h a ha (fun j hj => ?_)⟩
    · by_cases e : j = k
      · subst e; exact Or.inl h2
      · rw [← p2 j e]; exact hm j hj
    · by_cases e : j = k
      · subst e; exact Or.inl h2
      · rw [← q2 j e]; exact hm j hj
  · rintro ⟨h1, h0⟩ a ha hm
    cases hb : a.testBit k with
    | true =>
      refine h1 a ha (fun j hj => ?_)
      by_cases e : j = k
      · subst e; rw [p1, h2, hb]; exact Or.inr rfl
      · rw [p2 j e]; exact hm j hj
    | false =>
      refine h0 a ha (fun j hj => ?_)
      by_cases e : j = k
      · subst e; rw [q1, h2, hb]; exact Or.inr rfl
      · rw [q2 j e]; exact hm j hj
theorem gw_cnt_all (n : Nat) : gw_cnt (fun _ => true) n = n := by
  induction n with
  | zero => rfl
  | succ n ih => rw [gw_cnt_t rfl, ih]
/-- the bits k -> dep k -/
def gw_nm (dep : Nat → Nat) (b : Nat → Bool) : Nat → Nat
  | 0 => 0
  | k + 1 => gw_nm dep b k ||| ((b k).toNat <<< dep k)
theorem gw_nm_congr {dep : Nat → Nat} {b b' : Nat → Bool} {m : Nat} (h : ∀ k, k < m → b k = b' k) : gw_nm dep b m = gw_nm dep b' m := by
  induction m with
  | zero => rfl
  | succ m ih =>
    show gw_nm dep b m ||| _ = gw_nm dep b' m ||| _
    rw [ih (fun k hk => h k (by omega)), h m (by omega)]
theorem gw_nm_lt {dep : Nat → Nat} {b : Nat → Bool} {m s : Nat} (h : ∀ k, k < m → dep k < s) : gw_nm dep b m < 2 ^ s := by
  induction m with
  | zero => exact Nat.pow_pos (by omega)
  | succ m ih =>
    have h1 := h m (by omega)
    exact Nat.or_lt_two_pow (ih (fun k hk => h k (by omega))) (Nat.lt_of_lt_of_le (gw_sh_lt _ _) (Nat.pow_le_pow_right (by omega) (by omega)))
/-- a cube with no free digit has one member -/
theorem gw_hd_full {m c : Nat} {T f : Nat → Bool} {dep : Nat → Nat} (hT : ∀ a, a < 2 ^ m → T a = f (gw_nm dep (fun k => a.testBit k) m)) (h : ∀ k, k < m → gw_dg c k ≠ 2) : gw_hd m T c ↔ f (gw_nm dep (fun k => decide (gw_dg c k = 1)) m) = true := by
  have hlt := gw_pk_lt (fun _ => true) (fun k => decide (gw_dg c k = 1)) m
  rw [gw_cnt_all] at hlt
  have hbit : ∀ k, k < m → (gw_pk (fun _ => true) (fun k => decide (gw_dg c k = 1)) m).testBit k = decide (gw_dg c k = 1) := fun k hk => by
    have := gw_pk_bit (q := fun _ => true) (b := fun k => decide (gw_dg c k = 1)) (j := k) (n := m) rfl hk
    rw [gw_cnt_all] at this
    exact this
  generalize gw_pk (fun _ => true) (fun k => decide (gw_dg c k = 1)) m = A at *
  have hn : gw_nm dep (fun k => A.testBit k) m = gw_nm dep (fun k => decide (gw_dg c k = 1)) m := gw_nm_congr hbit
  constructor
  · intro g
    have := g A hlt (fun k hk => Or.inr (by
      rw [hbit k hk]
      have h1 := h k hk
      have h2 := gw_dg_lt c k
      rcases (show gw_dg c k = 0 ∨ gw_dg c k = 1 by omega) with e | e
      · rw [e]; rfl
      · rw [e]; rfl))
    rw [hT A hlt, hn] at this
    exact this
  · intro g a ha hm
    rw [hT a ha, gw_nm_congr (b' := fun k => decide (gw_dg c k = 1))]
    · exact g
    · intro k hk
      rcases hm k hk with e | e
      · exact absurd e (h k hk)
      · show a.testBit k = _
        rw [e]
        cases a.testBit k <;> rfl
