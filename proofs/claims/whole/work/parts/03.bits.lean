/-! bits of Int32: over bt, b_ext, b_or, b_and, b_shl, b_ushr, b_sshr, s_l (kit/rows/BITS), pk_shlN (PURE-ROWS) -/
def gw_b (b : Bool) : Int32 := if b = true then 1 else 0
theorem gw_b1 (i : Nat) : bt 1 i = decide (i = 0) := by
  rcases Nat.lt_or_ge i 32 with h | h
  · exact (by decide +kernel : ∀ i, i < 32 → bt 1 i = decide (i = 0)) i h
  · rw [b_big h, decide_eq_false (by omega)]
theorem gw_b_bt (b : Bool) (i : Nat) : bt (gw_b b) i = (decide (i = 0) && b) := by
  cases b with
  | true => show bt 1 i = _; rw [gw_b1, Bool.and_true]
  | false => show bt 0 i = _; rw [b_0, Bool.and_false]
theorem gw_nIb (a : Nat) {i : Nat} (hi : i < 32) : bt (nI a) i = a.testBit i := by
  show (BitVec.ofNat 32 a).getLsbD i = _
  rw [BitVec.getLsbD_ofNat, decide_eq_true hi, Bool.true_and]
theorem gw_b_inj {a b : Bool} : gw_b a = gw_b b ↔ a = b := by
  cases a <;> cases b <;> decide
theorem gw_b_eq1 {b : Bool} : gw_b b = 1 ↔ b = true := by cases b <;> decide
theorem gw_b_eq0 {b : Bool} : gw_b b = 0 ↔ b = false := by cases b <;> decide
theorem gw_bitAt (x : Int32) {p : Nat} (hp : p < 32) : ((x.toUInt32 >>> ((nI p).toUInt32 &&& Int32.toUInt32 31)).toInt32) &&& 1 = gw_b (bt x p) := by
  apply b_ext
  intro i hi
  rw [b_and, b_ushr p hp, gw_b1, gw_b_bt]
  by_cases h : i = 0
  · subst h; rw [Nat.add_zero, Bool.and_comm]
  · rw [decide_eq_false h, Bool.and_false, Bool.false_and]
theorem gw_sbit {a p : Nat} (ha : a < 2 ^ 31) (hp : p < 32) : (nI a >>> (nI p &&& 31)) &&& 1 = gw_b (a.testBit p) := by
  apply b_ext
  intro i hi
  rw [b_and, b_sshr p hp _ hi, gw_b1, gw_b_bt]
  by_cases h : i = 0
  · subst h; rw [Nat.add_zero, if_pos hp, gw_nIb a hp, Bool.and_comm]
  · rw [decide_eq_false h, Bool.and_false, Bool.false_and]
theorem gw_orb (x : Int32) (b : Bool) {p i : Nat} (hp : p < 32) (hi : i < 32) : bt (x ||| (gw_b b <<< (nI p &&& 31))) i = (bt x i || (decide (i = p) && b)) := by
  rw [b_or, b_shl p hp _ hi, gw_b_bt]
  congr 1
  rcases Nat.lt_trichotomy i p with h | h | h
  · rw [decide_eq_false (show ¬ p ≤ i by omega), decide_eq_false (show ¬ i = p by omega)]; rfl
  · rw [decide_eq_true (show p ≤ i by omega), decide_eq_true h, decide_eq_true (show i - p = 0 by omega)]; rfl
  · rw [decide_eq_false (show ¬ i - p = 0 by omega), decide_eq_false (show ¬ i = p by omega)]; simp
theorem gw_pow {s : Nat} (hs : s < 31) : (1 : Int32) <<< (nI s &&& 31) = nI (2 ^ s) := by
  have h := pk_shlN (n := 1) (nI s &&& 31) s (s_l s (by omega)) (by
    rw [Nat.one_mul]
    exact Nat.pow_lt_pow_right (by omega) (by omega))
  rw [Nat.one_mul] at h
  exact h
theorem gw_or (A : Nat) (b : Bool) {p : Nat} (hp : p < 32) : nI A ||| (gw_b b <<< (nI p &&& 31)) = nI (A ||| (b.toNat <<< p)) := by
  apply b_ext
  intro i hi
  rw [gw_orb _ _ hp hi, gw_nIb _ hi, gw_nIb _ hi, Nat.testBit_or, gw_sh_bit]
