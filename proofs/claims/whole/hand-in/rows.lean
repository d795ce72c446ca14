section
/-! rows pasted from kit/rows -/
theorem pk_us {f : Nat → Int32} {k : Nat} {x : Int32} : upd f k x k = x := if_pos rfl
theorem pk_un {f : Nat → Int32} {k j : Nat} {x : Int32} (h : j ≠ k) : upd f k x j = f j := if_neg h
theorem pk_sub {a b : Nat} (h : b ≤ a) : nI a - nI b = nI (a - b) := by
  obtain ⟨c, rfl⟩ : ∃ c, a = c + b := ⟨a - b, by omega⟩
  rw [← nI_add, Int32.add_sub_cancel, Nat.add_sub_cancel]
theorem pk_m1 (n : Nat) : nI (n + 1) + (-1) = nI n := by
  rw [← nI_1, Int32.add_assoc, show (1 : Int32) + (-1) = 0 from rfl, Int32.add_zero]
theorem pk_mul (a b : Nat) : nI a * nI b = nI (a * b) := (Int32.ofNat_mul a b).symm
theorem pk_div {a d : Nat} (ha : a < 2 ^ 31) (h0 : 0 < d) (hd : d < 2 ^ 31) : nI a / nI d = nI (a / d) := by
  apply Int32.toInt_inj.mp
  rw [lg_idiv_nonneg (by rw [nI_toInt ha]; omega) (by rw [nI_toInt hd]; omega), nI_toInt ha, nI_toInt hd, nI_toInt (Nat.lt_of_le_of_lt (Nat.div_le_self a d) ha)]
  first | rfl | exact (Int.natCast_ediv _ _).symm
theorem pk_rem {a d : Nat} (ha : a < 2 ^ 31) (h0 : 0 < d) (hd : d < 2 ^ 31) : nI a - nI a / nI d * nI d = nI (a % d) := by
  rw [pk_div ha h0 hd, pk_mul, pk_sub (Nat.div_mul_le_self a d)]
  exact congrArg nI (by have := Nat.div_add_mod' a d; omega)
theorem pk_ix (x : Int32) {n : Nat} (hn : n < 2 ^ 31) : x < 0 ∨ nI n ≤ x ∨ ∃ j : Nat, j < n ∧ x = nI j := by
  by_cases h : x < 0
  · exact Or.inl h
  · obtain ⟨j, hj, rfl⟩ := nI_of h
    by_cases h2 : j < n
    · exact Or.inr (Or.inr ⟨j, h2, rfl⟩)
    · exact Or.inr (Or.inl (nI_le (by omega) hj))
theorem pk_le {x y : Int32} {A B : Prop} (a b : Nat) (f : a ≤ b → A) (g : b < a → B) (hx : x = nI a := by rfl) (hy : y = nI b := by rfl) (ha : a < 2 ^ 31 := by omega) (hb : b < 2 ^ 31 := by omega) : (x ≤ y → A) ∧ (¬ x ≤ y → B) := by
  subst hx hy
  rw [nI_leI ha hb]
  exact ⟨f, fun z => g (by omega)⟩
theorem pk_lt {x y : Int32} {A B : Prop} (a b : Nat) (f : a < b → A) (g : b ≤ a → B) (hx : x = nI a := by rfl) (hy : y = nI b := by rfl) (ha : a < 2 ^ 31 := by omega) (hb : b < 2 ^ 31 := by omega) : (x < y → A) ∧ (¬ x < y → B) := by
  subst hx hy
  rw [nI_ltI ha hb]
  exact ⟨f, fun z => g (by omega)⟩
theorem pk_eq {x y : Int32} {A B : Prop} (a b : Nat) (f : a = b → A) (g : a ≠ b → B) (hx : x = nI a := by rfl) (hy : y = nI b := by rfl) (ha : a < 2 ^ 31 := by omega) (hb : b < 2 ^ 31 := by omega) : (x = y → A) ∧ (¬ x = y → B) := by
  subst hx hy
  rw [nI_eq ha hb]
  exact ⟨f, g⟩
theorem pk_in {x : Int32} (n N : Nat) (h : n < N) (hx : x = nI n := by rfl) (hN : N < 2 ^ 31 := by omega) : vp_in x N := by
  subst hx
  exact vp_in_nI h hN
theorem pk_cl {x : Int32} (n : Nat) (hx : x = nI n := by rfl) (h : n < 2 ^ 31 := by omega) : x.toNatClampNeg = n := by
  subst hx
  exact nI_clamp h
theorem pk_tn {n : Nat} (h : n < 2 ^ 32) : (nI n).toBitVec.toNat = n := Nat.mod_eq_of_lt h
theorem pk_shl (a s : Int32) (k : Nat) (hs : (s.toBitVec.smod 32).toNat = k) : (a <<< s).toBitVec.toNat = a.toBitVec.toNat * 2 ^ k % 2 ^ 32 := by
  show (a.toBitVec <<< (s.toBitVec.smod 32).toNat).toNat = _
  rw [hs, BitVec.toNat_shiftLeft, Nat.shiftLeft_eq]
theorem pk_shlN {n : Nat} (s : Int32) (k : Nat) (hs : (s.toBitVec.smod 32).toNat = k) (h : n * 2 ^ k < 2 ^ 32) : nI n <<< s = nI (n * 2 ^ k) := by
  apply Int32.toBitVec_inj.mp
  apply BitVec.eq_of_toNat_eq
  have hn : n < 2 ^ 32 := Nat.lt_of_le_of_lt (Nat.le_mul_of_pos_right n (Nat.two_pow_pos k)) h
  rw [pk_shl _ _ k hs, pk_tn hn, pk_tn h, Nat.mod_eq_of_lt h]
theorem pk_shr (a s : Int32) (k : Nat) (hs : (s.toBitVec.smod 32).toNat = k) : (a >>> s).toInt = a.toInt >>> k := by
  show (a.toBitVec.sshiftRight (s.toBitVec.smod 32).toNat).toInt = _
  rw [hs, BitVec.toInt_sshiftRight]
  rfl
theorem pk_shrN {n : Nat} (h : n < 2 ^ 31) (s : Int32) (k : Nat) (hs : (s.toBitVec.smod 32).toNat = k) : nI n >>> s = nI (n / 2 ^ k) := by
  apply Int32.toInt_inj.mp
  have h2 : n / 2 ^ k ≤ n := Nat.div_le_self _ _
  rw [pk_shr _ _ k hs, nI_toInt h, nI_toInt (by omega), Int.shiftRight_eq_div_pow]
  rfl
theorem pk_loop {σ : Type} (W : Nat → Nat → σ → Prop) (I : Nat → σ → Prop) (e i0 : Nat) (s : σ) (hi : i0 ≤ e) (h0 : I i0 s) (hx : ∀ n s, I e s → W (n + 1) e s)
    (hs : ∀ n i s, i < e → I i s → (∀ s', I (i + 1) s' → W n (i + 1) s') → W (n + 1) i s) : ∃ n, W n i0 s :=
  ⟨e + 1, loop_i W I e hx hs (e + 1) i0 s hi (by omega) h0⟩
theorem pk_loopD {σ : Type} (W : Nat → Nat → σ → Prop) (I : Nat → σ → Prop) (hx : ∀ n s, I 0 s → W (n + 1) 0 s)
    (hs : ∀ n i s, I (i + 1) s → (∀ s', I i s' → W n i s') → W (n + 1) (i + 1) s) : ∀ (e : Nat) (s : σ), I e s → W (e + 1) e s := by
  intro e
  induction e with
  | zero => exact fun s h => hx 0 s h
  | succ e ih => exact fun s h => hs (e + 1) e s h (fun s' h' => ih s' h')
theorem pk_least (P : Nat → Prop) (h : ∃ k, P k) : ∃ k, P k ∧ ∀ j, j < k → ¬ P j := by
  obtain ⟨k, hk⟩ := h
  induction k using Nat.strongRecOn with
  | ind k ih =>
    by_cases e : ∃ j, j < k ∧ P j
    · obtain ⟨j, hj, pj⟩ := e
      exact ih j hj pj
    · exact ⟨k, hk, fun j hj pj => e ⟨j, hj, pj⟩⟩
def bt (x : Int32) (i : Nat) : Bool := x.toBitVec.getLsbD i
theorem b_ext {x y : Int32} (h : ∀ i, i < 32 → bt x i = bt y i) : x = y := Int32.toBitVec_inj.mp (BitVec.eq_of_getLsbD_eq (fun i hi => h i hi))
theorem b_or (x y : Int32) (i : Nat) : bt (x ||| y) i = (bt x i || bt y i) := by unfold bt; rw [Int32.toBitVec_or, BitVec.getLsbD_or]
theorem b_and (x y : Int32) (i : Nat) : bt (x &&& y) i = (bt x i && bt y i) := by unfold bt; rw [Int32.toBitVec_and, BitVec.getLsbD_and]
theorem b_xor (x y : Int32) (i : Nat) : bt (x ^^^ y) i = (bt x i ^^ bt y i) := by unfold bt; rw [Int32.toBitVec_xor, BitVec.getLsbD_xor]
theorem b_big {x : Int32} {i : Nat} (h : 32 ≤ i) : bt x i = false := BitVec.getLsbD_of_ge _ _ h
theorem b_m1 : ∀ i, i < 32 → bt (-1) i = true := by decide +kernel
theorem b_0 (i : Nat) : bt 0 i = false := BitVec.getLsbD_zero
theorem s_l : ∀ n, n < 32 → ((nI n &&& 31).toBitVec.smod 32).toNat = n := by decide +kernel
theorem s_u : ∀ n, n < 32 → (((nI n).toUInt32 &&& Int32.toUInt32 31).toBitVec % 32).toNat = n := by decide +kernel
theorem b_shl (n : Nat) (hn : n < 32) (x : Int32) {i : Nat} (hi : i < 32) : bt (x <<< (nI n &&& 31)) i = (decide (n ≤ i) && bt x (i - n)) := by
  unfold bt
  rw [Int32.toBitVec_shiftLeft]
  show (x.toBitVec <<< ((nI n &&& 31).toBitVec.smod 32).toNat).getLsbD i = _
  rw [s_l n hn, BitVec.getLsbD_shiftLeft]
  rcases Nat.lt_or_ge i n with h | h
  · simp [h, Nat.not_le.mpr h]
  · simp [hi, h, Nat.not_lt.mpr h]
theorem b_ushr (n : Nat) (hn : n < 32) (x : Int32) (i : Nat) : bt ((x.toUInt32 >>> ((nI n).toUInt32 &&& Int32.toUInt32 31)).toInt32) i = bt x (n + i) := by
  show (x.toUInt32 >>> ((nI n).toUInt32 &&& Int32.toUInt32 31)).toBitVec.getLsbD i = x.toUInt32.toBitVec.getLsbD (n + i)
  rw [UInt32.toBitVec_shiftRight]
  show (x.toUInt32.toBitVec >>> (((nI n).toUInt32 &&& Int32.toUInt32 31).toBitVec % 32).toNat).getLsbD i = _
  rw [s_u n hn, BitVec.getLsbD_ushiftRight]
theorem b_sshr (n : Nat) (hn : n < 32) (x : Int32) {i : Nat} (hi : i < 32) : bt (x >>> (nI n &&& 31)) i = if n + i < 32 then bt x (n + i) else bt x 31 := by
  unfold bt
  rw [Int32.toBitVec_shiftRight]
  show (x.toBitVec.sshiftRight ((nI n &&& 31).toBitVec.smod 32).toNat).getLsbD i = _
  rw [s_l n hn, BitVec.getLsbD_sshiftRight, BitVec.msb_eq_getLsbD_last]
  simp [hi]
theorem nx_and (a b : Nat) : nI a &&& nI b = nI (a &&& b) := by
  apply Int32.toBitVec_inj.1
  show BitVec.ofNat 32 a &&& BitVec.ofNat 32 b = BitVec.ofNat 32 (a &&& b)
  apply BitVec.eq_of_getLsbD_eq
  intro i hi
  simp [hi]
theorem nx_xor (a b : Nat) : nI a ^^^ nI b = nI (a ^^^ b) := by
  apply Int32.toBitVec_inj.1
  show BitVec.ofNat 32 a ^^^ BitVec.ofNat 32 b = BitVec.ofNat 32 (a ^^^ b)
  apply BitVec.eq_of_getLsbD_eq
  intro i hi
  simp [hi]
end
section
/-! counting and packing: gw_cnt q n of the nets below n have q; gw_pk q b n packs b of them, in order -/
def gw_cnt (q : Nat → Bool) : Nat → Nat
  | 0 => 0
  | n + 1 => gw_cnt q n + (q n).toNat
def gw_pk (q b : Nat → Bool) : Nat → Nat
  | 0 => 0
  | n + 1 => if q n = true then gw_pk q b n ||| ((b n).toNat <<< gw_cnt q n) else gw_pk q b n
theorem gw_cnt_t {q : Nat → Bool} {n : Nat} (h : q n = true) : gw_cnt q (n + 1) = gw_cnt q n + 1 := by
  show gw_cnt q n + (q n).toNat = _
  rw [h]; rfl
theorem gw_cnt_f {q : Nat → Bool} {n : Nat} (h : q n = false) : gw_cnt q (n + 1) = gw_cnt q n := by
  show gw_cnt q n + (q n).toNat = _
  rw [h]; rfl
theorem gw_pk_t {q b : Nat → Bool} {n : Nat} (h : q n = true) : gw_pk q b (n + 1) = gw_pk q b n ||| ((b n).toNat <<< gw_cnt q n) := by
  show (if q n = true then _ else _) = _
  rw [if_pos h]
theorem gw_pk_f {q b : Nat → Bool} {n : Nat} (h : q n = false) : gw_pk q b (n + 1) = gw_pk q b n := by
  show (if q n = true then _ else _) = _
  rw [if_neg (by rw [h]; exact Bool.false_ne_true)]
theorem gw_cnt_s (q : Nat → Bool) (n : Nat) : gw_cnt q n ≤ gw_cnt q (n + 1) := Nat.le_add_right _ _
theorem gw_cnt_mono {q : Nat → Bool} {m n : Nat} (h : m ≤ n) : gw_cnt q m ≤ gw_cnt q n := by
  induction n with
  | zero => rw [Nat.le_zero.mp h]; exact Nat.le_refl _
  | succ n ih =>
    rcases Nat.lt_or_ge n m with h1 | h1
    · rw [show m = n + 1 by omega]; exact Nat.le_refl _
    · exact Nat.le_trans (ih h1) (gw_cnt_s q n)
theorem gw_cnt_lt {q : Nat → Bool} {j n : Nat} (hq : q j = true) (h : j < n) : gw_cnt q j < gw_cnt q n := by
  have h1 : gw_cnt q (j + 1) ≤ gw_cnt q n := gw_cnt_mono h
  rw [gw_cnt_t hq] at h1
  exact h1
theorem gw_cnt_inj {q : Nat → Bool} {i j : Nat} (hi : q i = true) (hj : q j = true) (h : gw_cnt q i = gw_cnt q j) : i = j := by
  rcases Nat.lt_trichotomy i j with h1 | h1 | h1
  · have := gw_cnt_lt hi h1; omega
  · exact h1
  · have := gw_cnt_lt hj h1; omega
theorem gw_cnt_sur {q : Nat → Bool} {i n : Nat} (h : i < gw_cnt q n) : ∃ j, j < n ∧ q j = true ∧ gw_cnt q j = i := by
  induction n with
  | zero => exact absurd h (Nat.not_lt_zero _)
  | succ n ih =>
    cases hq : q n with
    | false =>
      rw [gw_cnt_f hq] at h
      obtain ⟨j, h1, h2, h3⟩ := ih h
      exact ⟨j, by omega, h2, h3⟩
    | true =>
      rw [gw_cnt_t hq] at h
      rcases Nat.lt_or_ge i (gw_cnt q n) with h1 | h1
      · obtain ⟨j, h1, h2, h3⟩ := ih h1
        exact ⟨j, by omega, h2, h3⟩
      · exact ⟨n, by omega, hq, by omega⟩
theorem gw_cnt_le (q : Nat → Bool) (n : Nat) : gw_cnt q n ≤ n := by
  induction n with
  | zero => exact Nat.le_refl _
  | succ n ih =>
    cases hq : q n with
    | false => rw [gw_cnt_f hq]; omega
    | true => rw [gw_cnt_t hq]; omega
theorem gw_cnt_congr {p q : Nat → Bool} {n : Nat} (h : ∀ j, j < n → p j = q j) : gw_cnt p n = gw_cnt q n := by
  induction n with
  | zero => rfl
  | succ n ih =>
    show gw_cnt p n + (p n).toNat = gw_cnt q n + (q n).toNat
    rw [ih (fun j hj => h j (by omega)), h n (by omega)]
/-- more of them have q than p, if p gives q and one has q without p -/
theorem gw_cnt_sub {p q : Nat → Bool} {n : Nat} (h : ∀ j, j < n → p j = true → q j = true) : gw_cnt p n ≤ gw_cnt q n := by
  induction n with
  | zero => exact Nat.le_refl _
  | succ n ih =>
    have h0 := ih (fun j hj => h j (by omega))
    cases hp : p n with
    | false => rw [gw_cnt_f hp]; exact Nat.le_trans h0 (gw_cnt_s q n)
    | true => rw [gw_cnt_t hp, gw_cnt_t (h n (by omega) hp)]; omega
theorem gw_cnt_ssub {p q : Nat → Bool} {n c : Nat} (h : ∀ j, j < n → p j = true → q j = true) (hc : c < n) (hp : p c = false) (hq : q c = true) : gw_cnt p n < gw_cnt q n := by
  induction n with
  | zero => exact absurd hc (Nat.not_lt_zero _)
  | succ n ih =>
    rcases Nat.lt_or_ge c n with h1 | h1
    · have h0 := ih (fun j hj => h j (by omega)) h1
      cases hp' : p n with
      | false => rw [gw_cnt_f hp']; exact Nat.lt_of_lt_of_le h0 (gw_cnt_s q n)
      | true => rw [gw_cnt_t hp', gw_cnt_t (h n (by omega) hp')]; omega
    · have e : c = n := by omega
      subst e
      rw [gw_cnt_f hp, gw_cnt_t hq]
      have := gw_cnt_sub (n := c) (fun j hj => h j (by omega))
      omega
/-- two disjoint kinds count together -/
theorem gw_cnt_add {p q r : Nat → Bool} {n : Nat} (h : ∀ j, j < n → (r j).toNat = (p j).toNat + (q j).toNat) : gw_cnt r n = gw_cnt p n + gw_cnt q n := by
  induction n with
  | zero => rfl
  | succ n ih =>
    show gw_cnt r n + (r n).toNat = (gw_cnt p n + (p n).toNat) + (gw_cnt q n + (q n).toNat)
    rw [ih (fun j hj => h j (by omega)), h n (by omega)]
    omega
theorem gw_sh_bit (b : Bool) (p i : Nat) : ((b.toNat) <<< p).testBit i = (decide (i = p) && b) := by
  rw [Nat.testBit_shiftLeft, Nat.testBit_bool_toNat]
  rcases Nat.lt_trichotomy i p with h | h | h
  · rw [decide_eq_false (show ¬ i ≥ p by omega), decide_eq_false (show ¬ i = p by omega)]; rfl
  · rw [decide_eq_true (show i ≥ p by omega), decide_eq_true h, decide_eq_true (show i - p = 0 by omega)]; rfl
  · rw [decide_eq_false (show ¬ i - p = 0 by omega), decide_eq_false (show ¬ i = p by omega)]; simp
theorem gw_sh_lt (b : Bool) (p : Nat) : b.toNat <<< p < 2 ^ (p + 1) := by
  apply Nat.lt_pow_two_of_testBit
  intro i hi
  rw [gw_sh_bit, decide_eq_false (show ¬ i = p by omega)]; rfl
theorem gw_pk_lt (q b : Nat → Bool) (n : Nat) : gw_pk q b n < 2 ^ gw_cnt q n := by
  induction n with
  | zero => exact Nat.one_pos
  | succ n ih =>
    cases hq : q n with
    | false => rw [gw_pk_f hq, gw_cnt_f hq]; exact ih
    | true =>
      rw [gw_pk_t hq, gw_cnt_t hq]
      exact Nat.or_lt_two_pow (Nat.lt_of_lt_of_le ih (Nat.pow_le_pow_right (by omega) (by omega))) (gw_sh_lt _ _)
theorem gw_pk_bit {q b : Nat → Bool} {j n : Nat} (hq : q j = true) (h : j < n) : (gw_pk q b n).testBit (gw_cnt q j) = b j := by
  induction n with
  | zero => exact absurd h (Nat.not_lt_zero _)
  | succ n ih =>
    rcases Nat.lt_or_ge j n with h1 | h1
    · cases hn : q n with
      | false => rw [gw_pk_f hn]; exact ih h1
      | true =>
        have h2 := gw_cnt_lt hq h1
        rw [gw_pk_t hn, Nat.testBit_or, ih h1, gw_sh_bit, decide_eq_false (show ¬ gw_cnt q j = gw_cnt q n by omega)]
        simp
    · have e : j = n := by omega
      subst e
      rw [gw_pk_t hq, Nat.testBit_or, gw_sh_bit, decide_eq_true rfl, Nat.testBit_lt_two_pow (gw_pk_lt q b j)]
      simp
theorem gw_num_ext {q : Nat → Bool} {a a' n : Nat} (ha : a < 2 ^ gw_cnt q n) (ha' : a' < 2 ^ gw_cnt q n) (h : ∀ j, j < n → q j = true → a.testBit (gw_cnt q j) = a'.testBit (gw_cnt q j)) : a = a' := by
  apply Nat.eq_of_testBit_eq
  intro i
  rcases Nat.lt_or_ge i (gw_cnt q n) with h1 | h1
  · obtain ⟨j, h2, h3, rfl⟩ := gw_cnt_sur h1
    exact h j h2 h3
  · rw [Nat.testBit_lt_two_pow (Nat.lt_of_lt_of_le ha (Nat.pow_le_pow_right (by omega) h1)), Nat.testBit_lt_two_pow (Nat.lt_of_lt_of_le ha' (Nat.pow_le_pow_right (by omega) h1))]
theorem gw_pk_of {q b : Nat → Bool} {a n : Nat} (ha : a < 2 ^ gw_cnt q n) (h : ∀ j, j < n → q j = true → a.testBit (gw_cnt q j) = b j) : a = gw_pk q b n :=
  gw_num_ext ha (gw_pk_lt q b n) (fun j hj hq => by rw [h j hj hq, gw_pk_bit hq hj])
theorem gw_pk_congr {q b b' : Nat → Bool} {n : Nat} (h : ∀ j, j < n → q j = true → b j = b' j) : gw_pk q b n = gw_pk q b' n :=
  gw_pk_of (gw_pk_lt q b n) (fun j hj hq => by rw [gw_pk_bit hq hj, h j hj hq])
end
section
/-! bits of Int32: over bt, b_ext, b_or, b_and, b_shl, b_ushr, b_sshr, s_l (kit/rows/BITS), pk_shlN (PURE-ROWS) -/
def gw_b (b : Bool) : Int32 := if b = true then 1 else 0
theorem gw_b1 (i : Nat) : bt 1 i = decide (i = 0) := by
  rcases Nat.lt_or_ge i 32 with h | h
  · exact (by decide +kernel : ∀ i, i < 32 → bt 1 i = decide (i = 0)) i h
  · rw [b_big h, decide_eq_false (by omega)]
theorem gw_b_bt (b : Bool) (i : Nat) : bt (gw_b b) i = (decide (i = 0) && b) := by
  cases b with
  | true => show bt 1 i = _; rw [gw_b1, Bool.and_true]
  | false => show bt 0 i = _; rw [b_0, Bool.and_false]
theorem gw_nIb (a : Nat) {i : Nat} (hi : i < 32) : bt (nI a) i = a.testBit i := by
  show (BitVec.ofNat 32 a).getLsbD i = _
  rw [BitVec.getLsbD_ofNat, decide_eq_true hi, Bool.true_and]
theorem gw_b_inj {a b : Bool} : gw_b a = gw_b b ↔ a = b := by
  cases a <;> cases b <;> decide
theorem gw_b_eq1 {b : Bool} : gw_b b = 1 ↔ b = true := by cases b <;> decide
theorem gw_b_eq0 {b : Bool} : gw_b b = 0 ↔ b = false := by cases b <;> decide
theorem gw_bitAt (x : Int32) {p : Nat} (hp : p < 32) : ((x.toUInt32 >>> ((nI p).toUInt32 &&& Int32.toUInt32 31)).toInt32) &&& 1 = gw_b (bt x p) := by
  apply b_ext
  intro i hi
  rw [b_and, b_ushr p hp, gw_b1, gw_b_bt]
  by_cases h : i = 0
  · subst h; rw [Nat.add_zero, Bool.and_comm]
  · rw [decide_eq_false h, Bool.and_false, Bool.false_and]
theorem gw_sbit {a p : Nat} (ha : a < 2 ^ 31) (hp : p < 32) : (nI a >>> (nI p &&& 31)) &&& 1 = gw_b (a.testBit p) := by
  apply b_ext
  intro i hi
  rw [b_and, b_sshr p hp _ hi, gw_b1, gw_b_bt]
  by_cases h : i = 0
  · subst h; rw [Nat.add_zero, if_pos hp, gw_nIb a hp, Bool.and_comm]
  · rw [decide_eq_false h, Bool.and_false, Bool.false_and]
theorem gw_orb (x : Int32) (b : Bool) {p i : Nat} (hp : p < 32) (hi : i < 32) : bt (x ||| (gw_b b <<< (nI p &&& 31))) i = (bt x i || (decide (i = p) && b)) := by
  rw [b_or, b_shl p hp _ hi, gw_b_bt]
  congr 1
  rcases Nat.lt_trichotomy i p with h | h | h
  · rw [decide_eq_false (show ¬ p ≤ i by omega), decide_eq_false (show ¬ i = p by omega)]; rfl
  · rw [decide_eq_true (show p ≤ i by omega), decide_eq_true h, decide_eq_true (show i - p = 0 by omega)]; rfl
  · rw [decide_eq_false (show ¬ i - p = 0 by omega), decide_eq_false (show ¬ i = p by omega)]; simp
theorem gw_pow {s : Nat} (hs : s < 31) : (1 : Int32) <<< (nI s &&& 31) = nI (2 ^ s) := by
  have h := pk_shlN (n := 1) (nI s &&& 31) s (s_l s (by omega)) (by
    rw [Nat.one_mul]
    exact Nat.pow_lt_pow_right (by omega) (by omega))
  rw [Nat.one_mul] at h
  exact h
theorem gw_or (A : Nat) (b : Bool) {p : Nat} (hp : p < 32) : nI A ||| (gw_b b <<< (nI p &&& 31)) = nI (A ||| (b.toNat <<< p)) := by
  apply b_ext
  intro i hi
  rw [gw_orb _ _ hp hi, gw_nIb _ hi, gw_nIb _ hi, Nat.testBit_or, gw_sh_bit]
end
section
/-! pigeons; iteration; the first repetition -/
theorem gw_pig : ∀ (N : Nat) (f : Nat → Nat), (∀ i, i ≤ N → f i < N) → ∃ i j, i < j ∧ j ≤ N ∧ f i = f j := by
  intro N
  induction N with
  | zero => intro f h; exact absurd (h 0 (Nat.le_refl _)) (Nat.not_lt_zero _)
  | succ N ih =>
    intro f h
    by_cases hv : ∃ i, i ≤ N ∧ f i = f (N + 1)
    · obtain ⟨i, h1, h2⟩ := hv
      exact ⟨i, N + 1, by omega, Nat.le_refl _, h2⟩
    · have hne : ∀ i, i ≤ N → f i ≠ f (N + 1) := fun i hi e => hv ⟨i, hi, e⟩
      have hl := h (N + 1) (Nat.le_refl _)
      obtain ⟨i, j, h1, h2, h3⟩ := ih (fun i => if f (N + 1) < f i then f i - 1 else f i) (fun i hi => by
        have h1 := hne i hi
        have h2 := h i (by omega)
        show (if f (N + 1) < f i then f i - 1 else f i) < N
        split <;> omega)
      have h4 := hne i (by omega)
      have h5 := hne j h2
      refine ⟨i, j, h1, by omega, ?_⟩
      have h6 : (if f (N + 1) < f i then f i - 1 else f i) = (if f (N + 1) < f j then f j - 1 else f j) := h3
      split at h6 <;> split at h6 <;> omega
def gw_it (F : Nat → Nat) : Nat → Nat → Nat
  | 0, c => c
  | n + 1, c => F (gw_it F n c)
theorem gw_it_in {F : Nat → Nat} {N : Nat} (hF : ∀ c, c < N → F c < N) {c : Nat} (hc : c < N) : ∀ n, gw_it F n c < N := by
  intro n
  induction n with
  | zero => exact hc
  | succ n ih => exact hF _ ih
theorem gw_it_add (F : Nat → Nat) (c : Nat) : ∀ m n, gw_it F (n + m) c = gw_it F n (gw_it F m c) := by
  intro m n
  induction n with
  | zero => rw [Nat.zero_add]; rfl
  | succ n ih => rw [show n + 1 + m = (n + m) + 1 by omega]; show F _ = F _; rw [ih]
/-- t0 < t1 is the first repetition of the sequence from c -/
def gw_Rho (F : Nat → Nat) (c t0 t1 : Nat) : Prop := t0 < t1 ∧ gw_it F t0 c = gw_it F t1 c ∧ ∀ i j, i < j → j < t1 → gw_it F i c ≠ gw_it F j c
theorem gw_rho_le {F : Nat → Nat} {N c t0 t1 : Nat} (hF : ∀ c, c < N → F c < N) (hc : c < N) (h : gw_Rho F c t0 t1) : t1 ≤ N := by
  apply Nat.le_of_not_lt
  intro hn
  obtain ⟨i, j, h1, h2, h3⟩ := gw_pig N (fun i => gw_it F i c) (fun i _ => gw_it_in hF hc i)
  exact h.2.2 i j h1 (by omega) h3
theorem gw_rho_p {F : Nat → Nat} {c t0 t1 : Nat} (h : gw_Rho F c t0 t1) : ∀ n, t0 ≤ n → gw_it F (n + (t1 - t0)) c = gw_it F n c := by
  intro n hn
  have h0 := h.1
  have e1 : n + (t1 - t0) = (n - t0) + t1 := by omega
  have e2 : gw_it F n c = gw_it F ((n - t0) + t0) c := by rw [show (n - t0) + t0 = n by omega]
  rw [e1, e2, gw_it_add, gw_it_add, h.2.1]
theorem gw_rho_m {F : Nat → Nat} {c t0 t1 : Nat} (h : gw_Rho F c t0 t1) : ∀ k n, t0 ≤ n → gw_it F (n + k * (t1 - t0)) c = gw_it F n c := by
  intro k n hn
  induction k with
  | zero => rw [Nat.zero_mul, Nat.add_zero]
  | succ k ih =>
    rw [Nat.succ_mul, ← Nat.add_assoc, gw_rho_p h _ (by omega), ih]
theorem gw_rho_r {F : Nat → Nat} {c t0 t1 : Nat} (h : gw_Rho F c t0 t1) {n : Nat} (hn : t0 ≤ n) : gw_it F (t0 + (n - t0) % (t1 - t0)) c = gw_it F n c := by
  have e := gw_rho_m h ((n - t0) / (t1 - t0)) (t0 + (n - t0) % (t1 - t0)) (by omega)
  rw [← e]
  have e2 := Nat.mod_add_div (n - t0) (t1 - t0)
  rw [Nat.mul_comm] at e2
  rw [show t0 + (n - t0) % (t1 - t0) + (n - t0) / (t1 - t0) * (t1 - t0) = n by omega]
theorem gw_rho_e {F : Nat → Nat} {c t0 t1 : Nat} (h : gw_Rho F c t0 t1) {i j : Nat} (hi : t0 ≤ i) (hj : t0 ≤ j) (e : gw_it F i c = gw_it F j c) : (i - t0) % (t1 - t0) = (j - t0) % (t1 - t0) := by
  have h0 := h.1
  have p : 0 < t1 - t0 := by omega
  rw [← gw_rho_r h hi, ← gw_rho_r h hj] at e
  have hi' := Nat.mod_lt (i - t0) p
  have hj' := Nat.mod_lt (j - t0) p
  rcases Nat.lt_trichotomy ((i - t0) % (t1 - t0)) ((j - t0) % (t1 - t0)) with g | g | g
  · exact absurd e (h.2.2 _ _ (by omega) (by omega))
  · exact g
  · exact absurd e.symm (h.2.2 _ _ (by omega) (by omega))
/-- from any place on the cycle, the period is the least number of steps back to it -/
theorem gw_rho_min {F : Nat → Nat} {c t0 t1 u j : Nat} (h : gw_Rho F c t0 t1) (hu : t0 ≤ u) (h1 : 0 < j) (h2 : j < t1 - t0) : gw_it F (u + j) c ≠ gw_it F u c := by
  intro e
  have g := gw_rho_e h (i := u + j) (j := u) (by omega) hu e
  rw [show u + j - t0 = (u - t0) + j by omega] at g
  have g1 : ((u - t0) + j) % (t1 - t0) = ((u - t0) % (t1 - t0) + j) % (t1 - t0) := by rw [Nat.mod_add_mod]
  rw [g1] at g
  have h3 := Nat.mod_lt (u - t0) (show 0 < t1 - t0 by omega)
  generalize (u - t0) % (t1 - t0) = r at *
  generalize t1 - t0 = p at *
  rcases Nat.lt_or_ge (r + j) p with g2 | g2
  · rw [Nat.mod_eq_of_lt g2] at g; omega
  · rw [Nat.mod_eq_sub_mod g2, Nat.mod_eq_of_lt (by omega)] at g; omega
/-- the tail is the least place from which the period leads back -/
theorem gw_rho_tail {F : Nat → Nat} {c t0 t1 u : Nat} (h : gw_Rho F c t0 t1) (hu : u < t0) : gw_it F u c ≠ gw_it F (u + (t1 - t0)) c := by
  have h0 := h.1
  exact h.2.2 u (u + (t1 - t0)) (by omega) (by omega)
theorem gw_rho_tail0 {F : Nat → Nat} {c t0 t1 : Nat} (h : gw_Rho F c t0 t1) : gw_it F t0 c = gw_it F (t0 + (t1 - t0)) c := by
  have h0 := h.1
  rw [show t0 + (t1 - t0) = t1 by omega]
  exact h.2.1
/-- there is one, and not beyond N -/
theorem gw_rho_ex {F : Nat → Nat} {N c : Nat} (hF : ∀ c, c < N → F c < N) (hc : c < N) : ∃ t0 t1, gw_Rho F c t0 t1 := by
  have key : ∀ n, (∀ i j, i < j → j < n → gw_it F i c ≠ gw_it F j c) ∨ ∃ t0 t1, gw_Rho F c t0 t1 := by
    intro n
    induction n with
    | zero => exact Or.inl (fun i j _ h => absurd h (Nat.not_lt_zero _))
    | succ n ih =>
      rcases ih with h | h
      · by_cases g : ∃ i, i < n ∧ gw_it F i c = gw_it F n c
        · obtain ⟨i, h1, h2⟩ := g
          exact Or.inr ⟨i, n, h1, h2, h⟩
        · refine Or.inl (fun i j h1 h2 => ?_)
          rcases Nat.lt_or_ge j n with h3 | h3
          · exact h i j h1 h3
          · have e : j = n := by omega
            subst e
            exact fun e => g ⟨i, h1, e⟩
      · exact Or.inr h
  rcases key (N + 1) with h | h
  · obtain ⟨i, j, h1, h2, h3⟩ := gw_pig N (fun i => gw_it F i c) (fun i _ => gw_it_in hF hc i)
    exact absurd h3 (h i j h1 (by omega))
  · exact h
end
section
/-! the pure circuit: kinds K, operands X Y Z (as both sides hold them) -/
def gw_sk (K : Nat → Int32) (n : Nat) : Bool := decide (K n = 0 ∨ K n = 1)
def gw_rk (K : Nat → Int32) (n : Nat) : Bool := decide (K n = 1)
def gw_ik (K : Nat → Int32) (n : Nat) : Bool := decide (K n = 0)
/-- what a gate n answers, its operands having the values v -/
def gw_gate (K X Y Z : Nat → Int32) (v : Nat → Bool) (n : Nat) : Bool :=
  if K n = 2 then decide (X n = 1)
  else if K n = 3 then !(v (X n).toNatClampNeg)
  else if K n = 4 then (v (X n).toNatClampNeg && v (Y n).toNatClampNeg)
  else if K n = 5 then (v (X n).toNatClampNeg || v (Y n).toNatClampNeg)
  else if K n = 6 then (v (X n).toNatClampNeg ^^ v (Y n).toNatClampNeg)
  else if v (X n).toNatClampNeg = true then v (Y n).toNatClampNeg else v (Z n).toNatClampNeg
/-- the values of the nets below n: the sources have s; net f is held at o -/
def gw_ev (K X Y Z : Nat → Int32) (s : Nat → Bool) (f : Nat) (o : Bool) : Nat → Nat → Bool
  | 0 => fun _ => false
  | n + 1 => fun j => if j = n then (if n = f then o else if gw_sk K n = true then s n else gw_gate K X Y Z (gw_ev K X Y Z s f o n) n) else gw_ev K X Y Z s f o n j
section
variable {K X Y Z : Nat → Int32} {s s' : Nat → Bool} {f : Nat} {o : Bool}
theorem gw_ev_at {n : Nat} : gw_ev K X Y Z s f o (n + 1) n = (if n = f then o else if gw_sk K n = true then s n else gw_gate K X Y Z (gw_ev K X Y Z s f o n) n) := by
  show (if n = n then _ else _) = _
  rw [if_pos rfl]
theorem gw_ev_ne {n j : Nat} (h : j ≠ n) : gw_ev K X Y Z s f o (n + 1) j = gw_ev K X Y Z s f o n j := by
  show (if j = n then _ else _) = _
  rw [if_neg h]
theorem gw_ev_st {j n m : Nat} (h1 : j < n) (h2 : n ≤ m) : gw_ev K X Y Z s f o m j = gw_ev K X Y Z s f o n j := by
  induction m with
  | zero => exact absurd (Nat.lt_of_lt_of_le h1 h2) (Nat.not_lt_zero _)
  | succ m ih =>
    rcases Nat.lt_or_ge m n with h | h
    · rw [show n = m + 1 by omega]
    · rw [gw_ev_ne (by omega), ih h]
theorem gw_ev_hi {j n : Nat} (h : n ≤ j) : gw_ev K X Y Z s f o n j = false := by
  induction n with
  | zero => rfl
  | succ n ih => rw [gw_ev_ne (by omega), ih (by omega)]
theorem gw_ev_congr {n : Nat} (h : ∀ j, j < n → gw_sk K j = true → s j = s' j) : gw_ev K X Y Z s f o n = gw_ev K X Y Z s' f o n := by
  induction n with
  | zero => rfl
  | succ n ih =>
    have e := ih (fun j hj => h j (by omega))
    funext j
    by_cases hj : j = n
    · subst hj
      rw [gw_ev_at, gw_ev_at, e]
      by_cases hf : j = f
      · rw [if_pos hf, if_pos hf]
      · rw [if_neg hf, if_neg hf]
        by_cases hs : gw_sk K j = true
        · rw [if_pos hs, if_pos hs, h j (by omega) hs]
        · rw [if_neg hs, if_neg hs]
    · rw [gw_ev_ne hj, gw_ev_ne hj, e]
theorem gw_ev_src {j n : Nat} (h : j < n) (hf : j ≠ f) (hs : gw_sk K j = true) : gw_ev K X Y Z s f o n j = s j := by
  rw [gw_ev_st (n := j + 1) (by omega) h, gw_ev_at, if_neg hf, if_pos hs]
end
/-- the source values of assignment a, and of configuration c with inputs w -/
def gw_sa (K : Nat → Int32) (a n : Nat) : Bool := a.testBit (gw_cnt (gw_sk K) n)
def gw_sc (K : Nat → Int32) (w c n : Nat) : Bool := if gw_rk K n = true then c.testBit (gw_cnt (gw_rk K) n) else w.testBit (gw_cnt (gw_ik K) n)
/-- configuration and inputs of assignment a; the assignment of both -/
def gw_co (K : Nat → Int32) (m a : Nat) : Nat := gw_pk (gw_rk K) (gw_sa K a) m
def gw_of (K : Nat → Int32) (m a : Nat) : Nat := gw_pk (gw_ik K) (gw_sa K a) m
def gw_jn (K : Nat → Int32) (m w c : Nat) : Nat := gw_pk (gw_sk K) (gw_sc K w c) m
theorem gw_rk_sk {K : Nat → Int32} {n : Nat} (h : gw_rk K n = true) : gw_sk K n = true := by
  unfold gw_rk at h
  unfold gw_sk
  exact decide_eq_true (Or.inr (of_decide_eq_true h))
theorem gw_ik_sk {K : Nat → Int32} {n : Nat} (h : gw_ik K n = true) : gw_sk K n = true := by
  unfold gw_ik at h
  unfold gw_sk
  exact decide_eq_true (Or.inl (of_decide_eq_true h))
theorem gw_ik_rk {K : Nat → Int32} {n : Nat} (h : gw_ik K n = true) : gw_rk K n = false := by
  unfold gw_ik at h
  unfold gw_rk
  apply decide_eq_false
  rw [of_decide_eq_true h]
  decide
theorem gw_sk_or {K : Nat → Int32} {n : Nat} (h : gw_sk K n = true) : gw_rk K n = true ∨ gw_ik K n = true := by
  unfold gw_sk at h
  unfold gw_rk gw_ik
  rcases of_decide_eq_true h with e | e
  · exact Or.inr (decide_eq_true e)
  · exact Or.inl (decide_eq_true e)
theorem gw_cnt_sri (K : Nat → Int32) (n : Nat) : gw_cnt (gw_sk K) n = gw_cnt (gw_rk K) n + gw_cnt (gw_ik K) n := by
  apply gw_cnt_add
  intro j _
  cases hr : gw_rk K j with
  | true =>
    rw [gw_rk_sk hr]
    cases hi : gw_ik K j with
    | true => rw [gw_ik_rk hi] at hr; exact absurd hr Bool.false_ne_true
    | false => rfl
  | false =>
    cases hi : gw_ik K j with
    | true => rw [gw_ik_sk hi]; rfl
    | false =>
      cases hs : gw_sk K j with
      | true => rcases gw_sk_or hs with e | e <;> simp_all
      | false => rfl
theorem gw_co_lt (K : Nat → Int32) (m a : Nat) : gw_co K m a < 2 ^ gw_cnt (gw_rk K) m := gw_pk_lt _ _ _
theorem gw_of_lt (K : Nat → Int32) (m a : Nat) : gw_of K m a < 2 ^ gw_cnt (gw_ik K) m := gw_pk_lt _ _ _
theorem gw_jn_lt (K : Nat → Int32) (m w c : Nat) : gw_jn K m w c < 2 ^ gw_cnt (gw_sk K) m := gw_pk_lt _ _ _
/-- an assignment's source values are those of its configuration and its inputs -/
theorem gw_sc_a {K : Nat → Int32} {m a n : Nat} (hn : n < m) (hs : gw_sk K n = true) : gw_sc K (gw_of K m a) (gw_co K m a) n = gw_sa K a n := by
  unfold gw_sc
  rcases gw_sk_or hs with h | h
  · rw [if_pos h]; exact gw_pk_bit h hn
  · rw [if_neg (by rw [gw_ik_rk h]; exact Bool.false_ne_true)]; exact gw_pk_bit h hn
theorem gw_sa_j {K : Nat → Int32} {m w c n : Nat} (hn : n < m) (hs : gw_sk K n = true) : gw_sa K (gw_jn K m w c) n = gw_sc K w c n := gw_pk_bit hs hn
theorem gw_co_j {K : Nat → Int32} {m w c : Nat} (hc : c < 2 ^ gw_cnt (gw_rk K) m) : gw_co K m (gw_jn K m w c) = c := by
  refine (gw_pk_of hc (fun j hj hq => ?_)).symm
  rw [gw_sa_j hj (gw_rk_sk hq)]
  unfold gw_sc
  rw [if_pos hq]
theorem gw_of_j {K : Nat → Int32} {m w c : Nat} (hw : w < 2 ^ gw_cnt (gw_ik K) m) : gw_of K m (gw_jn K m w c) = w := by
  refine (gw_pk_of hw (fun j hj hq => ?_)).symm
  rw [gw_sa_j hj (gw_ik_sk hq)]
  unfold gw_sc
  rw [if_neg (by rw [gw_ik_rk hq]; exact Bool.false_ne_true)]
theorem gw_jn_a {K : Nat → Int32} {m a : Nat} (ha : a < 2 ^ gw_cnt (gw_sk K) m) : gw_jn K m (gw_of K m a) (gw_co K m a) = a :=
  (gw_pk_of ha (fun _ hj hq => (gw_sc_a hj hq).symm)).symm
/-- value of net j with source values s, among m nets -/
def gw_v (K X Y Z : Nat → Int32) (m : Nat) (s : Nat → Bool) (j : Nat) : Bool := gw_ev K X Y Z s 32 false m j
/-- a tick: the configuration after, with source values s; what net shows -/
def gw_tk (K X Y Z F : Nat → Int32) (m : Nat) (s : Nat → Bool) : Nat := gw_pk (gw_rk K) (fun n => gw_v K X Y Z m s (F n).toNatClampNeg) m
def gw_stp (K X Y Z F : Nat → Int32) (m w c : Nat) : Nat := gw_tk K X Y Z F m (gw_sc K w c)
def gw_sh (K X Y Z : Nat → Int32) (m net w c : Nat) : Bool := gw_v K X Y Z m (gw_sc K w c) net
theorem gw_stp_lt (K X Y Z F : Nat → Int32) (m w c : Nat) : gw_stp K X Y Z F m w c < 2 ^ gw_cnt (gw_rk K) m := gw_pk_lt _ _ _
theorem gw_v_congr {K X Y Z : Nat → Int32} {m : Nat} {s s' : Nat → Bool} (h : ∀ j, j < m → gw_sk K j = true → s j = s' j) : gw_v K X Y Z m s = gw_v K X Y Z m s' := by
  funext j
  unfold gw_v
  rw [gw_ev_congr h]
theorem gw_tk_congr {K X Y Z F : Nat → Int32} {m : Nat} {s s' : Nat → Bool} (h : ∀ j, j < m → gw_sk K j = true → s j = s' j) : gw_tk K X Y Z F m s = gw_tk K X Y Z F m s' := by
  unfold gw_tk
  rw [gw_v_congr h]
theorem gw_stp_a {K X Y Z F : Nat → Int32} {m a : Nat} : gw_stp K X Y Z F m (gw_of K m a) (gw_co K m a) = gw_tk K X Y Z F m (gw_sa K a) :=
  gw_tk_congr (fun _ hj hs => gw_sc_a hj hs)
theorem gw_sh_a {K X Y Z : Nat → Int32} {m net a : Nat} : gw_sh K X Y Z m net (gw_of K m a) (gw_co K m a) = gw_v K X Y Z m (gw_sa K a) net := by
  unfold gw_sh
  rw [gw_v_congr (fun _ hj hs => gw_sc_a hj hs)]
end
section
/-! which configurations can come, and when: over any relation of edges within N -/
def gw_R (E : Nat → Nat → Prop) : Nat → Nat → Prop
  | 0, c => c = 0
  | t + 1, c => ∃ c', gw_R E t c' ∧ E c' c
def gw_D (E : Nat → Nat → Prop) (c t : Nat) : Prop := gw_R E t c ∧ ∀ s, s < t → ¬ gw_R E s c
theorem gw_D_u {E : Nat → Nat → Prop} {c s t : Nat} (h : gw_D E c s) (g : gw_D E c t) : s = t := by
  rcases Nat.lt_trichotomy s t with e | e | e
  · exact absurd h.1 (g.2 s e)
  · exact e
  · exact absurd g.1 (h.2 t e)
theorem gw_D_of {E : Nat → Nat → Prop} {c t : Nat} (h : gw_R E t c) : ∃ s, s ≤ t ∧ gw_D E c s := by
  obtain ⟨s, h1, h2⟩ := pk_least (fun s => gw_R E s c) ⟨t, h⟩
  refine ⟨s, ?_, h1, h2⟩
  apply Nat.le_of_not_lt
  intro g
  exact h2 t g h
theorem gw_D_0 {E : Nat → Nat → Prop} {c : Nat} : gw_D E c 0 ↔ c = 0 :=
  ⟨fun h => h.1, fun h => ⟨h, fun s hs => absurd hs (Nat.not_lt_zero _)⟩⟩
theorem gw_D_p {E : Nat → Nat → Prop} {c t : Nat} (h : gw_D E c (t + 1)) : ∃ c', gw_D E c' t ∧ E c' c := by
  obtain ⟨c', h1, h2⟩ := h.1
  obtain ⟨s, h3, h4⟩ := gw_D_of h1
  rcases Nat.lt_or_ge s t with g | g
  · exact absurd ⟨c', h4.1, h2⟩ (h.2 (s + 1) (by omega))
  · have e : s = t := by omega
    subst e
    exact ⟨c', h4, h2⟩
theorem gw_D_low {E : Nat → Nat → Prop} {t : Nat} : ∀ c, gw_D E c t → ∀ s, s ≤ t → ∃ c', gw_D E c' s := by
  induction t with
  | zero => intro c h s hs; exact ⟨c, by rw [Nat.le_zero.mp hs]; exact h⟩
  | succ t ih =>
    intro c h s hs
    rcases Nat.lt_or_ge t s with g | g
    · exact ⟨c, by rw [show s = t + 1 by omega]; exact h⟩
    · obtain ⟨c', h1, _⟩ := gw_D_p h
      exact ih c' h1 s g
theorem gw_R_in {E : Nat → Nat → Prop} {N : Nat} (h0 : 0 < N) (hE : ∀ c c', E c c' → c' < N) : ∀ t c, gw_R E t c → c < N := by
  intro t c h
  cases t with
  | zero => rw [show c = 0 from h]; exact h0
  | succ t => obtain ⟨c', _, h2⟩ := h; exact hE _ _ h2
theorem gw_D_lt {E : Nat → Nat → Prop} {N c t : Nat} (h0 : 0 < N) (hE : ∀ c c', E c c' → c' < N) (h : gw_D E c t) : t < N := by
  apply Nat.lt_of_not_le
  intro g
  have ex : ∀ s, s ≤ N → ∃ c', gw_D E c' s := fun s hs => gw_D_low c h s (by omega)
  have key : ∃ f : Nat → Nat, ∀ s, s ≤ N → gw_D E (f s) s := by
    refine ⟨fun s => if hs : s ≤ N then (ex s hs).choose else 0, fun s hs => ?_⟩
    show gw_D E (if hs : s ≤ N then (ex s hs).choose else 0) s
    rw [dif_pos hs]
    exact (ex s hs).choose_spec
  obtain ⟨f, hf⟩ := key
  obtain ⟨i, j, h1, h2, h3⟩ := gw_pig N f (fun i hi => gw_R_in h0 hE i _ (hf i hi).1)
  have hi := hf i (by omega)
  rw [h3] at hi
  have := gw_D_u hi (hf j h2)
  omega
/-- a table within a round: what came up to t stands; of what comes at t + 1, that which the edges P reach -/
def gw_RS (E : Nat → Nat → Prop) (N t : Nat) (P : Nat → Nat → Prop) (a : Nat → Int32) : Prop :=
  ∀ c, c < N → (∀ s, s ≤ t → gw_D E c s → a c = nI s) ∧ ((∀ s, s ≤ t → ¬ gw_D E c s) → ((∃ c', gw_D E c' t ∧ P c' c) → a c = nI (t + 1)) ∧ ((¬ ∃ c', gw_D E c' t ∧ P c' c) → a c = -1))
theorem gw_RS_0 {E : Nat → Nat → Prop} {N : Nat} {a : Nat → Int32} (h0 : a 0 = 0) (h : ∀ c, c < N → c ≠ 0 → a c = -1) : gw_RS E N 0 (fun _ _ => False) a := by
  intro c hc
  refine ⟨fun s hs hd => ?_, fun hn => ⟨fun ⟨_, _, f⟩ => f.elim, fun _ => ?_⟩⟩
  · have e : s = 0 := by omega
    subst e
    rw [gw_D_0.mp hd, h0]; rfl
  · exact h c hc (fun e => hn 0 (Nat.le_refl _) (gw_D_0.mpr e))
theorem gw_m1 {n : Nat} (h : n < 2 ^ 31) : nI n ≠ -1 := by
  intro e
  have h1 := nI_toInt h
  rw [e] at h1
  have h2 : (-1 : Int32).toInt = -1 := by decide
  omega
theorem gw_RS_D {E : Nat → Nat → Prop} {N t c : Nat} {P : Nat → Nat → Prop} {a : Nat → Int32} (h : gw_RS E N t P a) (ht : t + 1 < 2 ^ 31) (hc : c < N) (e : a c = nI t) : gw_D E c t := by
  obtain ⟨h1, h2⟩ := h c hc
  by_cases g : ∃ s, s ≤ t ∧ gw_D E c s
  · obtain ⟨s, hs, hd⟩ := g
    have := h1 s hs hd
    rw [e, nI_eq (by omega) (by omega)] at this
    rw [this]; exact hd
  · have h3 := h2 (fun s hs hd => g ⟨s, hs, hd⟩)
    by_cases g2 : ∃ c', gw_D E c' t ∧ P c' c
    · have := h3.1 g2
      rw [e, nI_eq (by omega) (by omega)] at this
      omega
    · have := h3.2 g2
      rw [e] at this
      exact absurd this (gw_m1 (by omega))
theorem gw_RS_more {E : Nat → Nat → Prop} {N t : Nat} {P Q : Nat → Nat → Prop} {a : Nat → Int32} (h : gw_RS E N t P a) (h1 : ∀ c c', P c c' → Q c c') (h2 : ∀ c c', c' < N → Q c c' → gw_D E c t → P c c' ∨ a c' ≠ -1) : gw_RS E N t Q a := by
  intro c hc
  obtain ⟨g1, g2⟩ := h c hc
  refine ⟨g1, fun hn => ?_⟩
  have g3 := g2 hn
  refine ⟨fun ⟨c', hd, hq⟩ => ?_, fun hq => g3.2 (fun ⟨c', hd, hp⟩ => hq ⟨c', hd, h1 _ _ hp⟩)⟩
  rcases h2 c' c hc hq hd with hp | hp
  · exact g3.1 ⟨c', hd, hp⟩
  · by_cases g4 : ∃ c', gw_D E c' t ∧ P c' c
    · exact g3.1 g4
    · exact absurd (g3.2 g4) hp
/-- an edge from where the table hasn't t adds nothing -/
theorem gw_RS_skip {E : Nat → Nat → Prop} {N t c d : Nat} {P : Nat → Nat → Prop} {a : Nat → Int32} (h : gw_RS E N t P a) (hc : c < N) (e : a c ≠ nI t) : gw_RS E N t (fun x y => P x y ∨ (x = c ∧ y = d)) a := by
  refine gw_RS_more h (fun _ _ => Or.inl) (fun x y hy hq hd => ?_)
  rcases hq with hp | ⟨rfl, rfl⟩
  · exact Or.inl hp
  · exact absurd ((h x hc).1 t (Nat.le_refl _) hd) e
theorem gw_RS_have {E : Nat → Nat → Prop} {N t c d : Nat} {P : Nat → Nat → Prop} {a : Nat → Int32} (h : gw_RS E N t P a) (e : a d ≠ -1) : gw_RS E N t (fun x y => P x y ∨ (x = c ∧ y = d)) a := by
  refine gw_RS_more h (fun _ _ => Or.inl) (fun x y hy hq hd => ?_)
  rcases hq with hp | ⟨rfl, rfl⟩
  · exact Or.inl hp
  · exact Or.inr e
theorem gw_RS_mark {E : Nat → Nat → Prop} {N t c d : Nat} {P : Nat → Nat → Prop} {a : Nat → Int32} (h : gw_RS E N t P a) (ht : t + 1 < 2 ^ 31) (hc : c < N) (hd : d < N) (e : a c = nI t) (e2 : a d = -1) : gw_RS E N t (fun x y => P x y ∨ (x = c ∧ y = d)) (upd a d (nI (t + 1))) := by
  have hD := gw_RS_D h ht hc e
  intro x hx
  obtain ⟨g1, g2⟩ := h x hx
  by_cases hxd : x = d
  · subst hxd
    have hn : ∀ s, s ≤ t → ¬ gw_D E x s := fun s hs hds => by
      have := g1 s hs hds
      rw [e2] at this
      exact gw_m1 (show s < 2 ^ 31 by omega) this.symm
    refine ⟨fun s hs hds => absurd hds (hn s hs), fun _ => ⟨fun _ => pk_us, fun hq => absurd ⟨c, hD, Or.inr ⟨rfl, rfl⟩⟩ hq⟩⟩
  · refine ⟨fun s hs hds => by rw [pk_un hxd]; exact g1 s hs hds, fun hn => ?_⟩
    rw [pk_un hxd]
    have g3 := g2 hn
    refine ⟨fun ⟨c', h1, h2⟩ => ?_, fun hq => g3.2 (fun ⟨c', h1, h2⟩ => hq ⟨c', h1, Or.inl h2⟩)⟩
    rcases h2 with h2 | ⟨_, h2⟩
    · exact g3.1 ⟨c', h1, h2⟩
    · exact absurd h2 hxd
theorem gw_RS_congr {E : Nat → Nat → Prop} {N t : Nat} {P Q : Nat → Nat → Prop} {a : Nat → Int32} (h : gw_RS E N t P a) (h1 : ∀ c c', P c c' → Q c c') (h2 : ∀ c c', c' < N → gw_D E c t → Q c c' → P c c') : gw_RS E N t Q a :=
  gw_RS_more h h1 (fun x y hy hq hd => Or.inl (h2 x y hy hd hq))
theorem gw_RS_next {E : Nat → Nat → Prop} {N t : Nat} {a : Nat → Int32} (h : gw_RS E N t E a) : gw_RS E N (t + 1) (fun _ _ => False) a := by
  intro c hc
  obtain ⟨g1, g2⟩ := h c hc
  refine ⟨fun s hs hd => ?_, fun hn => ⟨fun ⟨_, _, f⟩ => f.elim, fun _ => ?_⟩⟩
  · rcases Nat.lt_or_ge t s with g | g
    · have e : s = t + 1 := by omega
      subst e
      refine (g2 (fun s hs hd' => ?_)).1 (gw_D_p hd)
      have := gw_D_u hd hd'
      omega
    · exact g1 s g hd
  · refine (g2 (fun s hs => hn s (by omega))).2 (fun ⟨c', h1, h2⟩ => ?_)
    obtain ⟨s, h3, h4⟩ := gw_D_of (E := E) (c := c) (t := t + 1) ⟨c', h1.1, h2⟩
    exact hn s h3 h4
/-- the finished table -/
def gw_Fin (E : Nat → Nat → Prop) (N : Nat) (a : Nat → Int32) : Prop :=
  ∀ c, c < N → (∀ s, gw_D E c s → a c = nI s) ∧ ((∀ s, ¬ gw_D E c s) → a c = -1)
theorem gw_Fin_N {E : Nat → Nat → Prop} {N t : Nat} {a : Nat → Int32} (h0 : 0 < N) (hE : ∀ c c', E c c' → c' < N) (ht : N ≤ t + 1) (h : gw_RS E N t (fun _ _ => False) a) : gw_Fin E N a := by
  intro c hc
  obtain ⟨g1, g2⟩ := h c hc
  refine ⟨fun s hd => g1 s (by have := gw_D_lt h0 hE hd; omega) hd, fun hn => (g2 (fun s _ => hn s)).2 (fun ⟨_, _, f⟩ => f)⟩
theorem gw_D_stop {E : Nat → Nat → Prop} {t : Nat} (h : ∀ c, ¬ gw_D E c (t + 1)) {c s : Nat} (hd : gw_D E c s) : s ≤ t := by
  apply Nat.le_of_not_lt
  intro g
  obtain ⟨c', h1⟩ := gw_D_low c hd (t + 1) (by omega)
  exact h c' h1
/-- a round that marked nothing is the last -/
theorem gw_Fin_stop {E : Nat → Nat → Prop} {N t : Nat} {a : Nat → Int32} (h0 : 0 < N) (hE : ∀ c c', E c c' → c' < N) (ht : t + 1 < 2 ^ 31) (h : gw_RS E N t E a) (hm : ∀ c, c < N → a c ≠ nI (t + 1)) : gw_Fin E N a := by
  have hno : ∀ c, ¬ gw_D E c (t + 1) := fun c hd => by
    have hc := gw_R_in h0 hE _ _ hd.1
    exact hm c hc (((gw_RS_next h) c hc).1 (t + 1) (Nat.le_refl _) hd)
  intro c hc
  obtain ⟨g1, g2⟩ := h c hc
  refine ⟨fun s hd => g1 s (gw_D_stop hno hd) hd, fun hn => (g2 (fun s _ => hn s)).2 (fun ⟨c', h1, h2⟩ => ?_)⟩
  obtain ⟨s, _, h4⟩ := gw_D_of (E := E) (c := c) (t := t + 1) ⟨c', h1.1, h2⟩
  exact hn s h4
theorem gw_Fin_u {E : Nat → Nat → Prop} {N : Nat} {a b : Nat → Int32} (ha : gw_Fin E N a) (hb : gw_Fin E N b) {c : Nat} (hc : c < N) : a c = b c := by
  obtain ⟨a1, a2⟩ := ha c hc
  obtain ⟨b1, b2⟩ := hb c hc
  by_cases g : ∃ s, gw_D E c s
  · obtain ⟨s, hs⟩ := g
    rw [a1 s hs, b1 s hs]
  · rw [a2 (fun s hs => g ⟨s, hs⟩), b2 (fun s hs => g ⟨s, hs⟩)]
/-- what stands there is a natural number below N, or -1 -/
theorem gw_Fin_v {E : Nat → Nat → Prop} {N : Nat} {a : Nat → Int32} (h0 : 0 < N) (hE : ∀ c c', E c c' → c' < N) (ha : gw_Fin E N a) {c : Nat} (hc : c < N) : a c = -1 ∨ ∃ s, s < N ∧ a c = nI s := by
  obtain ⟨a1, a2⟩ := ha c hc
  by_cases g : ∃ s, gw_D E c s
  · obtain ⟨s, hs⟩ := g
    exact Or.inr ⟨s, gw_D_lt h0 hE hs, a1 s hs⟩
  · exact Or.inl (a2 (fun s hs => g ⟨s, hs⟩))
end
section
/-! how soon two configurations are apart: labels w below L, stp w c the step, sh w c what is shown -/
def gw_A (L : Nat) (stp : Nat → Nat → Nat) (sh : Nat → Nat → Bool) : Nat → Nat → Nat → Prop
  | 0, c, d => ∃ w, w < L ∧ sh w c ≠ sh w d
  | t + 1, c, d => ∃ w, w < L ∧ gw_A L stp sh t (stp w c) (stp w d)
theorem gw_A_irr {L : Nat} {stp : Nat → Nat → Nat} {sh : Nat → Nat → Bool} : ∀ t c, ¬ gw_A L stp sh t c c := by
  intro t
  induction t with
  | zero => intro c ⟨w, _, h⟩; exact h rfl
  | succ t ih => intro c ⟨w, _, h⟩; exact ih _ h
theorem gw_A_sym {L : Nat} {stp : Nat → Nat → Nat} {sh : Nat → Nat → Bool} : ∀ t c d, gw_A L stp sh t c d → gw_A L stp sh t d c := by
  intro t
  induction t with
  | zero => intro c d ⟨w, hw, h⟩; exact ⟨w, hw, fun e => h e.symm⟩
  | succ t ih => intro c d ⟨w, hw, h⟩; exact ⟨w, hw, ih _ _ h⟩
theorem gw_A_tr {L : Nat} {stp : Nat → Nat → Nat} {sh : Nat → Nat → Bool} : ∀ t c d e, gw_A L stp sh t c e → gw_A L stp sh t c d ∨ gw_A L stp sh t d e := by
  intro t
  induction t with
  | zero =>
    intro c d e ⟨w, hw, h⟩
    by_cases g : sh w c = sh w d
    · exact Or.inr ⟨w, hw, fun g2 => h (g.trans g2)⟩
    · exact Or.inl ⟨w, hw, g⟩
  | succ t ih =>
    intro c d e ⟨w, hw, h⟩
    rcases ih _ (stp w d) _ h with g | g
    · exact Or.inl ⟨w, hw, g⟩
    · exact Or.inr ⟨w, hw, g⟩
/-- t is the least -/
def gw_B (L : Nat) (stp : Nat → Nat → Nat) (sh : Nat → Nat → Bool) (c d t : Nat) : Prop := gw_A L stp sh t c d ∧ ∀ s, s < t → ¬ gw_A L stp sh s c d
section
variable {L : Nat} {stp : Nat → Nat → Nat} {sh : Nat → Nat → Bool}
theorem gw_B_u {c d s t : Nat} (h : gw_B L stp sh c d s) (g : gw_B L stp sh c d t) : s = t := by
  rcases Nat.lt_trichotomy s t with e | e | e
  · exact absurd h.1 (g.2 s e)
  · exact e
  · exact absurd g.1 (h.2 t e)
theorem gw_B_of {c d t : Nat} (h : gw_A L stp sh t c d) : ∃ s, s ≤ t ∧ gw_B L stp sh c d s := by
  obtain ⟨s, h1, h2⟩ := pk_least (fun s => gw_A L stp sh s c d) ⟨t, h⟩
  refine ⟨s, ?_, h1, h2⟩
  apply Nat.le_of_not_lt
  intro g
  exact h2 t g h
theorem gw_B_sym {c d t : Nat} (h : gw_B L stp sh c d t) : gw_B L stp sh d c t :=
  ⟨gw_A_sym _ _ _ h.1, fun s hs g => h.2 s hs (gw_A_sym _ _ _ g)⟩
theorem gw_B_irr {c t : Nat} : ¬ gw_B L stp sh c c t := fun h => gw_A_irr _ _ h.1
theorem gw_B_p {c d t : Nat} (h : gw_B L stp sh c d (t + 1)) : ∃ w, w < L ∧ gw_B L stp sh (stp w c) (stp w d) t := by
  obtain ⟨w, hw, h1⟩ := h.1
  refine ⟨w, hw, h1, fun s hs g => h.2 (s + 1) (by omega) ⟨w, hw, g⟩⟩
theorem gw_B_low {N : Nat} (hN : ∀ w c, w < L → c < N → stp w c < N) {t : Nat} : ∀ c d, c < N → d < N → gw_B L stp sh c d t → ∀ s, s ≤ t → ∃ c' d', c' < N ∧ d' < N ∧ gw_B L stp sh c' d' s := by
  induction t with
  | zero => intro c d hc hd h s hs; exact ⟨c, d, hc, hd, by rw [Nat.le_zero.mp hs]; exact h⟩
  | succ t ih =>
    intro c d hc hd h s hs
    rcases Nat.lt_or_ge t s with g | g
    · exact ⟨c, d, hc, hd, by rw [show s = t + 1 by omega]; exact h⟩
    · obtain ⟨w, hw, h1⟩ := gw_B_p h
      exact ih _ _ (hN w c hw hc) (hN w d hw hd) h1 s g
/-- not apart within t -/
def gw_Q (L : Nat) (stp : Nat → Nat → Nat) (sh : Nat → Nat → Bool) (t c d : Nat) : Prop := ∀ s, s ≤ t → ¬ gw_A L stp sh s c d
theorem gw_Q_r {t c : Nat} : gw_Q L stp sh t c c := fun s _ => gw_A_irr s c
theorem gw_Q_s {t c d : Nat} (h : gw_Q L stp sh t c d) : gw_Q L stp sh t d c := fun s hs g => h s hs (gw_A_sym _ _ _ g)
theorem gw_Q_t {t c d e : Nat} (h : gw_Q L stp sh t c d) (g : gw_Q L stp sh t d e) : gw_Q L stp sh t c e := fun s hs a => by
  rcases gw_A_tr s c d e a with b | b
  · exact h s hs b
  · exact g s hs b
theorem gw_Q_m {t c d : Nat} (h : gw_Q L stp sh (t + 1) c d) : gw_Q L stp sh t c d := fun s hs => h s (by omega)
noncomputable def gw_ld (L : Nat) (stp : Nat → Nat → Nat) (sh : Nat → Nat → Bool) (t c : Nat) : Bool :=
  @decide (∀ d, d < c → ¬ gw_Q L stp sh t d c) (Classical.propDecidable _)
theorem gw_ld_t {t c : Nat} : gw_ld L stp sh t c = true ↔ ∀ d, d < c → ¬ gw_Q L stp sh t d c := by
  unfold gw_ld
  exact @decide_eq_true_iff _ (Classical.propDecidable _)
theorem gw_ld_low {t c : Nat} : ∃ e, e ≤ c ∧ gw_Q L stp sh t e c ∧ gw_ld L stp sh t e = true := by
  obtain ⟨e, h1, h2⟩ := pk_least (fun e => gw_Q L stp sh t e c) ⟨c, gw_Q_r⟩
  refine ⟨e, ?_, h1, gw_ld_t.mpr (fun d hd g => h2 d hd (gw_Q_t g h1))⟩
  apply Nat.le_of_not_lt
  intro g
  exact h2 c g gw_Q_r
theorem gw_ld_more {N t c d : Nat} (hc : c < N) (hd : d < N) (h : gw_B L stp sh c d (t + 1)) : gw_cnt (gw_ld L stp sh t) N < gw_cnt (gw_ld L stp sh (t + 1)) N := by
  obtain ⟨c1, c2, c3, c4⟩ := gw_ld_low (L := L) (stp := stp) (sh := sh) (t := t + 1) (c := c)
  obtain ⟨d1, d2, d3, d4⟩ := gw_ld_low (L := L) (stp := stp) (sh := sh) (t := t + 1) (c := d)
  have hq : gw_Q L stp sh t c d := fun s hs => h.2 s (by omega)
  have h1 : gw_Q L stp sh t c1 d1 := gw_Q_t (gw_Q_m c3) (gw_Q_t hq (gw_Q_s (gw_Q_m d3)))
  have hne : c1 ≠ d1 := fun e => by
    subst e
    exact gw_Q_t (gw_Q_s c3) d3 (t + 1) (Nat.le_refl _) h.1
  have hsub : ∀ j, j < N → gw_ld L stp sh t j = true → gw_ld L stp sh (t + 1) j = true := fun j _ hj =>
    gw_ld_t.mpr (fun e he g => gw_ld_t.mp hj e he (gw_Q_m g))
  rcases Nat.lt_or_ge c1 d1 with g | g
  · refine gw_cnt_ssub hsub (show d1 < N by omega) ?_ d4
    cases hl : gw_ld L stp sh t d1 with
    | false => rfl
    | true => exact absurd h1 (gw_ld_t.mp hl c1 g)
  · refine gw_cnt_ssub hsub (show c1 < N by omega) ?_ c4
    cases hl : gw_ld L stp sh t c1 with
    | false => rfl
    | true => exact absurd (gw_Q_s h1) (gw_ld_t.mp hl d1 (by omega))
/-- so nothing is apart after N ticks or more that wasn't before -/
theorem gw_B_lt {N : Nat} (hN : ∀ w c, w < L → c < N → stp w c < N) {c d t : Nat} (hc : c < N) (hd : d < N) (h : gw_B L stp sh c d t) : t < N := by
  have key : ∀ s, s ≤ t → s + 1 ≤ gw_cnt (gw_ld L stp sh s) N := by
    intro s
    induction s with
    | zero =>
      intro _
      have h0 : gw_ld L stp sh 0 0 = true := gw_ld_t.mpr (fun d hd => absurd hd (Nat.not_lt_zero _))
      have := gw_cnt_lt h0 (show 0 < N by omega)
      omega
    | succ s ih =>
      intro hs
      have h1 := ih (by omega)
      obtain ⟨c', d', hc', hd', h2⟩ := gw_B_low hN c d hc hd h (s + 1) hs
      have := gw_ld_more hc' hd' h2
      omega
  have h1 := key t (Nat.le_refl _)
  have h2 := gw_cnt_le (gw_ld L stp sh t) N
  omega
end
/-- a table of pairs d < c within a round: what is apart before t stands; of what is apart at t, the pairs in P -/
def gw_AS (L : Nat) (stp : Nat → Nat → Nat) (sh : Nat → Nat → Bool) (N t : Nat) (P : Nat → Nat → Prop) (a : Nat → Int32) : Prop :=
  ∀ c d, d < c → c < N → (∀ s, s < t → gw_B L stp sh c d s → a (c * 64 + d) = nI s) ∧ ((∀ s, s < t → ¬ gw_B L stp sh c d s) → (P c d → gw_B L stp sh c d t → a (c * 64 + d) = nI t) ∧ (¬ (P c d ∧ gw_B L stp sh c d t) → a (c * 64 + d) = -1))
section
variable {L : Nat} {stp : Nat → Nat → Nat} {sh : Nat → Nat → Bool}
theorem gw_AS_0 {N : Nat} {a : Nat → Int32} (h : ∀ c d, d < c → c < N → a (c * 64 + d) = -1) : gw_AS L stp sh N 0 (fun _ _ => False) a :=
  fun c d h1 h2 => ⟨fun s hs => absurd hs (Nat.not_lt_zero _), fun _ => ⟨fun f => f.elim, fun _ => h c d h1 h2⟩⟩
theorem gw_AS_cases {N t c d : Nat} {P : Nat → Nat → Prop} {a : Nat → Int32} (h : gw_AS L stp sh N t P a) (h1 : d < c) (h2 : c < N) : (∃ s, s < t ∧ gw_B L stp sh c d s ∧ a (c * 64 + d) = nI s) ∨ (P c d ∧ gw_B L stp sh c d t ∧ a (c * 64 + d) = nI t) ∨ ((∀ s, s < t → ¬ gw_B L stp sh c d s) ∧ ¬ (P c d ∧ gw_B L stp sh c d t) ∧ a (c * 64 + d) = -1) := by
  obtain ⟨g1, g2⟩ := h c d h1 h2
  by_cases g : ∃ s, s < t ∧ gw_B L stp sh c d s
  · obtain ⟨s, hs, hb⟩ := g
    exact Or.inl ⟨s, hs, hb, g1 s hs hb⟩
  · have hn : ∀ s, s < t → ¬ gw_B L stp sh c d s := fun s hs hb => g ⟨s, hs, hb⟩
    have g3 := g2 hn
    by_cases gp : P c d ∧ gw_B L stp sh c d t
    · exact Or.inr (Or.inl ⟨gp.1, gp.2, g3.1 gp.1 gp.2⟩)
    · exact Or.inr (Or.inr ⟨hn, gp, g3.2 gp⟩)
theorem gw_AS_val {N t c d s : Nat} {P : Nat → Nat → Prop} {a : Nat → Int32} (h : gw_AS L stp sh N t P a) (ht : t < 2 ^ 31) (h1 : d < c) (h2 : c < N) (hs : s < t) : a (c * 64 + d) = nI s ↔ gw_B L stp sh c d s := by
  refine ⟨fun e => ?_, fun hb => (h c d h1 h2).1 s hs hb⟩
  rcases gw_AS_cases h h1 h2 with ⟨s', hs', hb, e'⟩ | ⟨_, hb, e'⟩ | ⟨_, _, e'⟩
  · rw [e, nI_eq (by omega) (by omega)] at e'
    rw [e']; exact hb
  · rw [e, nI_eq (by omega) (by omega)] at e'
    omega
  · rw [e] at e'
    exact absurd e' (gw_m1 (by omega))
theorem gw_AS_neg {N t c d : Nat} {P : Nat → Nat → Prop} {a : Nat → Int32} (h : gw_AS L stp sh N t P a) (ht : t < 2 ^ 31) (h1 : d < c) (h2 : c < N) (e : a (c * 64 + d) = -1) : (∀ s, s < t → ¬ gw_B L stp sh c d s) ∧ ¬ (P c d ∧ gw_B L stp sh c d t) := by
  rcases gw_AS_cases h h1 h2 with ⟨s', hs', hb, e'⟩ | ⟨_, hb, e'⟩ | ⟨hn, hp, _⟩
  · rw [e] at e'
    exact absurd e'.symm (gw_m1 (by omega))
  · rw [e] at e'
    exact absurd e'.symm (gw_m1 (by omega))
  · exact ⟨hn, hp⟩
theorem gw_pair {c d c' d' : Nat} (h1 : d < 64) (h2 : d' < 64) (h : c * 64 + d = c' * 64 + d') : c = c' ∧ d = d' := by omega
theorem gw_AS_mark {N t c d : Nat} {P : Nat → Nat → Prop} {a : Nat → Int32} (hN : N ≤ 64) (h : gw_AS L stp sh N t P a) (ht : t < 2 ^ 31) (h1 : d < c) (h2 : c < N) (e : a (c * 64 + d) = -1) (hb : gw_B L stp sh c d t) : gw_AS L stp sh N t (fun x y => P x y ∨ (x = c ∧ y = d)) (upd a (c * 64 + d) (nI t)) := by
  intro x y hx hy
  by_cases g : x = c ∧ y = d
  · obtain ⟨rfl, rfl⟩ := g
    refine ⟨fun s hs hb' => ?_, fun _ => ⟨fun _ _ => pk_us, fun hn => absurd ⟨Or.inr ⟨rfl, rfl⟩, hb⟩ hn⟩⟩
    have := gw_B_u hb hb'
    omega
  · have hne : x * 64 + y ≠ c * 64 + d := fun e' => g (gw_pair (by omega) (by omega) e')
    obtain ⟨g1, g2⟩ := h x y hx hy
    rw [pk_un hne]
    refine ⟨g1, fun hn => ⟨fun hp hb' => ?_, fun hp => (g2 hn).2 (fun hp' => hp ⟨Or.inl hp'.1, hp'.2⟩)⟩⟩
    rcases hp with hp | hp
    · exact (g2 hn).1 hp hb'
    · exact absurd hp g
theorem gw_AS_skip {N t c d : Nat} {P : Nat → Nat → Prop} {a : Nat → Int32} (h : gw_AS L stp sh N t P a) (h1 : d < c) (h2 : c < N) (e : a (c * 64 + d) ≠ -1 ∨ ¬ gw_B L stp sh c d t) : gw_AS L stp sh N t (fun x y => P x y ∨ (x = c ∧ y = d)) a := by
  intro x y hx hy
  obtain ⟨g1, g2⟩ := h x y hx hy
  refine ⟨g1, fun hn => ⟨fun hp hb => ?_, fun hp => (g2 hn).2 (fun hp' => hp ⟨Or.inl hp'.1, hp'.2⟩)⟩⟩
  rcases hp with hp | ⟨rfl, rfl⟩
  · exact (g2 hn).1 hp hb
  · rcases e with e | e
    · rcases gw_AS_cases h h1 h2 with ⟨s', hs', hb', e'⟩ | ⟨hp, hb, e'⟩ | ⟨_, _, e'⟩
      · exact absurd hb' (hn s' hs')
      · exact e'
      · exact absurd e' e
    · exact absurd hb e
theorem gw_AS_congr {N t : Nat} {P Q : Nat → Nat → Prop} {a : Nat → Int32} (h : gw_AS L stp sh N t P a) (hpq : ∀ c d, d < c → c < N → (P c d ↔ Q c d)) : gw_AS L stp sh N t Q a := by
  intro x y hx hy
  obtain ⟨g1, g2⟩ := h x y hx hy
  refine ⟨g1, fun hn => ⟨fun hp => (g2 hn).1 ((hpq x y hx hy).mpr hp), fun hp => (g2 hn).2 (fun hp' => hp ⟨(hpq x y hx hy).mp hp'.1, hp'.2⟩)⟩⟩
theorem gw_AS_next {N t : Nat} {P : Nat → Nat → Prop} {a : Nat → Int32} (h : gw_AS L stp sh N t P a) (hP : ∀ c d, d < c → c < N → P c d) : gw_AS L stp sh N (t + 1) (fun _ _ => False) a := by
  intro x y hx hy
  obtain ⟨g1, g2⟩ := h x y hx hy
  refine ⟨fun s hs hb => ?_, fun hn => ⟨fun f => f.elim, fun _ => ?_⟩⟩
  · rcases Nat.lt_or_ge s t with g | g
    · exact g1 s g hb
    · have e : s = t := by omega
      subst e
      refine (g2 (fun s' hs' hb' => ?_)).1 (hP x y hx hy) hb
      have := gw_B_u hb hb'
      omega
  · exact (g2 (fun s hs => hn s (by omega))).2 (fun hp => hn t (by omega) hp.2)
def gw_AF (L : Nat) (stp : Nat → Nat → Nat) (sh : Nat → Nat → Bool) (N : Nat) (a : Nat → Int32) : Prop :=
  ∀ c d, d < c → c < N → (∀ s, gw_B L stp sh c d s → a (c * 64 + d) = nI s) ∧ ((∀ s, ¬ gw_B L stp sh c d s) → a (c * 64 + d) = -1)
theorem gw_AF_N {N t : Nat} {a : Nat → Int32} (hN : ∀ w c, w < L → c < N → stp w c < N) (ht : N ≤ t) (h : gw_AS L stp sh N t (fun _ _ => False) a) : gw_AF L stp sh N a := by
  intro c d h1 h2
  obtain ⟨g1, g2⟩ := h c d h1 h2
  exact ⟨fun s hb => g1 s (by have := gw_B_lt hN h2 (by omega) hb; omega) hb, fun hn => (g2 (fun s _ => hn s)).2 (fun hp => hp.1)⟩
/-- a round that marked nothing is the last -/
theorem gw_AF_stop {N t : Nat} {P : Nat → Nat → Prop} {a : Nat → Int32} (hN : ∀ w c, w < L → c < N → stp w c < N) (h : gw_AS L stp sh N t P a) (hP : ∀ c d, d < c → c < N → P c d) (hm : ∀ c d, d < c → c < N → ¬ gw_B L stp sh c d t) : gw_AF L stp sh N a := by
  intro c d h1 h2
  obtain ⟨g1, g2⟩ := h c d h1 h2
  have hlt : ∀ s, gw_B L stp sh c d s → s < t := fun s hb => by
    apply Nat.lt_of_not_le
    intro g
    obtain ⟨c', d', hc, hd, hb'⟩ := gw_B_low hN c d h2 (by omega) hb t g
    rcases Nat.lt_trichotomy c' d' with g3 | g3 | g3
    · exact hm d' c' g3 hd (gw_B_sym hb')
    · subst g3; exact gw_B_irr hb'
    · exact hm c' d' g3 hc hb'
  exact ⟨fun s hb => g1 s (hlt s hb) hb, fun hn => (g2 (fun s _ => hn s)).2 (fun hp => hn t hp.2)⟩
theorem gw_AF_u {N : Nat} {a b : Nat → Int32} (ha : gw_AF L stp sh N a) (hb : gw_AF L stp sh N b) {c d : Nat} (h1 : d < c) (h2 : c < N) : a (c * 64 + d) = b (c * 64 + d) := by
  obtain ⟨a1, a2⟩ := ha c d h1 h2
  obtain ⟨b1, b2⟩ := hb c d h1 h2
  by_cases g : ∃ s, gw_B L stp sh c d s
  · obtain ⟨s, hs⟩ := g
    rw [a1 s hs, b1 s hs]
  · rw [a2 (fun s hs => g ⟨s, hs⟩), b2 (fun s hs => g ⟨s, hs⟩)]
/-- the table read at any pair, in whichever order -/
def gw_rd (a : Nat → Int32) (x y : Nat) : Int32 := if y < x then a (x * 64 + y) else if x < y then a (y * 64 + x) else -1
theorem gw_rd_B {N t s : Nat} {P : Nat → Nat → Prop} {a : Nat → Int32} (h : gw_AS L stp sh N t P a) (ht : t < 2 ^ 31) (hs : s < t) {x y : Nat} (hx : x < N) (hy : y < N) : gw_rd a x y = nI s ↔ gw_B L stp sh x y s := by
  unfold gw_rd
  rcases Nat.lt_trichotomy x y with g | g | g
  · rw [if_neg (by omega), if_pos g, gw_AS_val h ht g hy hs]
    exact ⟨gw_B_sym, gw_B_sym⟩
  · subst g
    rw [if_neg (by omega), if_neg (by omega)]
    exact ⟨fun e => absurd e.symm (gw_m1 (by omega)), fun hb => absurd hb gw_B_irr⟩
  · rw [if_pos g, gw_AS_val h ht g hx hs]
/-- the test of a round: a pair not yet apart is apart at t + 1 if and only if a label leads to one apart at t -/
theorem gw_AS_test {N t c d : Nat} {P : Nat → Nat → Prop} {a : Nat → Int32} (hN : ∀ w c, w < L → c < N → stp w c < N) (h : gw_AS L stp sh N (t + 1) P a) (ht : t + 1 < 2 ^ 31) (h1 : d < c) (h2 : c < N) (e : ∀ s, s < t + 1 → ¬ gw_B L stp sh c d s) : (∃ w, w < L ∧ gw_rd a (stp w c) (stp w d) = nI t) ↔ gw_B L stp sh c d (t + 1) := by
  constructor
  · rintro ⟨w, hw, g⟩
    rw [gw_rd_B h ht (by omega) (hN w c hw h2) (hN w d hw (by omega))] at g
    obtain ⟨s, hs, hb⟩ := gw_B_of (L := L) (stp := stp) (sh := sh) (c := c) (d := d) (t := t + 1) ⟨w, hw, g.1⟩
    rcases Nat.lt_or_ge s (t + 1) with g2 | g2
    · exact absurd hb (e s g2)
    · rw [show t + 1 = s by omega]; exact hb
  · intro hb
    obtain ⟨w, hw, g⟩ := gw_B_p hb
    exact ⟨w, hw, (gw_rd_B h ht (by omega) (hN w c hw h2) (hN w d hw (by omega))).mpr g⟩
theorem gw_B_0 {c d : Nat} : gw_B L stp sh c d 0 ↔ ∃ w, w < L ∧ sh w c ≠ sh w d :=
  ⟨fun h => h.1, fun h => ⟨h, fun s hs => absurd hs (Nat.not_lt_zero _)⟩⟩
end
end
section
/-! cubes as numbers in base 3 -/
def gw_dg (c k : Nat) : Nat := c / 3 ^ k % 3
theorem gw_dg_lt (c k : Nat) : gw_dg c k < 3 := Nat.mod_lt _ (by omega)
theorem gw_p3 (k : Nat) : 0 < 3 ^ k := Nat.pow_pos (by omega)
theorem gw_dg_at {lo hi d k : Nat} (hl : lo < 3 ^ k) (hd : d < 3) : gw_dg (lo + 3 ^ k * (3 * hi + d)) k = d := by
  unfold gw_dg
  rw [Nat.add_mul_div_left _ _ (gw_p3 k), Nat.div_eq_of_lt hl]
  omega
theorem gw_dg_lo {lo q k j : Nat} (hj : j < k) : gw_dg (lo + 3 ^ k * q) j = gw_dg lo j := by
  unfold gw_dg
  have e : 3 ^ k * q = 3 ^ j * (3 * (3 ^ (k - j - 1) * q)) := by
    rw [show k = j + (1 + (k - j - 1)) by omega, Nat.pow_add, Nat.pow_add, Nat.pow_one]
    rw [show j + (1 + (k - j - 1)) - j - 1 = k - j - 1 by omega]
    simp only [Nat.mul_assoc]
  rw [e, Nat.add_mul_div_left _ _ (gw_p3 j)]
  omega
theorem gw_dg_hi {lo hi d k j : Nat} (hl : lo < 3 ^ k) (hd : d < 3) (hj : k < j) : gw_dg (lo + 3 ^ k * (3 * hi + d)) j = gw_dg hi (j - k - 1) := by
  unfold gw_dg
  have e : 3 ^ j = 3 ^ k * (3 * 3 ^ (j - k - 1)) := by
    rw [← Nat.pow_succ', ← Nat.pow_add]
    congr 1
    omega
  rw [e, ← Nat.div_div_eq_div_mul, Nat.add_mul_div_left _ _ (gw_p3 k), Nat.div_eq_of_lt hl, Nat.zero_add, ← Nat.div_div_eq_div_mul]
  rw [show (3 * hi + d) / 3 = hi by omega]
theorem gw_dg_dec (c k : Nat) : ∃ lo hi, lo < 3 ^ k ∧ c = lo + 3 ^ k * (3 * hi + gw_dg c k) := by
  refine ⟨c % 3 ^ k, c / 3 ^ k / 3, Nat.mod_lt _ (gw_p3 k), ?_⟩
  unfold gw_dg
  rw [show 3 * (c / 3 ^ k / 3) + c / 3 ^ k % 3 = c / 3 ^ k by omega]
  exact (Nat.mod_add_div c (3 ^ k)).symm
/-- two numbers that differ in their digit k alone -/
theorem gw_dg_two {lo hi d e k j : Nat} (hl : lo < 3 ^ k) (hd : d < 3) (he : e < 3) (hj : j ≠ k) : gw_dg (lo + 3 ^ k * (3 * hi + d)) j = gw_dg (lo + 3 ^ k * (3 * hi + e)) j := by
  rcases Nat.lt_or_ge j k with h | h
  · rw [gw_dg_lo h, gw_dg_lo h]
  · rw [gw_dg_hi hl hd (by omega), gw_dg_hi hl he (by omega)]
theorem gw_dg_add {c k e : Nat} (h : gw_dg c k + e < 3) : gw_dg (c + e * 3 ^ k) k = gw_dg c k + e ∧ ∀ j, j ≠ k → gw_dg (c + e * 3 ^ k) j = gw_dg c j := by
  obtain ⟨lo, hi, hl, hc⟩ := gw_dg_dec c k
  have hd := gw_dg_lt c k
  generalize gw_dg c k = d at *
  have e1 : c + e * 3 ^ k = lo + 3 ^ k * (3 * hi + (d + e)) := by
    rw [hc, ← Nat.add_assoc, Nat.mul_add (3 ^ k) (3 * hi + d) e, Nat.mul_comm e]
    omega
  rw [e1]
  refine ⟨gw_dg_at hl h, fun j hj => ?_⟩
  rw [gw_dg_two hl h hd hj, ← hc]
theorem gw_dg_sub {c k e : Nat} (h : e ≤ gw_dg c k) : e * 3 ^ k ≤ c ∧ gw_dg (c - e * 3 ^ k) k = gw_dg c k - e ∧ ∀ j, j ≠ k → gw_dg (c - e * 3 ^ k) j = gw_dg c j := by
  obtain ⟨lo, hi, hl, hc⟩ := gw_dg_dec c k
  have hd := gw_dg_lt c k
  generalize gw_dg c k = d at *
  have e1 : c = lo + 3 ^ k * (3 * hi + (d - e)) + e * 3 ^ k := by
    rw [Nat.mul_comm e, Nat.add_assoc, ← Nat.mul_add, show 3 * hi + (d - e) + e = 3 * hi + d by omega]
    exact hc
  have e2 : c - e * 3 ^ k = lo + 3 ^ k * (3 * hi + (d - e)) := by omega
  refine ⟨by omega, ?_, fun j hj => ?_⟩
  · rw [e2]; exact gw_dg_at hl (by omega)
  · rw [e2, gw_dg_two hl (by omega) hd hj, ← hc]
theorem gw_dg_top {c k e m : Nat} (hk : k < m) (hc : c < 3 ^ m) (h : gw_dg c k + e < 3) : c + e * 3 ^ k < 3 ^ m := by
  obtain ⟨lo, hi, hl, hc'⟩ := gw_dg_dec c k
  have em : 3 ^ m = 3 ^ k * (3 * 3 ^ (m - k - 1)) := by
    rw [← Nat.pow_succ', ← Nat.pow_add]
    congr 1
    omega
  rw [em] at hc ⊢
  have hd := gw_dg_lt c k
  generalize gw_dg c k = d at *
  generalize 3 ^ (m - k - 1) = M at *
  have hw : 0 < 3 ^ k := gw_p3 k
  generalize 3 ^ k = w at *
  have h1 : 3 * hi + d < 3 * M := by
    apply Nat.lt_of_mul_lt_mul_left (a := w)
    omega
  have h2 : w * (3 * hi + d + e) < w * (3 * M) := Nat.mul_lt_mul_of_pos_left (by omega) hw
  have h3 : w * (3 * hi + d + e + 1) ≤ w * (3 * M) := Nat.mul_le_mul_left w (by omega)
  have h4 : w * (3 * hi + d + e + 1) = w * (3 * hi + d) + w * e + w := by
    rw [Nat.mul_add, Nat.mul_add, Nat.mul_one]
  have h5 : e * w = w * e := Nat.mul_comm _ _
  omega
def gw_mt (m c a : Nat) : Prop := ∀ k, k < m → gw_dg c k = 2 ∨ gw_dg c k = (a.testBit k).toNat
def gw_hd (m : Nat) (T : Nat → Bool) (c : Nat) : Prop := ∀ a, a < 2 ^ m → gw_mt m c a → T a = true
theorem gw_hd_split {m k c : Nat} {T : Nat → Bool} (hk : k < m) (h2 : gw_dg c k = 2) : gw_hd m T c ↔ gw_hd m T (c - 3 ^ k) ∧ gw_hd m T (c - 2 * 3 ^ k) := by
  obtain ⟨_, p1, p2⟩ := gw_dg_sub (c := c) (k := k) (e := 1) (by omega)
  obtain ⟨_, q1, q2⟩ := gw_dg_sub (c := c) (k := k) (e := 2) (by omega)
  rw [Nat.one_mul] at p1 p2
  constructor
  · intro h
    refine ⟨fun a ha hm => h a ha (fun j hj => ?_), fun a ha hm => h a ha (fun j hj => ?_)⟩
    · by_cases e : j = k
      · subst e; exact Or.inl h2
      · rw [← p2 j e]; exact hm j hj
    · by_cases e : j = k
      · subst e; exact Or.inl h2
      · rw [← q2 j e]; exact hm j hj
  · rintro ⟨h1, h0⟩ a ha hm
    cases hb : a.testBit k with
    | true =>
      refine h1 a ha (fun j hj => ?_)
      by_cases e : j = k
      · subst e; rw [p1, h2, hb]; exact Or.inr rfl
      · rw [p2 j e]; exact hm j hj
    | false =>
      refine h0 a ha (fun j hj => ?_)
      by_cases e : j = k
      · subst e; rw [q1, h2, hb]; exact Or.inr rfl
      · rw [q2 j e]; exact hm j hj
theorem gw_cnt_all (n : Nat) : gw_cnt (fun _ => true) n = n := by
  induction n with
  | zero => rfl
  | succ n ih => rw [gw_cnt_t rfl, ih]
/-- the bits k -> dep k -/
def gw_nm (dep : Nat → Nat) (b : Nat → Bool) : Nat → Nat
  | 0 => 0
  | k + 1 => gw_nm dep b k ||| ((b k).toNat <<< dep k)
theorem gw_nm_congr {dep : Nat → Nat} {b b' : Nat → Bool} {m : Nat} (h : ∀ k, k < m → b k = b' k) : gw_nm dep b m = gw_nm dep b' m := by
  induction m with
  | zero => rfl
  | succ m ih =>
    show gw_nm dep b m ||| _ = gw_nm dep b' m ||| _
    rw [ih (fun k hk => h k (by omega)), h m (by omega)]
theorem gw_nm_lt {dep : Nat → Nat} {b : Nat → Bool} {m s : Nat} (h : ∀ k, k < m → dep k < s) : gw_nm dep b m < 2 ^ s := by
  induction m with
  | zero => exact Nat.pow_pos (by omega)
  | succ m ih =>
    have h1 := h m (by omega)
    exact Nat.or_lt_two_pow (ih (fun k hk => h k (by omega))) (Nat.lt_of_lt_of_le (gw_sh_lt _ _) (Nat.pow_le_pow_right (by omega) (by omega)))
/-- a cube with no free digit has one member -/
theorem gw_hd_full {m c : Nat} {T f : Nat → Bool} {dep : Nat → Nat} (hT : ∀ a, a < 2 ^ m → T a = f (gw_nm dep (fun k => a.testBit k) m)) (h : ∀ k, k < m → gw_dg c k ≠ 2) : gw_hd m T c ↔ f (gw_nm dep (fun k => decide (gw_dg c k = 1)) m) = true := by
  have hlt := gw_pk_lt (fun _ => true) (fun k => decide (gw_dg c k = 1)) m
  rw [gw_cnt_all] at hlt
  have hbit : ∀ k, k < m → (gw_pk (fun _ => true) (fun k => decide (gw_dg c k = 1)) m).testBit k = decide (gw_dg c k = 1) := fun k hk => by
    have := gw_pk_bit (q := fun _ => true) (b := fun k => decide (gw_dg c k = 1)) (j := k) (n := m) rfl hk
    rw [gw_cnt_all] at this
    exact this
  generalize gw_pk (fun _ => true) (fun k => decide (gw_dg c k = 1)) m = A at *
  have hn : gw_nm dep (fun k => A.testBit k) m = gw_nm dep (fun k => decide (gw_dg c k = 1)) m := gw_nm_congr hbit
  constructor
  · intro g
    have := g A hlt (fun k hk => Or.inr (by
      rw [hbit k hk]
      have h1 := h k hk
      have h2 := gw_dg_lt c k
      rcases (show gw_dg c k = 0 ∨ gw_dg c k = 1 by omega) with e | e
      · rw [e]; rfl
      · rw [e]; rfl))
    rw [hT A hlt, hn] at this
    exact this
  · intro g a ha hm
    rw [hT a ha, gw_nm_congr (b' := fun k => decide (gw_dg c k = 1))]
    · exact g
    · intro k hk
      rcases hm k hk with e | e
      · exact absurd e (h k hk)
      · show a.testBit k = _
        rw [e]
        cases a.testBit k <;> rfl
end
section
/-! the parts of a mask, from above: (b - 1) &&& M is the next below b -/
theorem gw_subm : ∀ (b M x : Nat), b &&& M = b → x &&& M = x → x < b → x ≤ (b - 1) &&& M := by
  intro b
  induction b using Nat.strongRecOn with
  | ind b ih =>
    intro M x hb hx hlt
    have b2 : b / 2 &&& M / 2 = b / 2 := by rw [← Nat.and_div_two, hb]
    have x2 : x / 2 &&& M / 2 = x / 2 := by rw [← Nat.and_div_two, hx]
    have bm : b % 2 = 1 → M % 2 = 1 := fun h => by
      have h1 : (b &&& M) % 2 = 1 := by rw [hb]; exact h
      exact (Nat.and_mod_two_eq_one.mp h1).2
    have xm : x % 2 = 1 → M % 2 = 1 := fun h => by
      have h1 : (x &&& M) % 2 = 1 := by rw [hx]; exact h
      exact (Nat.and_mod_two_eq_one.mp h1).2
    have n2 : ((b - 1) &&& M) / 2 = (b - 1) / 2 &&& M / 2 := Nat.and_div_two
    have nm : ((b - 1) &&& M) % 2 = 1 ↔ (b - 1) % 2 = 1 ∧ M % 2 = 1 := Nat.and_mod_two_eq_one
    rcases (show b % 2 = 1 ∨ b % 2 = 0 by omega) with h | h
    · rw [show (b - 1) / 2 = b / 2 by omega, b2] at n2
      omega
    · have h1 := ih (b / 2) (by omega) (M / 2) (x / 2) b2 x2 (by omega)
      rw [show (b - 1) / 2 = b / 2 - 1 by omega] at n2
      rw [← n2] at h1
      have h2 : (b - 1) % 2 = 1 := by omega
      rcases (show x % 2 = 1 ∨ x % 2 = 0 by omega) with h3 | h3
      · have h4 := nm.mpr ⟨h2, xm h3⟩
        omega
      · omega
theorem gw_subm_in (b M : Nat) : ((b - 1) &&& M) &&& M = (b - 1) &&& M := by
  rw [Nat.and_assoc, Nat.and_self]
end
section
/-! levels: nets marked backward from a net, around a set S -/
def gw_op (K X Y Z : Nat → Int32) (n j : Nat) : Bool :=
  if K n = 3 then decide (j = (X n).toNatClampNeg)
  else if K n = 4 ∨ K n = 5 ∨ K n = 6 then (decide (j = (X n).toNatClampNeg) || decide (j = (Y n).toNatClampNeg))
  else if K n = 7 then (decide (j = (X n).toNatClampNeg) || decide (j = (Y n).toNatClampNeg) || decide (j = (Z n).toNatClampNeg))
  else false
def gw_bk (sk : Nat → Bool) (op : Nat → Nat → Bool) (S : Nat → Bool) : Nat → (Nat → Bool) → Bool
  | 0, _ => true
  | n + 1, M => if M n = true ∧ S n = false then (if sk n = true then false else gw_bk sk op S n (fun j => M j || op n j)) else gw_bk sk op S n M
theorem gw_bk_congr {sk : Nat → Bool} {op : Nat → Nat → Bool} {S S' : Nat → Bool} : ∀ (n : Nat) (M M' : Nat → Bool), (∀ j, j < n → S j = S' j) → (∀ j, j < n → M j = M' j) → gw_bk sk op S n M = gw_bk sk op S' n M' := by
  intro n
  induction n with
  | zero => intro _ _ _ _; rfl
  | succ n ih =>
    intro M M' hS hM
    show (if M n = true ∧ S n = false then _ else _) = (if M' n = true ∧ S' n = false then _ else _)
    rw [hM n (by omega), hS n (by omega), ih M M' (fun j hj => hS j (by omega)) (fun j hj => hM j (by omega)), ih (fun j => M j || op n j) (fun j => M' j || op n j) (fun j hj => hS j (by omega)) (fun j hj => by rw [hM j (by omega)])]
/-- the set of three, told with repetitions -/
def gw_S3 (a b c j : Nat) : Bool := decide (j = a) || decide (j = b) || decide (j = c)
def gw_mx (lev : Nat → Nat) (a b c : Nat) : Nat := max (max (lev a) (lev b)) (lev c)
/-- a, b, c is a set that is tried for width k below net -/
def gw_tr (k net a b c : Nat) : Prop := c ≤ b ∧ b ≤ a ∧ a < net ∧ (k < 2 → b = a) ∧ (k < 3 → c = b)
/-- B is the least greatest level, 99 if there is none, among those tried in P -/
def gw_IB (btw : (Nat → Bool) → Bool) (lev : Nat → Nat) (k net : Nat) (P : Nat → Nat → Nat → Prop) (B : Nat) : Prop :=
  B ≤ 99 ∧ (B = 99 ∨ ∃ a b c, gw_tr k net a b c ∧ btw (gw_S3 a b c) = true ∧ gw_mx lev a b c = B) ∧ ∀ a b c, gw_tr k net a b c → P a b c → btw (gw_S3 a b c) = true → B ≤ gw_mx lev a b c
section
variable {btw : (Nat → Bool) → Bool} {lev : Nat → Nat} {k net : Nat}
theorem gw_IB_0 {P : Nat → Nat → Nat → Prop} (h : ∀ a b c, gw_tr k net a b c → ¬ P a b c) : gw_IB btw lev k net P 99 :=
  ⟨Nat.le_refl _, Or.inl rfl, fun a b c ht hp => absurd hp (h a b c ht)⟩
theorem gw_IB_more {P Q : Nat → Nat → Nat → Prop} {B : Nat} (h : gw_IB btw lev k net P B) (hq : ∀ a b c, gw_tr k net a b c → Q a b c → btw (gw_S3 a b c) = true → P a b c ∨ B ≤ gw_mx lev a b c) : gw_IB btw lev k net Q B := by
  refine ⟨h.1, h.2.1, fun a b c ht hQ hb => ?_⟩
  rcases hq a b c ht hQ hb with hp | hp
  · exact h.2.2 a b c ht hp hb
  · exact hp
theorem gw_IB_take {P Q : Nat → Nat → Nat → Prop} {B a b c : Nat} (h : gw_IB btw lev k net P B) (ht : gw_tr k net a b c) (hb : btw (gw_S3 a b c) = true) (hm : gw_mx lev a b c < B) (hq : ∀ x y z, gw_tr k net x y z → Q x y z → P x y z ∨ gw_mx lev a b c ≤ gw_mx lev x y z) : gw_IB btw lev k net Q (gw_mx lev a b c) := by
  refine ⟨by have := h.1; omega, Or.inr ⟨a, b, c, ht, hb, rfl⟩, fun x y z ht' hQ hb' => ?_⟩
  rcases hq x y z ht' hQ with hp | hp
  · have := h.2.2 x y z ht' hp hb'
    omega
  · exact hp
theorem gw_IB_u {P Q : Nat → Nat → Nat → Prop} {B C : Nat} (h : gw_IB btw lev k net P B) (g : gw_IB btw lev k net Q C) (hP : ∀ a b c, gw_tr k net a b c → P a b c) (hQ : ∀ a b c, gw_tr k net a b c → Q a b c) : B = C := by
  apply Nat.le_antisymm
  · rcases g.2.1 with e | ⟨a, b, c, ht, hb, e⟩
    · have := h.1; omega
    · rw [← e]; exact h.2.2 a b c ht (hP a b c ht) hb
  · rcases h.2.1 with e | ⟨a, b, c, ht, hb, e⟩
    · have := g.1; omega
    · rw [← e]; exact g.2.2 a b c ht (hQ a b c ht) hb
theorem gw_IB_lt {P : Nat → Nat → Nat → Prop} {B n : Nat} (h : gw_IB btw lev k net P B) (hl : ∀ j, j < net → lev j ≤ n ∨ lev j = 99) : B ≤ n ∨ B = 99 := by
  rcases h.2.1 with e | ⟨a, b, c, ht, hb, e⟩
  · exact Or.inr e
  · obtain ⟨h1, h2, h3, _, _⟩ := ht
    have ha := hl a h3
    have hb := hl b (by omega)
    have hc := hl c (by omega)
    have := h.1
    unfold gw_mx at e
    omega
end
end
section
/-! what a net may be: its operands below L -/
def gw_bl (x : Int32) (L : Nat) : Prop := ∃ j, j < L ∧ x = nI j
def gw_fit (k x y z : Int32) (L : Nat) : Prop :=
  k = 0 ∨ k = 1 ∨ (k = 2 ∧ (x = 0 ∨ x = 1)) ∨ (k = 3 ∧ gw_bl x L) ∨ ((k = 4 ∨ k = 5 ∨ k = 6) ∧ gw_bl x L ∧ gw_bl y L) ∨ (k = 7 ∧ gw_bl x L ∧ gw_bl y L ∧ gw_bl z L)
def gw_W (K X Y Z F : Nat → Int32) (m : Nat) : Prop :=
  ∀ n, n < m → gw_fit (K n) (X n) (Y n) (Z n) n ∧ (K n = 1 → gw_bl (F n) m) ∧ (K n = 0 → F n = nI n)
def gw_01 (H : Nat → Int32) : Prop := ∀ n, H n = 0 ∨ H n = 1
/-- A lists, in order, the nets below m that have q -/
def gw_En (q : Nat → Bool) (A : Nat → Int32) (m : Nat) : Prop := ∀ n, n < m → q n = true → A (gw_cnt q n) = nI n
theorem gw_bl_mono {x : Int32} {L M : Nat} (h : L ≤ M) (g : gw_bl x L) : gw_bl x M := by
  obtain ⟨j, h1, h2⟩ := g
  exact ⟨j, by omega, h2⟩
theorem gw_bl_iff {x : Int32} {L : Nat} (hL : L < 2 ^ 31) : gw_bl x L ↔ 0 ≤ x ∧ x < nI L := by
  constructor
  · rintro ⟨j, h1, rfl⟩
    exact ⟨nI_pos' (by omega), nI_lt h1 hL⟩
  · rintro ⟨h1, h2⟩
    obtain ⟨j, h3, rfl⟩ := nI_of (x := x) (Int32.not_lt.mpr h1)
    exact ⟨j, (nI_ltI h3 hL).mp h2, rfl⟩
theorem gw_bl_le {x : Int32} {L : Nat} (hL : L < 2 ^ 31) : gw_bl x L ↔ 0 ≤ x ∧ x ≤ nI L - 1 := by
  rw [gw_bl_iff hL]
  cases L with
  | zero =>
    rw [nI_0]
    constructor
    · rintro ⟨h1, h2⟩
      exact absurd h1 (Int32.not_le.mpr h2)
    · rintro ⟨h1, h2⟩
      exact absurd (Int32.le_trans h1 h2) (by decide)
  | succ L =>
    rw [nI_pred]
    constructor
    · rintro ⟨h1, h2⟩
      obtain ⟨j, h3, rfl⟩ := nI_of (x := x) (Int32.not_lt.mpr h1)
      exact ⟨h1, nI_le (by have := (nI_ltI h3 hL).mp h2; omega) (by omega)⟩
    · rintro ⟨h1, h2⟩
      obtain ⟨j, h3, rfl⟩ := nI_of (x := x) (Int32.not_lt.mpr h1)
      exact ⟨h1, nI_lt (by have := (nI_leI h3 (by omega)).mp h2; omega) hL⟩
theorem gw_W_add {K X Y Z F : Nat → Int32} {m : Nat} {k x y z : Int32} (h : gw_W K X Y Z F m) (hf : gw_fit k x y z m) : gw_W (upd K m k) (upd X m x) (upd Y m y) (upd Z m z) (upd F m (nI m)) (m + 1) := by
  intro n hn
  by_cases e : n = m
  · subst e
    rw [pk_us, pk_us, pk_us, pk_us, pk_us]
    exact ⟨hf, fun _ => ⟨n, by omega, rfl⟩, fun _ => rfl⟩
  · obtain ⟨h1, h2, h3⟩ := h n (by omega)
    rw [pk_un e, pk_un e, pk_un e, pk_un e, pk_un e]
    exact ⟨h1, fun g => gw_bl_mono (by omega) (h2 g), h3⟩
theorem gw_W_ch {K X Y Z F : Nat → Int32} {m i : Nat} {k x y z : Int32} (h : gw_W K X Y Z F m) (hf : gw_fit k x y z i) (h0 : k ≠ 0) (h1 : k ≠ 1) : gw_W (upd K i k) (upd X i x) (upd Y i y) (upd Z i z) F m := by
  intro n hn
  by_cases e : n = i
  · subst e
    rw [pk_us, pk_us, pk_us, pk_us]
    exact ⟨hf, fun g => absurd g h1, fun g => absurd g h0⟩
  · rw [pk_un e, pk_un e, pk_un e, pk_un e]
    exact h n hn
theorem gw_W_nx {K X Y Z F : Nat → Int32} {m i j : Nat} (h : gw_W K X Y Z F m) (hk : K i = 1) (hj : j < m) : gw_W K X Y Z (upd F i (nI j)) m := by
  intro n hn
  obtain ⟨h1, h2, h3⟩ := h n hn
  by_cases e : n = i
  · subst e
    rw [pk_us]
    exact ⟨h1, fun _ => ⟨j, hj, rfl⟩, fun g => absurd (hk.symm.trans g) (by decide)⟩
  · rw [pk_un e]
    exact ⟨h1, h2, h3⟩
theorem gw_W_dr {K X Y Z F : Nat → Int32} {m : Nat} (h : gw_W K X Y Z F (m + 1)) (hd : ∀ n, n < m → K n = 1 → F n ≠ nI m) : gw_W K X Y Z F m := by
  intro n hn
  obtain ⟨h1, h2, h3⟩ := h n (by omega)
  refine ⟨h1, fun g => ?_, h3⟩
  obtain ⟨j, h4, h5⟩ := h2 g
  refine ⟨j, ?_, h5⟩
  apply Nat.lt_of_not_le
  intro g2
  exact hd n hn g (by rw [h5, show j = m by omega])
theorem gw_fit_k {k x y z : Int32} {L : Nat} (h : gw_fit k x y z L) : 0 ≤ k ∧ k ≤ 7 := by
  rcases h with rfl | rfl | ⟨rfl, _⟩ | ⟨rfl, _⟩ | ⟨rfl | rfl | rfl, _⟩ | ⟨rfl, _⟩ <;> decide
theorem gw_01_upd {H : Nat → Int32} {i : Nat} {x : Int32} (h : gw_01 H) (hx : x = 0 ∨ x = 1) : gw_01 (upd H i x) := by
  intro n
  by_cases e : n = i
  · subst e; rw [pk_us]; exact hx
  · rw [pk_un e]; exact h n
/-- the value that H tells of a source -/
def gw_hs (H : Nat → Int32) (n : Nat) : Bool := decide (H n = 1)
theorem gw_hs_b {H : Nat → Int32} (h : gw_01 H) (n : Nat) : H n = gw_b (gw_hs H n) := by
  unfold gw_hs
  rcases h n with e | e <;> rw [e] <;> decide
theorem gw_En_t {q : Nat → Bool} {A : Nat → Int32} {n : Nat} (h : gw_En q A n) (hq : q n = true) : gw_En q (upd A (gw_cnt q n) (nI n)) (n + 1) := by
  intro j hj hqj
  rcases Nat.lt_or_ge j n with g | g
  · have := gw_cnt_lt hqj g
    rw [pk_un (by omega)]
    exact h j g hqj
  · have e : j = n := by omega
    subst e
    exact pk_us
theorem gw_En_f {q : Nat → Bool} {A : Nat → Int32} {n : Nat} (h : gw_En q A n) (hq : q n = false) : gw_En q A (n + 1) := by
  intro j hj hqj
  rcases Nat.lt_or_ge j n with g | g
  · exact h j g hqj
  · have e : j = n := by omega
    subst e
    rw [hq] at hqj
    exact absurd hqj Bool.false_ne_true
theorem gw_En_le {q : Nat → Bool} {A : Nat → Int32} {n m : Nat} (h : gw_En q A m) (hn : n ≤ m) : gw_En q A n := fun j hj hq => h j (by omega) hq
theorem gw_En_at {q : Nat → Bool} {A : Nat → Int32} {m i : Nat} (h : gw_En q A m) (hi : i < gw_cnt q m) : ∃ n, n < m ∧ q n = true ∧ gw_cnt q n = i ∧ A i = nI n := by
  obtain ⟨n, h1, h2, rfl⟩ := gw_cnt_sur hi
  exact ⟨n, h1, h2, rfl, h n h1 h2⟩
theorem gw_sk_upd {K : Nat → Int32} {i : Nat} {k : Int32} {n : Nat} (h : n ≠ i) : gw_sk (upd K i k) n = gw_sk K n := by unfold gw_sk; rw [pk_un h]
theorem gw_rk_upd {K : Nat → Int32} {i : Nat} {k : Int32} {n : Nat} (h : n ≠ i) : gw_rk (upd K i k) n = gw_rk K n := by unfold gw_rk; rw [pk_un h]
theorem gw_csk_add {K : Nat → Int32} {m : Nat} {k : Int32} : gw_cnt (gw_sk (upd K m k)) m = gw_cnt (gw_sk K) m := gw_cnt_congr (fun j hj => gw_sk_upd (by omega))
theorem gw_crk_add {K : Nat → Int32} {m : Nat} {k : Int32} : gw_cnt (gw_rk (upd K m k)) m = gw_cnt (gw_rk K) m := gw_cnt_congr (fun j hj => gw_rk_upd (by omega))
theorem gw_sk_ch {K : Nat → Int32} {i : Nat} {k : Int32} (h0 : k ≠ 0) (h1 : k ≠ 1) (hs : gw_sk K i = false) (n : Nat) : gw_sk (upd K i k) n = gw_sk K n := by
  by_cases e : n = i
  · subst e
    rw [hs]
    unfold gw_sk
    rw [pk_us]
    exact decide_eq_false (fun g => g.elim h0 h1)
  · exact gw_sk_upd e
theorem gw_rk_ch {K : Nat → Int32} {i : Nat} {k : Int32} (h1 : k ≠ 1) (hs : gw_sk K i = false) (n : Nat) : gw_rk (upd K i k) n = gw_rk K n := by
  by_cases e : n = i
  · subst e
    have : gw_rk K n = false := by
      cases hr : gw_rk K n with
      | false => rfl
      | true => rw [gw_rk_sk hr] at hs; exact absurd hs.symm Bool.false_ne_true
    rw [this]
    unfold gw_rk
    rw [pk_us]
    exact decide_eq_false h1
  · exact gw_rk_upd e
theorem gw_sk_t {K : Nat → Int32} {n : Nat} : gw_sk K n = true ↔ K n = 0 ∨ K n = 1 := by unfold gw_sk; exact decide_eq_true_iff
theorem gw_sk_f {K : Nat → Int32} {n : Nat} : gw_sk K n = false ↔ ¬ (K n = 0 ∨ K n = 1) := by unfold gw_sk; exact decide_eq_false_iff_not
theorem gw_rk_t {K : Nat → Int32} {n : Nat} : gw_rk K n = true ↔ K n = 1 := by unfold gw_rk; exact decide_eq_true_iff
theorem gw_rk_f {K : Nat → Int32} {n : Nat} : gw_rk K n = false ↔ ¬ K n = 1 := by unfold gw_rk; exact decide_eq_false_iff_not
theorem gw_ik_t {K : Nat → Int32} {n : Nat} : gw_ik K n = true ↔ K n = 0 := by unfold gw_ik; exact decide_eq_true_iff
theorem gw_ik_f {K : Nat → Int32} {n : Nat} : gw_ik K n = false ↔ ¬ K n = 0 := by unfold gw_ik; exact decide_eq_false_iff_not
/-- the reference asks for kind < 2: with fits that is a source -/
theorem gw_k2 {k : Int32} (h0 : 0 ≤ k) : k < 2 ↔ k = 0 ∨ k = 1 := by
  obtain ⟨j, hj, rfl⟩ := nI_of (x := k) (Int32.not_lt.mpr h0)
  constructor
  · intro h
    have h1 := (nI_ltI (b := 2) hj (by decide)).mp h
    rcases (show j = 0 ∨ j = 1 by omega) with e | e
    · subst e; exact Or.inl rfl
    · subst e; exact Or.inr rfl
  · rintro (h | h) <;> rw [h] <;> decide
theorem gw_W_sk {K X Y Z F : Nat → Int32} {m n : Nat} (h : gw_W K X Y Z F m) (hn : n < m) : K n < 2 ↔ gw_sk K n = true := by
  rw [gw_sk_t]
  exact gw_k2 (gw_fit_k (h n hn).1).1
end
section
/-! packing over places: the s-th source instead of the net -/
theorem gw_cnt_comp {p q Q : Nat → Bool} {m : Nat} (hQ : ∀ n, n < m → p n = true → Q (gw_cnt p n) = q n) (hqp : ∀ n, n < m → q n = true → p n = true) : gw_cnt Q (gw_cnt p m) = gw_cnt q m := by
  induction m with
  | zero => rfl
  | succ m ih =>
    have h0 := ih (fun n hn => hQ n (by omega)) (fun n hn => hqp n (by omega))
    cases hp : p m with
    | true =>
      have e := hQ m (by omega) hp
      rw [gw_cnt_t hp]
      cases hq : q m with
      | true => rw [gw_cnt_t (by rw [e, hq]), gw_cnt_t hq, h0]
      | false => rw [gw_cnt_f (by rw [e, hq]), gw_cnt_f hq, h0]
    | false =>
      rw [gw_cnt_f hp]
      cases hq : q m with
      | true => rw [hqp m (by omega) hq] at hp; exact absurd hp.symm Bool.false_ne_true
      | false => rw [gw_cnt_f hq, h0]
theorem gw_pk_comp {p q Q B b : Nat → Bool} {m : Nat} (hQ : ∀ n, n < m → p n = true → Q (gw_cnt p n) = q n) (hqp : ∀ n, n < m → q n = true → p n = true) (hB : ∀ n, n < m → q n = true → B (gw_cnt p n) = b n) : gw_pk Q B (gw_cnt p m) = gw_pk q b m := by
  induction m with
  | zero => rfl
  | succ m ih =>
    have h0 := ih (fun n hn => hQ n (by omega)) (fun n hn => hqp n (by omega)) (fun n hn => hB n (by omega))
    have h1 := gw_cnt_comp (p := p) (q := q) (Q := Q) (m := m) (fun n hn => hQ n (by omega)) (fun n hn => hqp n (by omega))
    cases hp : p m with
    | true =>
      have e := hQ m (by omega) hp
      rw [gw_cnt_t hp]
      cases hq : q m with
      | true => rw [gw_pk_t (by rw [e, hq]), gw_pk_t hq, h0, h1, hB m (by omega) hq]
      | false => rw [gw_pk_f (by rw [e, hq]), gw_pk_f hq, h0]
    | false =>
      rw [gw_cnt_f hp]
      cases hq : q m with
      | true => rw [hqp m (by omega) hq] at hp; exact absurd hp.symm Bool.false_ne_true
      | false => rw [gw_pk_f hq, h0]
/-! a tick in assignments -/
theorem gw_aft {K X Y Z F : Nat → Int32} {m a : Nat} (hm : m ≤ 32) (hW : gw_W K X Y Z F m) : gw_pk (gw_sk K) (fun n => gw_v K X Y Z m (gw_sa K a) (F n).toNatClampNeg) m = gw_jn K m (gw_of K m a) (gw_stp K X Y Z F m (gw_of K m a) (gw_co K m a)) := by
  apply gw_pk_congr
  intro j hj hs
  show gw_v K X Y Z m (gw_sa K a) (F j).toNatClampNeg = gw_sc K _ _ j
  unfold gw_sc
  rcases gw_sk_or hs with h | h
  · rw [if_pos h, gw_stp_a]
    exact (gw_pk_bit (q := gw_rk K) (b := fun n => gw_v K X Y Z m (gw_sa K a) (F n).toNatClampNeg) h hj).symm
  · rw [if_neg (by rw [gw_ik_rk h]; exact Bool.false_ne_true), (hW j hj).2.2 (gw_ik_t.mp h), nI_clamp (by omega)]
    unfold gw_v
    rw [gw_ev_src hj (by omega) hs]
    exact (gw_pk_bit h hj).symm
/-- the held values with the registers at configuration c -/
def gw_nw (K : Nat → Int32) (m : Nat) (H : Nat → Int32) (c j : Nat) : Int32 := if j < m ∧ gw_rk K j = true then gw_b (c.testBit (gw_cnt (gw_rk K) j)) else H j
def gw_c0 (K : Nat → Int32) (m : Nat) (H : Nat → Int32) : Nat := gw_pk (gw_rk K) (gw_hs H) m
def gw_w0 (K : Nat → Int32) (m : Nat) (H : Nat → Int32) : Nat := gw_pk (gw_ik K) (gw_hs H) m
def gw_a0 (K : Nat → Int32) (m : Nat) (H : Nat → Int32) : Nat := gw_pk (gw_sk K) (gw_hs H) m
theorem gw_hsb (b : Bool) : decide (gw_b b = 1) = b := by cases b <;> decide
theorem gw_nw_r {K H : Nat → Int32} {m c j : Nat} (hj : j < m) (hr : gw_rk K j = true) : gw_nw K m H c j = gw_b (c.testBit (gw_cnt (gw_rk K) j)) := if_pos ⟨hj, hr⟩
theorem gw_nw_o {K H : Nat → Int32} {m c j : Nat} (h : ¬ (j < m ∧ gw_rk K j = true)) : gw_nw K m H c j = H j := if_neg h
theorem gw_nw_01 {K H : Nat → Int32} {m c : Nat} (h : gw_01 H) : gw_01 (gw_nw K m H c) := by
  intro n
  unfold gw_nw
  split
  · cases c.testBit (gw_cnt (gw_rk K) n)
    · exact Or.inl rfl
    · exact Or.inr rfl
  · exact h n
theorem gw_nw_c0 {K H : Nat → Int32} {m : Nat} (h : gw_01 H) : gw_nw K m H (gw_c0 K m H) = H := by
  funext j
  by_cases g : j < m ∧ gw_rk K j = true
  · rw [gw_nw_r g.1 g.2]
    unfold gw_c0
    rw [gw_pk_bit g.2 g.1, ← gw_hs_b h]
  · exact gw_nw_o g
theorem gw_nw_nw {K H : Nat → Int32} {m c d : Nat} : gw_nw K m (gw_nw K m H c) d = gw_nw K m H d := by
  funext j
  by_cases g : j < m ∧ gw_rk K j = true
  · rw [gw_nw_r g.1 g.2, gw_nw_r g.1 g.2]
  · rw [gw_nw_o g, gw_nw_o g, gw_nw_o g]
theorem gw_c0_nw {K H : Nat → Int32} {m c : Nat} (hc : c < 2 ^ gw_cnt (gw_rk K) m) : gw_c0 K m (gw_nw K m H c) = c := by
  refine (gw_pk_of hc (fun j hj hq => ?_)).symm
  unfold gw_hs
  rw [gw_nw_r hj hq, gw_hsb]
theorem gw_w0_nw {K H : Nat → Int32} {m c : Nat} : gw_w0 K m (gw_nw K m H c) = gw_w0 K m H := by
  apply gw_pk_congr
  intro j hj hq
  unfold gw_hs
  rw [gw_nw_o (fun g => by rw [gw_ik_rk hq] at g; exact Bool.false_ne_true g.2)]
theorem gw_hs_sc {K H : Nat → Int32} {m n : Nat} (hn : n < m) (hs : gw_sk K n = true) : gw_hs H n = gw_sc K (gw_w0 K m H) (gw_c0 K m H) n := by
  unfold gw_sc
  rcases gw_sk_or hs with h | h
  · rw [if_pos h]
    exact (gw_pk_bit h hn).symm
  · rw [if_neg (by rw [gw_ik_rk h]; exact Bool.false_ne_true)]
    exact (gw_pk_bit h hn).symm
/-- present values, present tick -/
theorem gw_tk_hs {K X Y Z F H : Nat → Int32} {m : Nat} : gw_tk K X Y Z F m (gw_hs H) = gw_stp K X Y Z F m (gw_w0 K m H) (gw_c0 K m H) :=
  gw_tk_congr (fun _ hj hs => gw_hs_sc hj hs)
theorem gw_sa_a0 {K H : Nat → Int32} {m n : Nat} (hn : n < m) (hs : gw_sk K n = true) : gw_sa K (gw_a0 K m H) n = gw_hs H n := gw_pk_bit hs hn
theorem gw_co_a0 {K H : Nat → Int32} {m : Nat} : gw_co K m (gw_a0 K m H) = gw_c0 K m H := gw_pk_congr (fun _ hj hr => gw_sa_a0 hj (gw_rk_sk hr))
theorem gw_of_a0 {K H : Nat → Int32} {m : Nat} : gw_of K m (gw_a0 K m H) = gw_w0 K m H := gw_pk_congr (fun _ hj hr => gw_sa_a0 hj (gw_ik_sk hr))
theorem gw_a0_lt (K H : Nat → Int32) (m : Nat) : gw_a0 K m H < 2 ^ gw_cnt (gw_sk K) m := gw_pk_lt _ _ _
theorem gw_a0_jn {K H : Nat → Int32} {m : Nat} : gw_a0 K m H = gw_jn K m (gw_w0 K m H) (gw_c0 K m H) := by
  rw [← gw_of_a0, ← gw_co_a0, gw_jn_a (gw_a0_lt K H m)]
/-- what the component writes back: the bits of an assignment at all sources below n -/
def gw_ho (K : Nat → Int32) (n : Nat) (H : Nat → Int32) (a j : Nat) : Int32 := if j < n ∧ gw_sk K j = true then gw_b (gw_sa K a j) else H j
theorem gw_ho_jn {K H : Nat → Int32} {m c : Nat} (h : gw_01 H) : gw_ho K m H (gw_jn K m (gw_w0 K m H) c) = gw_nw K m H c := by
  funext j
  unfold gw_ho
  by_cases g : j < m ∧ gw_sk K j = true
  · rw [if_pos g, gw_sa_j g.1 g.2]
    unfold gw_sc
    rcases gw_sk_or g.2 with hr | hi
    · rw [if_pos hr, gw_nw_r g.1 hr]
    · rw [if_neg (by rw [gw_ik_rk hi]; exact Bool.false_ne_true), gw_nw_o (fun g => by rw [gw_ik_rk hi] at g; exact Bool.false_ne_true g.2)]
      unfold gw_w0
      rw [gw_pk_bit hi g.1, ← gw_hs_b h]
  · rw [if_neg g, gw_nw_o (fun g2 => g ⟨g2.1, gw_rk_sk g2.2⟩)]
theorem gw_ho_0 {K H : Nat → Int32} {a : Nat} : gw_ho K 0 H a = H := by
  funext j
  exact if_neg (fun g => absurd g.1 (Nat.not_lt_zero _))
theorem gw_ho_t {K H : Nat → Int32} {a n : Nat} (hs : gw_sk K n = true) : upd (gw_ho K n H a) n (gw_b (gw_sa K a n)) = gw_ho K (n + 1) H a := by
  funext j
  by_cases e : j = n
  · subst e
    rw [pk_us]
    exact (if_pos ⟨by omega, hs⟩).symm
  · rw [pk_un e]
    unfold gw_ho
    by_cases g : j < n ∧ gw_sk K j = true
    · rw [if_pos g, if_pos ⟨by omega, g.2⟩]
    · rw [if_neg g, if_neg (fun g2 => g ⟨by omega, g2.2⟩)]
theorem gw_ho_f {K H : Nat → Int32} {a n : Nat} (hs : gw_sk K n = false) : gw_ho K n H a = gw_ho K (n + 1) H a := by
  funext j
  unfold gw_ho
  by_cases g : j < n ∧ gw_sk K j = true
  · rw [if_pos g, if_pos ⟨by omega, g.2⟩]
  · rw [if_neg g, if_neg (fun g2 => ?_)]
    by_cases e : j = n
    · subst e; rw [hs] at g2; exact Bool.false_ne_true g2.2
    · exact g ⟨by omega, g2.2⟩
/-- the same iteration from any place of the cycle on -/
theorem gw_rho_u {F : Nat → Nat} {c t0 t1 u n : Nat} (h : gw_Rho F c t0 t1) (hu : t0 ≤ u) (hn : u ≤ n) : gw_it F (u + (n - u) % (t1 - t0)) c = gw_it F n c := by
  have e := gw_rho_m h ((n - u) / (t1 - t0)) (u + (n - u) % (t1 - t0)) (by omega)
  rw [← e]
  have e2 := Nat.mod_add_div (n - u) (t1 - t0)
  rw [Nat.mul_comm] at e2
  rw [show u + (n - u) % (t1 - t0) + (n - u) / (t1 - t0) * (t1 - t0) = n by omega]
/-! a place that a function feels: the two ways of asking -/
theorem gw_felt {T : Nat → Bool} {s p : Nat} (hp : p < s) : (∃ a, a < 2 ^ s ∧ T a ≠ T (a ^^^ 2 ^ p)) ↔ ∃ a, a < 2 ^ s ∧ a.testBit p = false ∧ T (a ||| 2 ^ p) ≠ T a := by
  have h2 : (2 : Nat) ^ p < 2 ^ s := Nat.pow_lt_pow_right (by omega) hp
  have key : ∀ a : Nat, a.testBit p = false → a ^^^ 2 ^ p = a ||| 2 ^ p := fun a ha => by
    apply Nat.eq_of_testBit_eq
    intro i
    rw [Nat.testBit_xor, Nat.testBit_or, Nat.testBit_two_pow]
    by_cases e : p = i
    · subst e; rw [ha]; simp
    · rw [decide_eq_false e]; simp
  constructor
  · rintro ⟨a, ha, h⟩
    cases hb : a.testBit p with
    | false =>
      refine ⟨a, ha, hb, ?_⟩
      rw [← key a hb]
      exact fun e => h e.symm
    | true =>
      have hb2 : (a ^^^ 2 ^ p).testBit p = false := by
        rw [Nat.testBit_xor, Nat.testBit_two_pow_self, hb]; rfl
      refine ⟨a ^^^ 2 ^ p, Nat.xor_lt_two_pow ha h2, hb2, ?_⟩
      rw [← key _ hb2, Nat.xor_assoc, Nat.xor_self, Nat.xor_zero]
      exact h
  · rintro ⟨a, ha, hb, h⟩
    refine ⟨a, ha, ?_⟩
    rw [key a hb]
    exact fun e => h e.symm
/-! the parts of the inputs' mask are the offsets -/
def gw_msk (K : Nat → Int32) (m : Nat) : Nat := gw_pk (gw_sk K) (gw_ik K) m
theorem gw_msk_r {K : Nat → Int32} {m b n : Nat} (hb : b &&& gw_msk K m = b) (hn : n < m) (hr : gw_rk K n = true) : b.testBit (gw_cnt (gw_sk K) n) = false := by
  have hi : gw_ik K n = false := by
    cases h : gw_ik K n with
    | false => rfl
    | true => rw [gw_ik_rk h] at hr; exact absurd hr Bool.false_ne_true
  rw [← hb, Nat.testBit_and]
  unfold gw_msk
  rw [gw_pk_bit (gw_rk_sk hr) hn, hi, Bool.and_false]
theorem gw_msk_lt {K : Nat → Int32} {m b : Nat} (hb : b &&& gw_msk K m = b) : b < 2 ^ gw_cnt (gw_sk K) m := by
  rw [← hb]
  exact Nat.lt_of_le_of_lt Nat.and_le_right (gw_pk_lt _ _ _)
theorem gw_msk_le {K : Nat → Int32} {m b : Nat} (hb : b &&& gw_msk K m = b) : b ≤ gw_msk K m := by
  rw [← hb]
  exact Nat.and_le_right
theorem gw_msk_w {K : Nat → Int32} {m w : Nat} : gw_jn K m w 0 &&& gw_msk K m = gw_jn K m w 0 := by
  refine gw_num_ext (q := gw_sk K) (n := m) (Nat.lt_of_le_of_lt Nat.and_le_left (gw_jn_lt K m w 0)) (gw_jn_lt K m w 0) (fun j hj hs => ?_)
  rw [Nat.testBit_and]
  unfold gw_msk gw_jn
  rw [gw_pk_bit hs hj, gw_pk_bit hs hj]
  unfold gw_sc
  rcases gw_sk_or hs with h | h
  · rw [if_pos h, Nat.zero_testBit, Bool.false_and]
  · rw [h, Bool.and_true]
theorem gw_join {K : Nat → Int32} {m b c a : Nat} (hb : b &&& gw_msk K m = b) (ha : a < 2 ^ gw_cnt (gw_sk K) m) (h : ∀ n, n < m → gw_sk K n = true → a.testBit (gw_cnt (gw_sk K) n) = (b.testBit (gw_cnt (gw_sk K) n) || (gw_rk K n && c.testBit (gw_cnt (gw_rk K) n)))) : a = gw_jn K m (gw_of K m b) c := by
  refine gw_pk_of ha (fun j hj hs => ?_)
  rw [h j hj hs]
  unfold gw_sc
  rcases gw_sk_or hs with g | g
  · rw [if_pos g, gw_msk_r hb hj g, g]; rfl
  · rw [if_neg (by rw [gw_ik_rk g]; exact Bool.false_ne_true), gw_ik_rk g, Bool.false_and, Bool.or_false]
    exact (gw_pk_bit (b := gw_sa K b) g hj).symm
end
section
/-! truth values, least values, counts -/
theorem gw_nar {z : Int32} (h : z = 0 ∨ z = 1) : vp_nar .boolean z = z := by rcases h with rfl | rfl <;> rfl
theorem gw_narb (b : Bool) : vp_nar .boolean (gw_b b) = gw_b b := by cases b <;> rfl
theorem gw_nb {z : Int32} (h : z = 0 ∨ z = 1) : narrow .boolean (.int z) = .int z := by rcases h with rfl | rfl <;> decide
theorem gw_nbb (b : Bool) : narrow .boolean (.int (gw_b b)) = .int (gw_b b) := by cases b <;> decide
theorem gw_b01 (b : Bool) : gw_b b = 0 ∨ gw_b b = 1 := by cases b <;> decide
/-- x tells whether P -/
def gw_tv (P : Prop) (x : Int32) : Prop := (P ∧ x = 1) ∨ (¬ P ∧ x = 0)
theorem gw_tv_01 {P : Prop} {x : Int32} (h : gw_tv P x) : x = 0 ∨ x = 1 := by
  rcases h with ⟨_, e⟩ | ⟨_, e⟩
  · exact Or.inr e
  · exact Or.inl e
theorem gw_tv_0 {P : Prop} {x : Int32} (h : gw_tv P x) : x = 0 ↔ ¬ P := by
  rcases h with ⟨p, e⟩ | ⟨p, e⟩
  · rw [e]; exact ⟨fun g => absurd g (by decide), fun g => absurd p g⟩
  · rw [e]; exact ⟨fun _ => p, fun _ => rfl⟩
theorem gw_tv_iff {P Q : Prop} {x : Int32} (h : gw_tv P x) (e : P ↔ Q) : gw_tv Q x := by
  rcases h with ⟨p, g⟩ | ⟨p, g⟩
  · exact Or.inl ⟨e.mp p, g⟩
  · exact Or.inr ⟨fun q => p (e.mpr q), g⟩
theorem gw_tv_u {P : Prop} {x y : Int32} (h : gw_tv P x) (g : gw_tv P y) : x = y := by
  rcases h with ⟨p, e⟩ | ⟨p, e⟩ <;> rcases g with ⟨q, e'⟩ | ⟨q, e'⟩
  · rw [e, e']
  · exact absurd p q
  · exact absurd q p
  · rw [e, e']
theorem gw_tv_t {P : Prop} (h : P) : gw_tv P 1 := Or.inl ⟨h, rfl⟩
theorem gw_tv_f {P : Prop} (h : ¬ P) : gw_tv P 0 := Or.inr ⟨h, rfl⟩
theorem gw_tv_b (b : Bool) : gw_tv (b = true) (gw_b b) := by
  cases b
  · exact Or.inr ⟨Bool.false_ne_true, rfl⟩
  · exact Or.inl ⟨rfl, rfl⟩
/-- L is the least of G, or -1 -/
def gw_Mn (G : Nat → Prop) (L : Int32) : Prop := (L = -1 ∧ ∀ t, ¬ G t) ∨ ∃ t, t < 2 ^ 31 ∧ L = nI t ∧ G t ∧ ∀ s, G s → t ≤ s
theorem gw_Mn_u {G G' : Nat → Prop} {L L' : Int32} (h : gw_Mn G L) (g : gw_Mn G' L') (e : ∀ t, G t ↔ G' t) : L = L' := by
  rcases h with ⟨h1, h2⟩ | ⟨t, h1, h2, h3, h4⟩ <;> rcases g with ⟨g1, g2⟩ | ⟨s, g1, g2, g3, g4⟩
  · rw [h1, g1]
  · exact absurd ((e s).mpr g3) (h2 s)
  · exact absurd ((e t).mp h3) (g2 t)
  · have a := h4 s ((e s).mpr g3)
    have b := g4 t ((e t).mp h3)
    rw [h2, g2, show t = s by omega]
theorem gw_Mn_e {G G' : Nat → Prop} {L : Int32} (h : gw_Mn G L) (e : ∀ t, G t ↔ G' t) : gw_Mn G' L := by
  rcases h with ⟨h1, h2⟩ | ⟨t, h1, h2, h3, h4⟩
  · exact Or.inl ⟨h1, fun t g => h2 t ((e t).mpr g)⟩
  · exact Or.inr ⟨t, h1, h2, (e t).mp h3, fun s g => h4 s ((e s).mpr g)⟩
theorem gw_Mn_0 {G : Nat → Prop} (h : ∀ t, ¬ G t) : gw_Mn G (-1) := Or.inl ⟨rfl, h⟩
theorem gw_Mn_take {G : Nat → Prop} {L : Int32} {t : Nat} (h : gw_Mn G L) (ht : t < 2 ^ 31) (hl : L = -1 ∨ nI t < L) : gw_Mn (fun s => G s ∨ s = t) (nI t) := by
  refine Or.inr ⟨t, ht, rfl, Or.inr rfl, fun s hs => ?_⟩
  rcases hs with hs | hs
  · rcases h with ⟨_, h2⟩ | ⟨u, h1, h2, h3, h4⟩
    · exact absurd hs (h2 s)
    · rcases hl with hl | hl
      · rw [hl] at h2; exact absurd h2.symm (gw_m1 h1)
      · rw [h2, nI_ltI ht h1] at hl
        have := h4 s hs
        omega
  · omega
theorem gw_Mn_keep {G : Nat → Prop} {L : Int32} {t : Nat} (h : gw_Mn G L) (ht : t < 2 ^ 31) (h1 : L ≠ -1) (hl : ¬ nI t < L) : gw_Mn (fun s => G s ∨ s = t) L := by
  rcases h with ⟨e, _⟩ | ⟨u, h1, h2, h3, h4⟩
  · exact absurd e h1
  · refine Or.inr ⟨u, h1, h2, Or.inl h3, fun s hs => ?_⟩
    rw [h2, nI_ltI ht h1] at hl
    rcases hs with hs | hs
    · exact h4 s hs
    · omega
theorem gw_Mn_neg {G : Nat → Prop} {L : Int32} (h : gw_Mn G L) : L < 0 ↔ L = -1 := by
  rcases h with ⟨e, _⟩ | ⟨u, h1, h2, h3, h4⟩
  · rw [e]; decide
  · rw [h2]
    exact ⟨fun g => absurd g (nI_pos h1), fun g => absurd g (gw_m1 h1)⟩
/-! where the first repetition is found by a table -/
def gw_Sn (F : Nat → Nat) (c t : Nat) (a : Nat → Int32) : Prop := (∀ i, i < t → a (gw_it F i c) = nI i) ∧ (∀ x, x < 64 → (∀ i, i < t → gw_it F i c ≠ x) → a x = -1) ∧ ∀ i j, i < j → j < t → gw_it F i c ≠ gw_it F j c
theorem gw_Sn_0 {F : Nat → Nat} {c : Nat} {a : Nat → Int32} (h : ∀ x, x < 64 → a x = -1) : gw_Sn F c 0 a :=
  ⟨fun _ hi => absurd hi (Nat.not_lt_zero _), fun x hx _ => h x hx, fun _ _ _ hj => absurd hj (Nat.not_lt_zero _)⟩
theorem gw_Sn_hit {F : Nat → Nat} {c t : Nat} {a : Nat → Int32} (h : gw_Sn F c t a) (hx : gw_it F t c < 64) (e : a (gw_it F t c) ≠ -1) : ∃ t0, t0 < t ∧ a (gw_it F t c) = nI t0 ∧ gw_Rho F c t0 t := by
  by_cases g : ∃ i, i < t ∧ gw_it F i c = gw_it F t c
  · obtain ⟨i, h1, h2⟩ := g
    refine ⟨i, h1, ?_, h1, h2, h.2.2⟩
    rw [← h2]
    exact h.1 i h1
  · exact absurd (h.2.1 _ hx (fun i hi e2 => g ⟨i, hi, e2⟩)) e
theorem gw_Sn_miss {F : Nat → Nat} {c t : Nat} {a : Nat → Int32} (h : gw_Sn F c t a) (ht : t < 2 ^ 31) (e : a (gw_it F t c) = -1) : gw_Sn F c (t + 1) (upd a (gw_it F t c) (nI t)) := by
  have hne : ∀ i, i < t → gw_it F i c ≠ gw_it F t c := fun i hi g => by
    have := h.1 i hi
    rw [g, e] at this
    exact gw_m1 (show i < 2 ^ 31 by omega) this.symm
  refine ⟨fun i hi => ?_, fun x hx hn => ?_, fun i j h1 h2 => ?_⟩
  · rcases Nat.lt_or_ge i t with g | g
    · rw [pk_un (hne i g)]; exact h.1 i g
    · rw [show i = t by omega]; exact pk_us
  · rw [pk_un (fun g => hn t (by omega) g.symm)]
    exact h.2.1 x hx (fun i hi => hn i (by omega))
  · rcases Nat.lt_or_ge j t with g | g
    · exact h.2.2 i j h1 g
    · rw [show j = t by omega]; exact hne i (by omega)
/-! counting what is so -/
noncomputable def gw_dc (P : Nat → Prop) (n : Nat) : Bool := @decide (P n) (Classical.propDecidable _)
theorem gw_dc_t {P : Nat → Prop} {n : Nat} : gw_dc P n = true ↔ P n := by
  unfold gw_dc
  exact @decide_eq_true_iff _ (Classical.propDecidable _)
theorem gw_dc_f {P : Nat → Prop} {n : Nat} : gw_dc P n = false ↔ ¬ P n := by
  unfold gw_dc
  exact @decide_eq_false_iff_not _ (Classical.propDecidable _)
theorem gw_dc_st {P : Nat → Prop} {n : Nat} (h : P n) : gw_cnt (gw_dc P) (n + 1) = gw_cnt (gw_dc P) n + 1 := gw_cnt_t (gw_dc_t.mpr h)
theorem gw_dc_sf {P : Nat → Prop} {n : Nat} (h : ¬ P n) : gw_cnt (gw_dc P) (n + 1) = gw_cnt (gw_dc P) n := gw_cnt_f (gw_dc_f.mpr h)
theorem gw_dc_congr {P Q : Nat → Prop} {n : Nat} (h : ∀ j, j < n → (P j ↔ Q j)) : gw_cnt (gw_dc P) n = gw_cnt (gw_dc Q) n := by
  apply gw_cnt_congr
  intro j hj
  by_cases p : P j
  · rw [gw_dc_t.mpr p, gw_dc_t.mpr ((h j hj).mp p)]
  · rw [gw_dc_f.mpr p, gw_dc_f.mpr (fun q => p ((h j hj).mpr q))]
theorem gw_dc_up {P : Nat → Prop} {n m : Nat} (hn : n ≤ m) (h : ∀ j, n ≤ j → j < m → ¬ P j) : gw_cnt (gw_dc P) m = gw_cnt (gw_dc P) n := by
  induction m with
  | zero => rw [show n = 0 by omega]
  | succ m ih =>
    rcases Nat.lt_or_ge m n with g | g
    · rw [show n = m + 1 by omega]
    · rw [gw_dc_sf (h m g (by omega)), ih g (fun j h1 h2 => h j h1 (by omega))]
/-! prime cubes -/
def gw_pr (m : Nat) (T : Nat → Bool) (c : Nat) : Prop := gw_hd m T c ∧ ∀ k, k < m → gw_dg c k ≠ 2 → ¬ gw_hd m T (c + (2 - gw_dg c k) * 3 ^ k)
/-! levels, as both sides find them -/
def gw_bt (K X Y Z : Nat → Int32) (n : Nat) (S : Nat → Bool) : Bool := gw_bk (gw_sk K) (gw_op K X Y Z) S n (gw_op K X Y Z n)
def gw_LV (K X Y Z : Nat → Int32) (k : Nat) (lev : Nat → Nat) (n : Nat) : Prop :=
  ∀ j, j < n → ((K j = 0 ∨ K j = 1 ∨ K j = 2) → lev j = 0) ∧ (¬ (K j = 0 ∨ K j = 1 ∨ K j = 2) → (gw_bt K X Y Z j (fun _ => false) = true → lev j = 1) ∧ (gw_bt K X Y Z j (fun _ => false) = false → ∃ B, gw_IB (gw_bt K X Y Z j) lev k j (fun _ _ _ => True) B ∧ lev j = if B = 99 then 99 else B + 1))
theorem gw_IB_lev {btw : (Nat → Bool) → Bool} {lev lev' : Nat → Nat} {k net : Nat} {P : Nat → Nat → Nat → Prop} {B : Nat} (h : gw_IB btw lev k net P B) (e : ∀ j, j < net → lev j = lev' j) : gw_IB btw lev' k net P B := by
  have e3 : ∀ a b c, gw_tr k net a b c → gw_mx lev a b c = gw_mx lev' a b c := fun a b c ht => by
    obtain ⟨h1, h2, h3, _, _⟩ := ht
    unfold gw_mx
    rw [e a h3, e b (by omega), e c (by omega)]
  refine ⟨h.1, ?_, fun a b c ht hp hb => by rw [← e3 a b c ht]; exact h.2.2 a b c ht hp hb⟩
  rcases h.2.1 with g | ⟨a, b, c, ht, hb, g⟩
  · exact Or.inl g
  · exact Or.inr ⟨a, b, c, ht, hb, by rw [← e3 a b c ht]; exact g⟩
theorem gw_LV_u {K X Y Z : Nat → Int32} {k : Nat} {lev lev' : Nat → Nat} {n : Nat} (h : gw_LV K X Y Z k lev n) (g : gw_LV K X Y Z k lev' n) : ∀ j, j < n → lev j = lev' j := by
  intro j
  induction j using Nat.strongRecOn with
  | ind j ih =>
    intro hj
    obtain ⟨h1, h2⟩ := h j hj
    obtain ⟨g1, g2⟩ := g j hj
    by_cases c : K j = 0 ∨ K j = 1 ∨ K j = 2
    · rw [h1 c, g1 c]
    · cases b : gw_bt K X Y Z j (fun _ => false) with
      | true => rw [(h2 c).1 b, (g2 c).1 b]
      | false =>
        obtain ⟨B, hB, e⟩ := (h2 c).2 b
        obtain ⟨C, hC, e'⟩ := (g2 c).2 b
        have := gw_IB_u (gw_IB_lev hB (fun i hi => ih i hi (by omega))) hC (fun _ _ _ _ => True.intro) (fun _ _ _ _ => True.intro)
        rw [e, e', this]
theorem gw_LV_le {K X Y Z : Nat → Int32} {k : Nat} {lev : Nat → Nat} {n m : Nat} (h : gw_LV K X Y Z k lev m) (hn : n ≤ m) : gw_LV K X Y Z k lev n := fun j hj => h j (by omega)
/-- a level once found stands, whatever lev says further on -/
theorem gw_LV_s {K X Y Z : Nat → Int32} {k : Nat} {lev : Nat → Nat} {n v : Nat} (h : gw_LV K X Y Z k lev n) (h1 : (K n = 0 ∨ K n = 1 ∨ K n = 2) → v = 0) (h2 : ¬ (K n = 0 ∨ K n = 1 ∨ K n = 2) → (gw_bt K X Y Z n (fun _ => false) = true → v = 1) ∧ (gw_bt K X Y Z n (fun _ => false) = false → ∃ B, gw_IB (gw_bt K X Y Z n) lev k n (fun _ _ _ => True) B ∧ v = if B = 99 then 99 else B + 1)) : gw_LV K X Y Z k (fun j => if j = n then v else lev j) (n + 1) := by
  have low : ∀ j, j < n → lev j = (if j = n then v else lev j) := fun j hj => by rw [if_neg (by omega)]
  intro j hj
  by_cases e : j = n
  · subst e
    dsimp only
    rw [if_pos rfl]
    refine ⟨h1, fun c => ⟨(h2 c).1, fun b => ?_⟩⟩
    obtain ⟨B, hB, e⟩ := (h2 c).2 b
    exact ⟨B, gw_IB_lev hB low, e⟩
  · dsimp only
    rw [if_neg e]
    obtain ⟨g1, g2⟩ := h j (by omega)
    refine ⟨g1, fun c => ⟨(g2 c).1, fun b => ?_⟩⟩
    obtain ⟨B, hB, e'⟩ := (g2 c).2 b
    exact ⟨B, gw_IB_lev hB (fun i hi => low i (by omega)), e'⟩
theorem gw_LV_b {K X Y Z : Nat → Int32} {k : Nat} {lev : Nat → Nat} {n : Nat} (h0 : ∀ j, j < n → ¬ (K j = 0 ∨ K j = 1 ∨ K j = 2) → 0 < j) (h : gw_LV K X Y Z k lev n) : ∀ j, j < n → lev j ≤ j ∨ lev j = 99 := by
  intro j
  induction j using Nat.strongRecOn with
  | ind j ih =>
    intro hj
    obtain ⟨h1, h2⟩ := h j hj
    by_cases c : K j = 0 ∨ K j = 1 ∨ K j = 2
    · rw [h1 c]; omega
    · have h3 := h0 j hj c
      cases b : gw_bt K X Y Z j (fun _ => false) with
      | true => rw [(h2 c).1 b]; omega
      | false =>
        obtain ⟨B, hB, e⟩ := (h2 c).2 b
        rcases gw_IB_lt (n := j - 1) hB (fun i hi => by
          have := ih i hi (by omega)
          omega) with g | g
        · rw [e]
          split
          · exact Or.inr rfl
          · left; omega
        · rw [e, if_pos g]
          exact Or.inr rfl
end
section
/-! the relation: both sides hold the same circuit -/
def gw_C (K X Y Z F H : Nat → Int32) (m : Nat) : Prop := m ≤ 32 ∧ gw_W K X Y Z F m ∧ gw_01 H ∧ gw_cnt (gw_sk K) m ≤ 10 ∧ gw_cnt (gw_rk K) m ≤ 6
def i_Rel (_ : Nat) (u : SX) (v : SY) : Prop :=
  ∃ (m : Nat) (K X Y Z F H : Nat → Int32), gw_C K X Y Z F H m ∧ (∃ (tl pe : Int32) (xO xN xC xS xL xE xG xW xM xP : Nat → Int32), u = (nI m, nI (gw_cnt (gw_sk K) m), nI (gw_cnt (gw_rk K) m), tl, pe, K, X, Y, Z, F, H, xO, xN, xC, xS, xL, xE, xG, xW, xM, xP)) ∧ ∃ (yA yO yS yR yL yN yD yT yM yF yW yP : Nat → Int32), v = (nI m, nI (gw_cnt (gw_sk K) m), nI (gw_cnt (gw_rk K) m), K, X, Y, Z, F, H, yA, yO, yS, yR, yL, yN, yD, yT, yM, yF, yW, yP) ∧ gw_En (gw_sk K) yS m ∧ gw_En (gw_rk K) yR m
theorem i_up {k : Nat} {u : SX} {v : SY} (h : i_Rel k u v) : i_Rel (k + 6) u v := h
theorem gw_rel {k m : Nat} {K X Y Z F H : Nat → Int32} {tl pe : Int32} {xO xN xC xS xL xE xG xW xM xP yA yO yS yR yL yN yD yT yM yF yW yP : Nat → Int32} (hC : gw_C K X Y Z F H m) (hS : gw_En (gw_sk K) yS m) (hR : gw_En (gw_rk K) yR m) : i_Rel k (nI m, nI (gw_cnt (gw_sk K) m), nI (gw_cnt (gw_rk K) m), tl, pe, K, X, Y, Z, F, H, xO, xN, xC, xS, xL, xE, xG, xW, xM, xP) (nI m, nI (gw_cnt (gw_sk K) m), nI (gw_cnt (gw_rk K) m), K, X, Y, Z, F, H, yA, yO, yS, yR, yL, yN, yD, yT, yM, yF, yW, yP) :=
  ⟨m, K, X, Y, Z, F, H, hC, ⟨tl, pe, xO, xN, xC, xS, xL, xE, xG, xW, xM, xP, rfl⟩, ⟨yA, yO, yS, yR, yL, yN, yD, yT, yM, yF, yW, yP, rfl, hS, hR⟩⟩
theorem gw_fz {f d : Nat} (h : d < f) : ∃ g, f = g + 1 := ⟨f - 1, by omega⟩
theorem gw_net {x : Int32} {m : Nat} (hm : m < 2 ^ 31) : (∃ n, n < m ∧ x = nI n) ∨ ¬ (0 ≤ x ∧ x < nI m) := by
  by_cases h : 0 ≤ x ∧ x < nI m
  · exact Or.inl ((gw_bl_iff hm).mpr h)
  · exact Or.inr h
end
section
/-! the component's private methods: nets, values, assignments -/
theorem gw_n10 : ¬ (1 : Int32) = 0 := by decide
theorem gw_sub1 (b : Bool) : 1 - gw_b b = gw_b (!b) := by cases b <;> decide
theorem gw_andb (a b : Bool) : gw_b a &&& gw_b b = gw_b (a && b) := by cases a <;> cases b <;> decide
theorem gw_orbb (a b : Bool) : gw_b a ||| gw_b b = gw_b (a || b) := by cases a <;> cases b <;> decide
theorem gw_xorb (a b : Bool) : gw_b a ^^^ gw_b b = gw_b (a ^^ b) := by cases a <;> cases b <;> decide
section
variable {m s r : Nat} {tl pe : Int32} {K X Y Z F H xO xN xC xS xL xE xG xW xM xP : Nat → Int32}
theorem gx_sk {post : Int32 → Prop} {k : Int32} (h1 : (k = 0 ∨ k = 1) → post 1) (h0 : ¬ (k = 0 ∨ k = 1) → post 0) : wpX_isSourceKind post k :=
  br_c (fun e => h1 (Or.inl e)) (fun e => br_c (fun e1 => h1 (Or.inr e1)) (fun e1 => h0 (fun g => g.elim e e1)))
theorem gx_net {post : Int32 → Prop} {n : Nat} (hm : m ≤ 32) (hn : n < m) (h : post 1) : wpX_isNet post (nI m, nI s, nI r, tl, pe, K, X, Y, Z, F, H, xO, xN, xC, xS, xL, xE, xG, xW, xM, xP) (nI n) :=
  br_f (nI_pos (by omega)) (br_f (nI_ge hn (by omega)) h)
theorem gx_nonet {post : Int32 → Prop} {x : Int32} (hx : ¬ (0 ≤ x ∧ x < nI m)) (h : post 0) : wpX_isNet post (nI m, nI s, nI r, tl, pe, K, X, Y, Z, F, H, xO, xN, xC, xS, xL, xE, xG, xW, xM, xP) x := by
  by_cases c : x < 0
  · exact br_t c h
  · exact br_f c (br_t (Int32.not_lt.mp (fun g => hx ⟨Int32.not_lt.mp c, g⟩)) h)
theorem gx_src {post : Int32 → Prop} {x : Int32} (hm : m ≤ 32) (h1 : ∀ n, n < m → x = nI n → gw_sk K n = true → post 1) (h0 : (∀ n, n < m → x = nI n → gw_sk K n = false) → post 0) : wpX_isSource post (nI m, nI s, nI r, tl, pe, K, X, Y, Z, F, H, xO, xN, xC, xS, xL, xE, xG, xW, xM, xP) x := by
  unfold wpX_isSource
  dsimp only
  rcases gw_net (x := x) (m := m) (by omega) with ⟨n, hn, rfl⟩ | hx
  · have cn : (nI n).toNatClampNeg = n := nI_clamp (by omega)
    refine gx_net hm hn (br_f gw_n10 ⟨vp_in_nI (by omega) (by omega), gx_sk (fun hk => br_f gw_n10 ?_) (fun hk => br_t rfl ?_)⟩)
    · rw [cn] at hk
      exact h1 n hn rfl (gw_sk_t.mpr hk)
    · rw [cn] at hk
      refine h0 (fun j hj e => ?_)
      rw [nI_eq (by omega) (by omega)] at e
      subst e
      exact gw_sk_f.mpr hk
  · refine gx_nonet hx (br_t rfl (h0 (fun n hn e => absurd ?_ hx)))
    exact (gw_bl_iff (by omega)).mp ⟨n, hn, e⟩
theorem gx_bit {post : Int32 → Prop} {x : Int32} {p : Nat} (hp : p < 32) (h : post (gw_b (bt x p))) : wpX_bitAt post x (nI p) := by
  unfold wpX_bitAt
  rw [gw_bitAt x hp]
  exact h
theorem gx_gate {post : Int32 → Prop} {n : Nat} {v : Int32} {w : Nat → Bool} (hm : m ≤ 32) (hW : gw_W K X Y Z F m) (hn : n < m) (hs : gw_sk K n = false) (hv : ∀ j, j < n → bt v j = w j) (h : post (gw_b (gw_gate K X Y Z w n))) : wpX_gateBit post (nI m, nI s, nI r, tl, pe, K, X, Y, Z, F, H, xO, xN, xC, xS, xL, xE, xG, xW, xM, xP) (nI n) v := by
  have cn : (nI n).toNatClampNeg = n := nI_clamp (by omega)
  have vn : vp_in (nI n) 32 := vp_in_nI (by omega) (by omega)
  have hk := gw_sk_f.mp hs
  unfold wpX_gateBit
  simp only [wpX_bitAt, cn]
  refine ⟨vn, vn, vn, vn, ?_⟩
  rcases (hW n hn).1 with e | e | ⟨e, hx⟩ | ⟨e, jx, hjx, ex⟩ | ⟨e, ⟨jx, hjx, ex⟩, ⟨jy, hjy, ey⟩⟩ | ⟨e, ⟨jx, hjx, ex⟩, ⟨jy, hjy, ey⟩, ⟨jz, hjz, ez⟩⟩
  · exact absurd (Or.inl e) hk
  · exact absurd (Or.inr e) hk
  · refine nm_r e (br_t (by decide) ⟨vn, ?_⟩)
    have g : gw_gate K X Y Z w n = decide (X n = 1) := by unfold gw_gate; rw [if_pos e]
    rw [g] at h
    rcases hx with hx | hx <;> rw [hx] at h ⊢ <;> exact h
  · have cx : (X n).toNatClampNeg = jx := by rw [ex]; exact nI_clamp (by omega)
    refine nm_r e (br_f (by decide) (br_f (by decide) (br_t rfl ?_)))
    have g : gw_gate K X Y Z w n = !(w jx) := by unfold gw_gate; rw [e, cx]; rfl
    rw [ex, gw_bitAt v (by omega), hv jx hjx, gw_sub1, ← g]
    exact h
  · have cx : (X n).toNatClampNeg = jx := by rw [ex]; exact nI_clamp (by omega)
    have cy : (Y n).toNatClampNeg = jy := by rw [ey]; exact nI_clamp (by omega)
    rcases e with e | e | e
    · have g : gw_gate K X Y Z w n = (w jx && w jy) := by unfold gw_gate; rw [e, cx, cy]; rfl
      refine nm_r e (br_f (by decide) (br_f (by decide) (br_f (by decide) (br_t rfl ?_))))
      rw [ex, ey, gw_bitAt v (by omega), gw_bitAt v (by omega), hv jx hjx, hv jy hjy, gw_andb, ← g]
      exact h
    · have g : gw_gate K X Y Z w n = (w jx || w jy) := by unfold gw_gate; rw [e, cx, cy]; rfl
      refine nm_r e (br_f (by decide) (br_f (by decide) (br_f (by decide) (br_f (by decide) (br_t rfl ?_)))))
      rw [ex, ey, gw_bitAt v (by omega), gw_bitAt v (by omega), hv jx hjx, hv jy hjy, gw_orbb, ← g]
      exact h
    · have g : gw_gate K X Y Z w n = (w jx ^^ w jy) := by unfold gw_gate; rw [e, cx, cy]; rfl
      refine nm_r e (br_f (by decide) (br_f (by decide) (br_f (by decide) (br_f (by decide) (br_f (by decide) (br_t rfl ?_))))))
      rw [ex, ey, gw_bitAt v (by omega), gw_bitAt v (by omega), hv jx hjx, hv jy hjy, gw_xorb, ← g]
      exact h
  · have cx : (X n).toNatClampNeg = jx := by rw [ex]; exact nI_clamp (by omega)
    have cy : (Y n).toNatClampNeg = jy := by rw [ey]; exact nI_clamp (by omega)
    have cz : (Z n).toNatClampNeg = jz := by rw [ez]; exact nI_clamp (by omega)
    have g : gw_gate K X Y Z w n = if w jx = true then w jy else w jz := by unfold gw_gate; rw [e, cx, cy, cz]; rfl
    refine nm_r e (br_f (by decide) (br_f (by decide) (br_f (by decide) (br_f (by decide) (br_f (by decide) (br_f (by decide) (br_t rfl ?_)))))))
    rw [ex, ey, ez, gw_bitAt v (by omega), gw_bitAt v (by omega), gw_bitAt v (by omega), hv jx hjx, hv jy hjy, hv jz hjz]
    cases c : w jx with
    | true => rw [g, if_pos c] at h; exact br_t rfl h
    | false => rw [g, if_neg (by rw [c]; exact Bool.false_ne_true)] at h; exact br_f (by decide) h
theorem gx_val_l {post : Int32 → Prop} {a f : Nat} {o : Bool} {fi oi : Int32} (hm : m ≤ 32) (hW : gw_W K X Y Z F m) (hf : ∀ n, n < m → (nI n = fi ↔ n = f)) (ho : f < m → oi = gw_b o) (h : ∀ v, (∀ j, j < 32 → bt v j = gw_ev K X Y Z (gw_sa K a) f o m j) → post v) : ∀ d n g v, n + d = m → d < g → (∀ j, j < 32 → bt v j = gw_ev K X Y Z (gw_sa K a) f o n j) → wX_valuesWith_9 post (nI a) fi oi (nI m) (nI s) (nI r) tl pe K X Y Z F H xO xN xC xS xL xE xG xW xM xP g v (nI (gw_cnt (gw_sk K) n)) (nI n) := by
  intro d
  induction d with
  | zero =>
    intro n g v h1 h2 hv
    obtain ⟨g, rfl⟩ := gw_fz h2
    have e : n = m := by omega
    rw [wX_valuesWith_9]
    refine br_t (nI_le (by omega) (by omega)) (h v ?_)
    rw [← e]
    exact hv
  | succ d ih =>
    intro n g v h1 h2 hv
    obtain ⟨g, rfl⟩ := gw_fz h2
    have cn : (nI n).toNatClampNeg = n := nI_clamp (by omega)
    have vn : vp_in (nI n) 32 := vp_in_nI (by omega) (by omega)
    have hc := gw_cnt_le (gw_sk K) n
    have bits : ∀ b : Bool, b = gw_ev K X Y Z (gw_sa K a) f o (n + 1) n → ∀ j, j < 32 → bt (v ||| (gw_b b <<< (nI n &&& 31))) j = gw_ev K X Y Z (gw_sa K a) f o (n + 1) j := by
      intro b hb j hj
      rw [gw_orb v b (by omega) hj, hv j hj]
      by_cases e : j = n
      · subst e
        rw [gw_ev_hi (Nat.le_refl _), decide_eq_true rfl, Bool.false_or, Bool.true_and, hb]
      · rw [gw_ev_ne e, decide_eq_false e, Bool.false_and, Bool.or_false]
    have key : ∀ (b : Bool) (c : Nat), (n ≠ f → b = gw_ev K X Y Z (gw_sa K a) f o (n + 1) n) → c = gw_cnt (gw_sk K) (n + 1) → wX_valuesWith_55 post (wX_valuesWith_9 post (nI a) fi oi (nI m) (nI s) (nI r) tl pe K X Y Z F H xO xN xC xS xL xE xG xW xM xP g) (nI a) fi oi v (nI c) (nI n) (gw_b b) (nI m) (nI s) (nI r) tl pe K X Y Z F H xO xN xC xS xL xE xG xW xM xP := by
      intro b c hb hc'
      subst hc'
      by_cases e : n = f
      · refine br_t ((hf n (by omega)).mpr e) (nm_e (nm_r (nI_1 n) (ih (n + 1) g _ (by omega) (by omega) ?_)))
        rw [ho (by omega)]
        refine bits o ?_
        rw [gw_ev_at, if_pos e]
      · exact br_f (fun q => e ((hf n (by omega)).mp q)) (nm_e (nm_r (nI_1 n) (ih (n + 1) g _ (by omega) (by omega) (bits b (hb e)))))
    rw [wX_valuesWith_9]
    refine br_f (nI_ge (by omega) (by omega)) ⟨vn, gx_sk (fun hk => br_f gw_n10 ?_) (fun hk => br_t rfl ?_)⟩
    · rw [cn] at hk
      have hs := gw_sk_t.mpr hk
      refine gx_bit (by omega) (nm_r (nI_1 _) (key _ _ (fun e => ?_) (gw_cnt_t hs).symm))
      rw [gw_ev_at, if_neg e, if_pos hs, gw_nIb a (by omega)]
      rfl
    · rw [cn] at hk
      have hs := gw_sk_f.mpr hk
      refine gx_gate (w := gw_ev K X Y Z (gw_sa K a) f o n) hm hW (by omega) hs (fun j hj => hv j (by omega)) (key _ _ (fun e => ?_) (gw_cnt_f hs).symm)
      rw [gw_ev_at, if_neg e, if_neg (by rw [hs]; exact Bool.false_ne_true)]
theorem gx_val {post : Int32 → Prop} {a f : Nat} {o : Bool} {fi oi : Int32} (hm : m ≤ 32) (hW : gw_W K X Y Z F m) (hf : ∀ n, n < m → (nI n = fi ↔ n = f)) (ho : f < m → oi = gw_b o) (h : ∀ v, (∀ j, j < 32 → bt v j = gw_ev K X Y Z (gw_sa K a) f o m j) → post v) : wpX_valuesWith post (nI m, nI s, nI r, tl, pe, K, X, Y, Z, F, H, xO, xN, xC, xS, xL, xE, xG, xW, xM, xP) (nI a) fi oi :=
  ⟨m + 1, gx_val_l hm hW hf ho h m 0 (m + 1) 0 (by omega) (by omega) (fun j _ => b_0 j)⟩
theorem gx_v {post : Int32 → Prop} {a : Nat} (hm : m ≤ 32) (hW : gw_W K X Y Z F m) (h : ∀ v, (∀ j, j < 32 → bt v j = gw_v K X Y Z m (gw_sa K a) j) → post v) : wpX_valuesWith post (nI m, nI s, nI r, tl, pe, K, X, Y, Z, F, H, xO, xN, xC, xS, xL, xE, xG, xW, xM, xP) (nI a) (-1) 0 :=
  gx_val (f := 32) (o := false) hm hW (fun n hn => ⟨fun e => absurd e (gw_m1 (by omega)), fun e => absurd e (by omega)⟩) (fun e => absurd e (by omega)) h
theorem gx_pres_l {post : Int32 → Prop} (hm : m ≤ 32) (h01 : gw_01 H) (h : post (nI (gw_a0 K m H))) : ∀ d n g, n + d = m → d < g → wX_presentAssignment_6 post (nI m) (nI s) (nI r) tl pe K X Y Z F H xO xN xC xS xL xE xG xW xM xP g (nI (gw_pk (gw_sk K) (gw_hs H) n)) (nI (gw_cnt (gw_sk K) n)) (nI n) := by
  intro d
  induction d with
  | zero =>
    intro n g h1 h2
    obtain ⟨g, rfl⟩ := gw_fz h2
    have e : n = m := by omega
    rw [wX_presentAssignment_6]
    refine br_t (nI_le (by omega) (by omega)) ?_
    rw [e]
    exact h
  | succ d ih =>
    intro n g h1 h2
    obtain ⟨g, rfl⟩ := gw_fz h2
    have cn : (nI n).toNatClampNeg = n := nI_clamp (by omega)
    have vn : vp_in (nI n) 32 := vp_in_nI (by omega) (by omega)
    have hc := gw_cnt_le (gw_sk K) n
    have ihn := ih (n + 1) g (by omega) (by omega)
    rw [wX_presentAssignment_6]
    refine br_f (nI_ge (by omega) (by omega)) ⟨vn, gx_sk (fun hk => br_f gw_n10 ⟨vn, ?_⟩) (fun hk => br_t rfl (nm_r (nI_1 n) ?_))⟩
    · rw [cn] at hk
      have hs := gw_sk_t.mpr hk
      rw [gw_pk_t hs, gw_cnt_t hs] at ihn
      refine nm_r ?_ (nm_r (nI_1 _) (nm_r (nI_1 n) ihn))
      rw [cn, gw_hs_b h01 n, gw_or _ _ (by omega)]
    · rw [cn] at hk
      have hs := gw_sk_f.mpr hk
      rw [gw_pk_f hs, gw_cnt_f hs] at ihn
      exact ihn
theorem gx_pres {post : Int32 → Prop} (hm : m ≤ 32) (h01 : gw_01 H) (h : post (nI (gw_a0 K m H))) : wpX_presentAssignment post (nI m, nI s, nI r, tl, pe, K, X, Y, Z, F, H, xO, xN, xC, xS, xL, xE, xG, xW, xM, xP) :=
  ⟨m + 1, gx_pres_l hm h01 h m 0 (m + 1) (by omega) (by omega)⟩
theorem gx_hold_l {post : SX → Prop} {a : Nat} (hm : m ≤ 32) (h : post (nI m, nI s, nI r, tl, pe, K, X, Y, Z, F, gw_ho K m H a, xO, xN, xC, xS, xL, xE, xG, xW, xM, xP)) : ∀ d n g, n + d = m → d < g → wX_hold_4 post (nI a) (nI m) (nI s) (nI r) tl pe g (nI (gw_cnt (gw_sk K) n)) (nI n) K X Y Z F (gw_ho K n H a) xO xN xC xS xL xE xG xW xM xP := by
  intro d
  induction d with
  | zero =>
    intro n g h1 h2
    obtain ⟨g, rfl⟩ := gw_fz h2
    have e : n = m := by omega
    rw [wX_hold_4]
    refine br_t (nI_le (by omega) (by omega)) ?_
    rw [e]
    exact h
  | succ d ih =>
    intro n g h1 h2
    obtain ⟨g, rfl⟩ := gw_fz h2
    have cn : (nI n).toNatClampNeg = n := nI_clamp (by omega)
    have vn : vp_in (nI n) 32 := vp_in_nI (by omega) (by omega)
    have hc := gw_cnt_le (gw_sk K) n
    have ihn := ih (n + 1) g (by omega) (by omega)
    rw [wX_hold_4]
    refine br_f (nI_ge (by omega) (by omega)) ⟨vn, gx_sk (fun hk => br_f gw_n10 (gx_bit (by omega) ⟨vn, ?_⟩)) (fun hk => br_t rfl (nm_r (nI_1 n) ?_))⟩
    · rw [cn] at hk
      have hs := gw_sk_t.mpr hk
      rw [gw_cnt_t hs] at ihn
      refine nm_r ?_ (nm_r (nI_1 _) (nm_r (nI_1 n) ihn))
      rw [cn, gw_nIb a (by omega)]
      exact gw_ho_t hs
    · rw [cn] at hk
      have hs := gw_sk_f.mpr hk
      rw [gw_cnt_f hs, ← gw_ho_f hs] at ihn
      exact ihn
theorem gx_hold {post : SX → Prop} {a : Nat} (hm : m ≤ 32) (h : post (nI m, nI s, nI r, tl, pe, K, X, Y, Z, F, gw_ho K m H a, xO, xN, xC, xS, xL, xE, xG, xW, xM, xP)) : wpX_hold post (nI m, nI s, nI r, tl, pe, K, X, Y, Z, F, H, xO, xN, xC, xS, xL, xE, xG, xW, xM, xP) (nI a) := by
  have g := gx_hold_l (tl := tl) (pe := pe) (s := s) (r := r) (xO := xO) (xN := xN) (xC := xC) (xS := xS) (xL := xL) (xE := xE) (xG := xG) (xW := xW) (xM := xM) (xP := xP) hm h m 0 (m + 1) (by omega) (by omega)
  rw [gw_ho_0] at g
  exact ⟨m + 1, g⟩
theorem gx_pick_l {post : Int32 → Prop} {a : Nat} {k : Int32} {q : Nat → Bool} (hm : m ≤ 32) (hq : ∀ n, q n = decide (K n = k)) (hk : k = 0 ∨ k = 1) (h : post (nI (gw_pk q (gw_sa K a) m))) : ∀ d n g, n + d = m → d < g → wX_pickBits_11 post (nI a) k (nI m) (nI s) (nI r) tl pe K X Y Z F H xO xN xC xS xL xE xG xW xM xP g (nI (gw_pk q (gw_sa K a) n)) (nI (gw_cnt (gw_sk K) n)) (nI (gw_cnt q n)) (nI n) := by
  intro d
  induction d with
  | zero =>
    intro n g h1 h2
    obtain ⟨g, rfl⟩ := gw_fz h2
    have e : n = m := by omega
    rw [wX_pickBits_11]
    refine br_t (nI_le (by omega) (by omega)) ?_
    rw [e]
    exact h
  | succ d ih =>
    intro n g h1 h2
    obtain ⟨g, rfl⟩ := gw_fz h2
    have cn : (nI n).toNatClampNeg = n := nI_clamp (by omega)
    have vn : vp_in (nI n) 32 := vp_in_nI (by omega) (by omega)
    have hc := gw_cnt_le (gw_sk K) n
    have hc2 := gw_cnt_le q n
    have ihn := ih (n + 1) g (by omega) (by omega)
    rw [wX_pickBits_11]
    refine br_f (nI_ge (by omega) (by omega)) ⟨vn, gx_sk (fun hk' => br_f gw_n10 ⟨vn, br_c (fun e => gx_bit (by omega) ?_) (fun e => ?_)⟩) (fun hk' => br_t rfl (nm_r (nI_1 n) ?_))⟩
    · rw [cn] at hk' e
      have hs := gw_sk_t.mpr hk'
      have hqn : q n = true := by rw [hq]; exact decide_eq_true e
      rw [gw_pk_t hqn, gw_cnt_t hs, gw_cnt_t hqn] at ihn
      refine nm_r ?_ (nm_r (nI_1 _) (nm_r (nI_1 _) (nm_r (nI_1 n) ihn)))
      rw [gw_nIb a (by omega)]
      exact gw_or _ _ (by omega)
    · rw [cn] at hk' e
      have hs := gw_sk_t.mpr hk'
      have hqn : q n = false := by rw [hq]; exact decide_eq_false e
      rw [gw_pk_f hqn, gw_cnt_t hs, gw_cnt_f hqn] at ihn
      exact nm_r (nI_1 _) (nm_r (nI_1 n) ihn)
    · rw [cn] at hk'
      have hs := gw_sk_f.mpr hk'
      have hqn : q n = false := by
        rw [hq]
        exact decide_eq_false (fun e => hk' (by rcases hk with hk | hk <;> rw [e, hk] <;> decide))
      rw [gw_pk_f hqn, gw_cnt_f hs, gw_cnt_f hqn] at ihn
      exact ihn
theorem gx_conf {post : Int32 → Prop} {a : Nat} (hm : m ≤ 32) (h : post (nI (gw_co K m a))) : wpX_configurationOf post (nI m, nI s, nI r, tl, pe, K, X, Y, Z, F, H, xO, xN, xC, xS, xL, xE, xG, xW, xM, xP) (nI a) := by
  unfold wpX_configurationOf
  dsimp only
  exact ⟨m + 1, gx_pick_l (q := gw_rk K) hm (fun _ => rfl) (Or.inr rfl) h m 0 (m + 1) (by omega) (by omega)⟩
theorem gx_offs {post : Int32 → Prop} {a : Nat} (hm : m ≤ 32) (h : post (nI (gw_of K m a))) : wpX_pickBits post (nI m, nI s, nI r, tl, pe, K, X, Y, Z, F, H, xO, xN, xC, xS, xL, xE, xG, xW, xM, xP) (nI a) 0 :=
  ⟨m + 1, gx_pick_l (q := gw_ik K) hm (fun _ => rfl) (Or.inl rfl) h m 0 (m + 1) (by omega) (by omega)⟩
theorem gx_aft_l {post : Int32 → Prop} {v : Int32} {w : Nat → Bool} (hm : m ≤ 32) (hW : gw_W K X Y Z F m) (hv : ∀ j, j < 32 → bt v j = w j) (h : post (nI (gw_pk (gw_sk K) (fun n => w (F n).toNatClampNeg) m))) : ∀ d n g, n + d = m → d < g → wX_assignmentAfter_16 post v (nI m) (nI s) (nI r) tl pe K X Y Z F H xO xN xC xS xL xE xG xW xM xP g (nI (gw_pk (gw_sk K) (fun n => w (F n).toNatClampNeg) n)) (nI (gw_cnt (gw_sk K) n)) (nI n) := by
  intro d
  induction d with
  | zero =>
    intro n g h1 h2
    obtain ⟨g, rfl⟩ := gw_fz h2
    have e : n = m := by omega
    rw [wX_assignmentAfter_16]
    refine br_t (nI_le (by omega) (by omega)) ?_
    rw [e]
    exact h
  | succ d ih =>
    intro n g h1 h2
    obtain ⟨g, rfl⟩ := gw_fz h2
    have cn : (nI n).toNatClampNeg = n := nI_clamp (by omega)
    have vn : vp_in (nI n) 32 := vp_in_nI (by omega) (by omega)
    have hc := gw_cnt_le (gw_sk K) n
    have ihn := ih (n + 1) g (by omega) (by omega)
    rw [wX_assignmentAfter_16]
    refine br_f (nI_ge (by omega) (by omega)) ⟨vn, gx_sk (fun hk => br_f gw_n10 ⟨vn, ?_⟩) (fun hk => br_t rfl (nm_r (nI_1 n) ?_))⟩
    · rw [cn] at hk
      have hs := gw_sk_t.mpr hk
      obtain ⟨p, hp, ep⟩ : ∃ p, p < 32 ∧ F n = nI p := by
        rcases hk with hk | hk
        · exact ⟨n, by omega, (hW n (by omega)).2.2 hk⟩
        · obtain ⟨p, h3, h4⟩ := (hW n (by omega)).2.1 hk
          exact ⟨p, by omega, h4⟩
      have cp : (F n).toNatClampNeg = p := by rw [ep]; exact nI_clamp (by omega)
      rw [gw_pk_t hs, gw_cnt_t hs] at ihn
      rw [cn, ep]
      refine gx_bit hp (nm_r ?_ (nm_r (nI_1 _) (nm_r (nI_1 n) ihn)))
      rw [hv p hp, gw_or _ _ (by omega), cp]
    · rw [cn] at hk
      have hs := gw_sk_f.mpr hk
      rw [gw_pk_f hs, gw_cnt_f hs] at ihn
      exact ihn
theorem gx_aft {post : Int32 → Prop} {a : Nat} (hm : m ≤ 32) (hW : gw_W K X Y Z F m) (h : post (nI (gw_jn K m (gw_of K m a) (gw_stp K X Y Z F m (gw_of K m a) (gw_co K m a))))) : wpX_assignmentAfter post (nI m, nI s, nI r, tl, pe, K, X, Y, Z, F, H, xO, xN, xC, xS, xL, xE, xG, xW, xM, xP) (nI a) := by
  unfold wpX_assignmentAfter
  dsimp only
  refine gx_v hm hW (fun v hv => ⟨m + 1, gx_aft_l hm hW hv ?_ m 0 (m + 1) (by omega) (by omega)⟩)
  rw [← gw_aft hm hW] at h
  exact h
end
end
section
/-! the reference's private methods: nets, fits, order, values -/
theorem gw_blc {x : Int32} {L : Nat} {A B : Prop} (hL : L < 2 ^ 31) (f : gw_bl x L → B) (g : ¬ gw_bl x L → A) : (x < 0 → A) ∧ (¬ x < 0 → ((nI L ≤ x → A) ∧ (¬ nI L ≤ x → B))) := by
  refine br_c (fun h => g (fun b => ?_)) (fun h => br_c (fun h2 => g (fun b => ?_)) (fun h2 => f ?_))
  · exact absurd h (Int32.not_lt.mpr ((gw_bl_iff hL).mp b).1)
  · exact absurd ((gw_bl_iff hL).mp b).2 (Int32.not_lt.mpr h2)
  · exact (gw_bl_iff hL).mpr ⟨Int32.not_lt.mp h, Int32.not_le.mp h2⟩
theorem gw_fit2 {x y z : Int32} {L : Nat} : gw_fit 2 x y z L ↔ (x = 0 ∨ x = 1) := by
  constructor
  · rintro (h | h | ⟨_, g⟩ | ⟨h, _⟩ | ⟨h, _⟩ | ⟨h, _⟩)
    · exact absurd h (by decide)
    · exact absurd h (by decide)
    · exact g
    · exact absurd h (by decide)
    · exact absurd h (by decide)
    · exact absurd h (by decide)
  · exact fun g => Or.inr (Or.inr (Or.inl ⟨rfl, g⟩))
theorem gw_fit3 {x y z : Int32} {L : Nat} : gw_fit 3 x y z L ↔ gw_bl x L := by
  constructor
  · rintro (h | h | ⟨h, _⟩ | ⟨_, g⟩ | ⟨h, _⟩ | ⟨h, _⟩)
    · exact absurd h (by decide)
    · exact absurd h (by decide)
    · exact absurd h (by decide)
    · exact g
    · exact absurd h (by decide)
    · exact absurd h (by decide)
  · exact fun g => Or.inr (Or.inr (Or.inr (Or.inl ⟨rfl, g⟩)))
theorem gw_fit456 {k x y z : Int32} {L : Nat} (hk : k = 4 ∨ k = 5 ∨ k = 6) : gw_fit k x y z L ↔ (gw_bl x L ∧ gw_bl y L) := by
  constructor
  · rintro (h | h | ⟨h, _⟩ | ⟨h, _⟩ | ⟨_, g⟩ | ⟨h, _⟩)
    · rw [h] at hk; exact absurd hk (by decide)
    · rw [h] at hk; exact absurd hk (by decide)
    · rw [h] at hk; exact absurd hk (by decide)
    · rw [h] at hk; exact absurd hk (by decide)
    · exact g
    · rw [h] at hk; exact absurd hk (by decide)
  · exact fun g => Or.inr (Or.inr (Or.inr (Or.inr (Or.inl ⟨hk, g⟩))))
theorem gw_fit7 {x y z : Int32} {L : Nat} : gw_fit 7 x y z L ↔ (gw_bl x L ∧ gw_bl y L ∧ gw_bl z L) := by
  constructor
  · rintro (h | h | ⟨h, _⟩ | ⟨h, _⟩ | ⟨h, _⟩ | ⟨_, g⟩)
    · exact absurd h (by decide)
    · exact absurd h (by decide)
    · exact absurd h (by decide)
    · exact absurd h (by decide)
    · exact absurd h (by decide)
    · exact g
  · exact fun g => Or.inr (Or.inr (Or.inr (Or.inr (Or.inr ⟨rfl, g⟩))))
theorem gw_k8 {k : Int32} (h0 : 0 ≤ k) (h7 : k ≤ 7) : k = 0 ∨ k = 1 ∨ k = 2 ∨ k = 3 ∨ k = 4 ∨ k = 5 ∨ k = 6 ∨ k = 7 := by
  obtain ⟨j, hj, rfl⟩ := nI_of2 (x := k) (M := 7) (n := 7) (by decide) (Int32.not_lt.mpr h0) h7
  rcases (show j = 0 ∨ j = 1 ∨ j = 2 ∨ j = 3 ∨ j = 4 ∨ j = 5 ∨ j = 6 ∨ j = 7 by omega) with e | e | e | e | e | e | e | e <;> subst e <;> decide
/-- the component's fits -/
theorem gx_fits {post : Int32 → Prop} {k x y z : Int32} {L : Nat} (hL : L < 2 ^ 31) (h1 : gw_fit k x y z L → post 1) (h0 : ¬ gw_fit k x y z L → post 0) : wpX_fits post k x y z (nI L) := by
  have key : ∀ zx zy zz : Int32, gw_tv (gw_bl x L) zx → gw_tv (gw_bl y L) zy → gw_tv (gw_bl z L) zz → wX_fits_49 post k x zx zy zz := by
    intro zx zy zz tx ty tz
    have fx := gw_tv_0 tx
    have fy := gw_tv_0 ty
    have fz := gw_tv_0 tz
    unfold wX_fits_49
    by_cases c0 : k < 0
    · exact br_t c0 (h0 (fun g => absurd c0 (Int32.not_lt.mpr (gw_fit_k g).1)))
    · by_cases c7 : 7 < k
      · exact br_f c0 (br_t c7 (h0 (fun g => absurd c7 (Int32.not_lt.mpr (gw_fit_k g).2))))
      · refine br_f c0 (br_f c7 ?_)
        have two : (k = 4 ∨ k = 5 ∨ k = 6) → wX_fits_120 post zx zy := fun hk =>
          br_c (fun e => h0 (fun g => fx.mp e ((gw_fit456 hk).mp g).1)) (fun e => br_c (fun e2 => h0 (fun g => fy.mp e2 ((gw_fit456 hk).mp g).2)) (fun e2 => h1 ((gw_fit456 hk).mpr ⟨Classical.byContradiction (fun n => e (fx.mpr n)), Classical.byContradiction (fun n => e2 (fy.mpr n))⟩)))
        rcases gw_k8 (Int32.not_lt.mp c0) (Int32.not_lt.mp c7) with e | e | e | e | e | e | e | e
        · subst e
          exact br_t rfl (h1 (Or.inl rfl))
        · subst e
          exact br_f (by decide) (br_t rfl (h1 (Or.inr (Or.inl rfl))))
        · subst e
          exact br_f (by decide) (br_f (by decide) (br_t rfl (br_c (fun a => h1 (gw_fit2.mpr (Or.inl a))) (fun a => br_c (fun b => h1 (gw_fit2.mpr (Or.inr b))) (fun b => h0 (fun g => (gw_fit2.mp g).elim a b))))))
        · subst e
          refine br_f (by decide) (br_f (by decide) (br_f (by decide) (br_t rfl ⟨gw_nb (gw_tv_01 tx), ?_⟩)))
          rcases tx with ⟨b, e⟩ | ⟨b, e⟩
          · rw [e]; exact h1 (gw_fit3.mpr b)
          · rw [e]; exact h0 (fun g => b (gw_fit3.mp g))
        · subst e
          exact br_f (by decide) (br_f (by decide) (br_f (by decide) (br_f (by decide) (br_t rfl (two (by decide))))))
        · subst e
          exact br_f (by decide) (br_f (by decide) (br_f (by decide) (br_f (by decide) (br_f (by decide) (br_t rfl (two (by decide)))))))
        · subst e
          exact br_f (by decide) (br_f (by decide) (br_f (by decide) (br_f (by decide) (br_f (by decide) (br_f (by decide) (br_t rfl (two (by decide))))))))
        · subst e
          exact br_f (by decide) (br_f (by decide) (br_f (by decide) (br_f (by decide) (br_f (by decide) (br_f (by decide) (br_f (by decide) (br_t rfl (br_c (fun e => h0 (fun g => fx.mp e (gw_fit7.mp g).1)) (fun e => br_c (fun e2 => h0 (fun g => fy.mp e2 (gw_fit7.mp g).2.1)) (fun e2 => br_c (fun e3 => h0 (fun g => fz.mp e3 (gw_fit7.mp g).2.2)) (fun e3 => h1 (gw_fit7.mpr ⟨Classical.byContradiction (fun n => e (fx.mpr n)), Classical.byContradiction (fun n => e2 (fy.mpr n)), Classical.byContradiction (fun n => e3 (fz.mpr n))⟩))))))))))))
  have k3 : ∀ zx zy : Int32, gw_tv (gw_bl x L) zx → gw_tv (gw_bl y L) zy → wX_fits_32 post k x z (nI L) zx zy := fun zx zy tx ty =>
    gw_blc hL (fun b => key zx zy 1 tx ty (gw_tv_t b)) (fun b => key zx zy 0 tx ty (gw_tv_f b))
  have k2 : ∀ zx : Int32, gw_tv (gw_bl x L) zx → wX_fits_15 post k x y z (nI L) zx := fun zx tx =>
    gw_blc hL (fun b => k3 zx 1 tx (gw_tv_t b)) (fun b => k3 zx 0 tx (gw_tv_f b))
  exact gw_blc hL (fun b => k2 1 (gw_tv_t b)) (fun b => k2 0 (gw_tv_f b))
theorem gy_in {post : Int32 → Prop} {x lo hi : Int32} (h1 : lo ≤ x → x ≤ hi → post 1) (h0 : ¬ (lo ≤ x ∧ x ≤ hi) → post 0) : wpY_in post x lo hi :=
  br_c (fun e => h0 (fun g => absurd e (Int32.not_lt.mpr g.1))) (fun e => br_c (fun e2 => h0 (fun g => absurd e2 (Int32.not_lt.mpr g.2))) (fun e2 => h1 (Int32.not_lt.mp e) (Int32.not_lt.mp e2)))
theorem gy_bl {post : Int32 → Prop} {x : Int32} {L : Nat} (hL : L < 2 ^ 31) (h1 : gw_bl x L → post 1) (h0 : ¬ gw_bl x L → post 0) : wpY_in post x 0 (nI L - 1) :=
  gy_in (fun a b => h1 ((gw_bl_le hL).mpr ⟨a, b⟩)) (fun n => h0 (fun g => n ((gw_bl_le hL).mp g)))
theorem gy_fit {post : Int32 → Prop} {k x y z : Int32} {L : Nat} (hL : L < 2 ^ 31) (k0 : 0 ≤ k) (k7 : k ≤ 7) (h1 : gw_fit k x y z L → post 1) (h0 : ¬ gw_fit k x y z L → post 0) : wpY_fit post k x y z (nI L) := by
  unfold wpY_fit wpY_operands
  rcases gw_k8 k0 k7 with e | e | e | e | e | e | e | e
  · subst e
    exact br_f (by decide) (br_f (by decide) (br_t (by decide) (br_t (by decide) (br_t (by decide) (h1 (Or.inl rfl))))))
  · subst e
    exact br_f (by decide) (br_f (by decide) (br_t (by decide) (br_t (by decide) (br_t (by decide) (h1 (Or.inr (Or.inl rfl)))))))
  · subst e
    refine br_f (by decide) (br_t rfl (gy_in (fun a b => ⟨gw_nb (Or.inr rfl), h1 (gw_fit2.mpr ?_)⟩) (fun n => ⟨gw_nb (Or.inl rfl), h0 (fun g => n ?_)⟩)))
    · obtain ⟨j, hj, rfl⟩ := nI_of2 (x := x) (M := 1) (n := 1) (by decide) (Int32.not_lt.mpr a) b
      rcases (show j = 0 ∨ j = 1 by omega) with e | e <;> subst e <;> decide
    · rcases gw_fit2.mp g with e | e <;> rw [e] <;> decide
  · subst e
    exact br_t (by decide) (br_t rfl (br_f (by decide) (br_f (by decide) (gy_bl hL (fun b => br_f (by decide) (br_t (by decide) (br_t (by decide) (h1 (gw_fit3.mpr b))))) (fun b => br_t rfl (h0 (fun g => b (gw_fit3.mp g))))))))
  · subst e
    exact br_t (by decide) (br_f (by decide) (br_f (by decide) (br_f (by decide) (br_f (by decide) (gy_bl hL (fun b => br_f (by decide) (br_f (by decide) (gy_bl hL (fun c => br_f (by decide) (br_t (by decide) (h1 ((gw_fit456 (by decide)).mpr ⟨b, c⟩)))) (fun c => br_t rfl (h0 (fun g => c ((gw_fit456 (by decide)).mp g).2)))))) (fun b => br_t rfl (h0 (fun g => b ((gw_fit456 (by decide)).mp g).1))))))))
  · subst e
    exact br_t (by decide) (br_f (by decide) (br_f (by decide) (br_f (by decide) (br_f (by decide) (gy_bl hL (fun b => br_f (by decide) (br_f (by decide) (gy_bl hL (fun c => br_f (by decide) (br_t (by decide) (h1 ((gw_fit456 (by decide)).mpr ⟨b, c⟩)))) (fun c => br_t rfl (h0 (fun g => c ((gw_fit456 (by decide)).mp g).2)))))) (fun b => br_t rfl (h0 (fun g => b ((gw_fit456 (by decide)).mp g).1))))))))
  · subst e
    exact br_t (by decide) (br_f (by decide) (br_f (by decide) (br_f (by decide) (br_f (by decide) (gy_bl hL (fun b => br_f (by decide) (br_f (by decide) (gy_bl hL (fun c => br_f (by decide) (br_t (by decide) (h1 ((gw_fit456 (by decide)).mpr ⟨b, c⟩)))) (fun c => br_t rfl (h0 (fun g => c ((gw_fit456 (by decide)).mp g).2)))))) (fun b => br_t rfl (h0 (fun g => b ((gw_fit456 (by decide)).mp g).1))))))))
  · subst e
    exact br_t (by decide) (br_f (by decide) (br_t rfl (br_f (by decide) (br_f (by decide) (gy_bl hL (fun b => br_f (by decide) (br_f (by decide) (gy_bl hL (fun c => br_f (by decide) (br_f (by decide) (gy_bl hL (fun d => br_f (by decide) (h1 (gw_fit7.mpr ⟨b, c, d⟩))) (fun d => br_t rfl (h0 (fun g => d (gw_fit7.mp g).2.2)))))) (fun c => br_t rfl (h0 (fun g => c (gw_fit7.mp g).2.1)))))) (fun b => br_t rfl (h0 (fun g => b (gw_fit7.mp g).1))))))))
section
variable {m s r : Nat} {K X Y Z F H yA yO yS yR yL yN yD yT yM yF yW yP : Nat → Int32}
theorem gy_net {post : Int32 → Prop} {n : Nat} (hm : m ≤ 32) (hn : n < m) (h : post 1) : wpY_isNet post (nI m, nI s, nI r, K, X, Y, Z, F, H, yA, yO, yS, yR, yL, yN, yD, yT, yM, yF, yW, yP) (nI n) := by
  unfold wpY_isNet
  dsimp only
  exact gy_bl (by omega) (fun _ => ⟨gw_nb (Or.inr rfl), h⟩) (fun b => absurd ⟨n, hn, rfl⟩ b)
theorem gy_nonet {post : Int32 → Prop} {x : Int32} (hm : m ≤ 32) (hx : ¬ (0 ≤ x ∧ x < nI m)) (h : post 0) : wpY_isNet post (nI m, nI s, nI r, K, X, Y, Z, F, H, yA, yO, yS, yR, yL, yN, yD, yT, yM, yF, yW, yP) x := by
  unfold wpY_isNet
  dsimp only
  exact gy_bl (by omega) (fun b => absurd ((gw_bl_iff (by omega)).mp b) hx) (fun _ => ⟨gw_nb (Or.inl rfl), h⟩)
theorem gy_src {post : Int32 → Prop} {x : Int32} (hm : m ≤ 32) (hW : gw_W K X Y Z F m) (h1 : ∀ n, n < m → x = nI n → gw_sk K n = true → post 1) (h0 : (∀ n, n < m → x = nI n → gw_sk K n = false) → post 0) : wpY_isSource post (nI m, nI s, nI r, K, X, Y, Z, F, H, yA, yO, yS, yR, yL, yN, yD, yT, yM, yF, yW, yP) x := by
  unfold wpY_isSource
  dsimp only
  rcases gw_net (x := x) (m := m) (by omega) with ⟨n, hn, rfl⟩ | hx
  · have cn : (nI n).toNatClampNeg = n := nI_clamp (by omega)
    have hw := gw_W_sk hW hn
    refine gy_net hm hn (br_f gw_n10 ⟨vp_in_nI (by omega) (by omega), br_c (fun g => ?_) (fun g => ?_)⟩)
    · rw [cn] at g
      refine h0 (fun j hj e => ?_)
      rw [nI_eq (by omega) (by omega)] at e
      subst e
      cases hs : gw_sk K n with
      | false => rfl
      | true => exact absurd (hw.mpr hs) (Int32.not_lt.mpr g)
    · rw [cn] at g
      exact h1 n hn rfl (hw.mp (Int32.not_le.mp g))
  · refine gy_nonet hm hx (br_t rfl (h0 (fun n hn e => absurd ?_ hx)))
    exact (gw_bl_iff (by omega)).mp ⟨n, hn, e⟩
theorem gy_order_l {post : SY → Prop} (hm : m ≤ 32) (hW : gw_W K X Y Z F m) (h10 : gw_cnt (gw_sk K) m ≤ 10) (h6 : gw_cnt (gw_rk K) m ≤ 6) (h : ∀ S R, gw_En (gw_sk K) S m → gw_En (gw_rk K) R m → post (nI m, nI (gw_cnt (gw_sk K) m), nI (gw_cnt (gw_rk K) m), K, X, Y, Z, F, H, yA, yO, S, R, yL, yN, yD, yT, yM, yF, yW, yP)) : ∀ d n g S R, n + d = m → d < g → gw_En (gw_sk K) S n → gw_En (gw_rk K) R n → wY_order_12 post (nI m) g (nI n) (nI (gw_cnt (gw_sk K) n)) (nI (gw_cnt (gw_rk K) n)) K X Y Z F H yA yO S R yL yN yD yT yM yF yW yP := by
  intro d
  induction d with
  | zero =>
    intro n g S R h1 h2 hS hR
    obtain ⟨g, rfl⟩ := gw_fz h2
    have e : n = m := by omega
    subst e
    rw [wY_order_12]
    exact br_t (nI_le (by omega) (by omega)) (h S R hS hR)
  | succ d ih =>
    intro n g S R h1 h2 hS hR
    obtain ⟨g, rfl⟩ := gw_fz h2
    have cn : (nI n).toNatClampNeg = n := nI_clamp (by omega)
    have vn : vp_in (nI n) 32 := vp_in_nI (by omega) (by omega)
    have hw := gw_W_sk hW (show n < m by omega)
    have key : ∀ (c : Nat) (S' : Nat → Int32), c = gw_cnt (gw_sk K) (n + 1) → gw_En (gw_sk K) S' (n + 1) → wY_order_47 post (wY_order_12 post (nI m) g) (nI n) (nI m) (nI c) (nI (gw_cnt (gw_rk K) n)) K X Y Z F H yA yO S' R yL yN yD yT yM yF yW yP := by
      intro c S' hc hS'
      subst hc
      refine ⟨vn, br_c (fun e => ?_) (fun e => ?_)⟩
      · rw [cn] at e
        have hr := gw_rk_t.mpr e
        have hlt := gw_cnt_lt hr (show n < m by omega)
        have cc : (nI (gw_cnt (gw_rk K) n)).toNatClampNeg = gw_cnt (gw_rk K) n := nI_clamp (by omega)
        have ihn := ih (n + 1) g S' (upd R (gw_cnt (gw_rk K) n) (nI n)) (by omega) (by omega) hS' (gw_En_t hR hr)
        rw [gw_cnt_t hr] at ihn
        exact nm_r (nI_1 _) ⟨vp_in_nI (by omega) (by omega), nm_r (by rw [cc]) (nm_r (nI_1 n) ihn)⟩
      · rw [cn] at e
        have hr := gw_rk_f.mpr e
        have ihn := ih (n + 1) g S' R (by omega) (by omega) hS' (gw_En_f hR hr)
        rw [gw_cnt_f hr] at ihn
        exact nm_r (nI_1 n) ihn
    rw [wY_order_12]
    refine br_f (nI_ge (by omega) (by omega)) ⟨vn, br_c (fun e => ?_) (fun e => ?_)⟩
    · rw [cn] at e
      have hs : gw_sk K n = false := by
        cases hs : gw_sk K n with
        | false => rfl
        | true => exact absurd (hw.mpr hs) (Int32.not_lt.mpr e)
      exact key _ S (gw_cnt_f hs).symm (gw_En_f hS hs)
    · rw [cn] at e
      have hs := hw.mp (Int32.not_le.mp e)
      have hlt := gw_cnt_lt hs (show n < m by omega)
      have cc : (nI (gw_cnt (gw_sk K) n)).toNatClampNeg = gw_cnt (gw_sk K) n := nI_clamp (by omega)
      exact nm_r (nI_1 _) ⟨vp_in_nI (by omega) (by omega), nm_r (by rw [cc]) (key _ _ (gw_cnt_t hs).symm (gw_En_t hS hs))⟩
theorem gy_order {post : SY → Prop} {fs fr : Int32} (hm : m ≤ 32) (hW : gw_W K X Y Z F m) (h10 : gw_cnt (gw_sk K) m ≤ 10) (h6 : gw_cnt (gw_rk K) m ≤ 6) (h : ∀ S R, gw_En (gw_sk K) S m → gw_En (gw_rk K) R m → post (nI m, nI (gw_cnt (gw_sk K) m), nI (gw_cnt (gw_rk K) m), K, X, Y, Z, F, H, yA, yO, S, R, yL, yN, yD, yT, yM, yF, yW, yP)) : wpY_order post (nI m, fs, fr, K, X, Y, Z, F, H, yA, yO, yS, yR, yL, yN, yD, yT, yM, yF, yW, yP) :=
  ⟨m + 1, gy_order_l hm hW h10 h6 h m 0 (m + 1) yS yR (by omega) (by omega) (fun n hn => absurd hn (Nat.not_lt_zero _)) (fun n hn => absurd hn (Nat.not_lt_zero _))⟩
end
end
section
/-! the reference's workOut, assign, present -/
/-- what stands in at when the nets below n are worked out -/
def gw_Wk (K X Y Z : Nat → Int32) (sv : Nat → Bool) (f : Nat) (o : Bool) (m n : Nat) (A : Nat → Int32) : Prop :=
  (∀ j, j < n → A j = gw_b (gw_ev K X Y Z sv f o n j)) ∧ ∀ j, n ≤ j → j < m → gw_sk K j = true → A j = gw_b (sv j)
theorem gw_Wk_s {K X Y Z : Nat → Int32} {sv : Nat → Bool} {f : Nat} {o : Bool} {m n : Nat} {A A' : Nat → Int32} (h : gw_Wk K X Y Z sv f o m n A) (h1 : ∀ j, j ≠ n → A' j = A j) (h2 : A' n = gw_b (gw_ev K X Y Z sv f o (n + 1) n)) : gw_Wk K X Y Z sv f o m (n + 1) A' := by
  refine ⟨fun j hj => ?_, fun j h3 h4 hs => ?_⟩
  · by_cases e : j = n
    · subst e; exact h2
    · rw [h1 j e, gw_ev_ne e]
      exact h.1 j (by omega)
  · rw [h1 j (by omega)]
    exact h.2 j (by omega) h4 hs
section
variable {m s r : Nat} {K X Y Z F H yA yO yS yR yL yN yD yT yM yF yW yP : Nat → Int32}
theorem gy_work_l {post : SY → Prop} {sv : Nat → Bool} {f : Nat} {o : Bool} {fi oi : Int32} (hm : m ≤ 32) (hW : gw_W K X Y Z F m) (hf : ∀ n, n < m → (nI n = fi ↔ n = f)) (ho : f < m → oi = gw_b o) (h : ∀ A, (∀ j, j < m → A j = gw_b (gw_ev K X Y Z sv f o m j)) → post (nI m, nI s, nI r, K, X, Y, Z, F, H, A, yO, yS, yR, yL, yN, yD, yT, yM, yF, yW, yP)) : ∀ d n g A, n + d = m → d < g → gw_Wk K X Y Z sv f o m n A → wY_workOut_2 post fi oi (nI m) (nI s) (nI r) g (nI n) K X Y Z F H A yO yS yR yL yN yD yT yM yF yW yP := by
  intro d
  induction d with
  | zero =>
    intro n g A h1 h2 hA
    obtain ⟨g, rfl⟩ := gw_fz h2
    have e : n = m := by omega
    rw [wY_workOut_2]
    refine br_t (nI_le (by omega) (by omega)) (h A ?_)
    rw [← e]
    exact hA.1
  | succ d ih =>
    intro n g A h1 h2 hA
    obtain ⟨g, rfl⟩ := gw_fz h2
    have hn : n < m := by omega
    have cn : (nI n).toNatClampNeg = n := nI_clamp (by omega)
    have vn : vp_in (nI n) 32 := vp_in_nI (by omega) (by omega)
    have key : ∀ (b : Bool) (A' : Nat → Int32), (∀ j, j ≠ n → A' j = A j) → A' n = gw_b b → (n ≠ f → b = gw_ev K X Y Z sv f o (n + 1) n) → wY_workOut_262 post (wY_workOut_2 post fi oi (nI m) (nI s) (nI r) g) fi oi (nI n) (nI m) (nI s) (nI r) K X Y Z F H A' yO yS yR yL yN yD yT yM yF yW yP := by
      intro b A' hne hb hv
      by_cases e : n = f
      · refine br_t ((hf n hn).mpr e) ⟨vn, nm_r (e' := upd A' n (gw_b o)) (by rw [cn, ho (by omega), gw_narb]) (nm_r (nI_1 n) (ih (n + 1) g _ (by omega) (by omega) (gw_Wk_s hA (fun j hj => ?_) ?_)))⟩
        · rw [pk_un hj]; exact hne j hj
        · rw [pk_us, gw_ev_at, if_pos e]
      · refine br_f (fun q => e ((hf n hn).mp q)) (nm_r (nI_1 n) (ih (n + 1) g _ (by omega) (by omega) (gw_Wk_s hA hne ?_)))
        rw [hb, hv e]
    have body : ∀ b : Bool, (n ≠ f → b = gw_ev K X Y Z sv f o (n + 1) n) → (vp_in (nI n) 32 ∧ ∀ a' : Nat → Int32, a' = upd A (nI n).toNatClampNeg (vp_nar .boolean (gw_b b)) → wY_workOut_262 post (wY_workOut_2 post fi oi (nI m) (nI s) (nI r) g) fi oi (nI n) (nI m) (nI s) (nI r) K X Y Z F H a' yO yS yR yL yN yD yT yM yF yW yP) := by
      intro b hb
      exact ⟨vn, nm_r (e' := upd A n (gw_b b)) (by rw [cn, gw_narb]) (key b _ (fun j hj => pk_un hj) pk_us hb)⟩
    have gate : gw_sk K n = false → n ≠ f → gw_ev K X Y Z sv f o (n + 1) n = gw_gate K X Y Z (gw_ev K X Y Z sv f o n) n := by
      intro hs e
      rw [gw_ev_at, if_neg e, if_neg (by rw [hs]; exact Bool.false_ne_true)]
    rw [wY_workOut_2]
    refine br_f (nI_ge (by omega) (by omega)) ⟨vn, ?_⟩
    unfold wY_workOut_38 wY_workOut_39 wY_workOut_69 wY_workOut_70 wY_workOut_120 wY_workOut_185 wY_workOut_205
    rw [cn]
    rcases (hW n hn).1 with e | e | ⟨e, hx⟩ | ⟨e, jx, hjx, ex⟩ | ⟨e, ⟨jx, hjx, ex⟩, ⟨jy, hjy, ey⟩⟩ | ⟨e, ⟨jx, hjx, ex⟩, ⟨jy, hjy, ey⟩, ⟨jz, hjz, ez⟩⟩
    · have hs : gw_sk K n = true := gw_sk_t.mpr (Or.inl e)
      rw [e]
      refine br_t (by decide) ⟨vn, br_t (by decide) ⟨vn, nm_e (br_f (by decide) (br_f (by decide) (br_t rfl (key (sv n) A (fun _ _ => rfl) (hA.2 n (Nat.le_refl _) hn hs) (fun q => ?_)))))⟩⟩
      rw [gw_ev_at, if_neg q, if_pos hs]
    · have hs : gw_sk K n = true := gw_sk_t.mpr (Or.inr e)
      rw [e]
      refine br_t (by decide) ⟨vn, br_t (by decide) ⟨vn, nm_e (br_f (by decide) (br_f (by decide) (br_f (by decide) (br_t rfl (key (sv n) A (fun _ _ => rfl) (hA.2 n (Nat.le_refl _) hn hs) (fun q => ?_))))))⟩⟩
      rw [gw_ev_at, if_neg q, if_pos hs]
    · have hs : gw_sk K n = false := gw_sk_f.mpr (by rw [e]; decide)
      have gg : gw_gate K X Y Z (gw_ev K X Y Z sv f o n) n = decide (X n = 1) := by unfold gw_gate; rw [if_pos e]
      rw [e]
      refine br_t (by decide) ⟨vn, br_t (by decide) ⟨vn, nm_e (br_f (by decide) (br_f (by decide) (br_f (by decide) (br_f (by decide) (br_t rfl ⟨vn, br_c (fun q => body true (fun q2 => ?_)) (fun q => body false (fun q2 => ?_))⟩)))))⟩⟩
      · rw [gate hs q2, gg, decide_eq_true q]
      · rw [gate hs q2, gg, decide_eq_false q]
    · have hs : gw_sk K n = false := gw_sk_f.mpr (by rw [e]; decide)
      have cx : (nI jx).toNatClampNeg = jx := nI_clamp (by omega)
      have vx : vp_in (nI jx) 32 := vp_in_nI (by omega) (by omega)
      have gg : gw_gate K X Y Z (gw_ev K X Y Z sv f o n) n = !(gw_ev K X Y Z sv f o n jx) := by unfold gw_gate; rw [e, ex, cx]; rfl
      rw [e, ex, cx, hA.1 jx hjx]
      cases bx : gw_ev K X Y Z sv f o n jx with
      | true =>
        refine br_f (by decide) ⟨vn, vx, br_f (by decide) ⟨vn, br_t (by decide) ⟨vn, nm_e (br_f (by decide) (br_f (by decide) (br_f (by decide) (br_f (by decide) (br_f (by decide) (br_t rfl (br_f (by decide) (body false (fun q2 => ?_)))))))))⟩⟩⟩
        rw [gate hs q2, gg, bx]; rfl
      | false =>
        refine br_f (by decide) ⟨vn, vx, br_t (by decide) ⟨vn, br_t (by decide) ⟨vn, nm_e (br_f (by decide) (br_f (by decide) (br_f (by decide) (br_f (by decide) (br_f (by decide) (br_t rfl (br_t (by decide) (body true (fun q2 => ?_)))))))))⟩⟩⟩
        rw [gate hs q2, gg, bx]; rfl
    · have hs : gw_sk K n = false := gw_sk_f.mpr (by rcases e with e | e | e <;> rw [e] <;> decide)
      have cx : (nI jx).toNatClampNeg = jx := nI_clamp (by omega)
      have vx : vp_in (nI jx) 32 := vp_in_nI (by omega) (by omega)
      have cy : (nI jy).toNatClampNeg = jy := nI_clamp (by omega)
      have vy : vp_in (nI jy) 32 := vp_in_nI (by omega) (by omega)
      rw [ex, ey, cx, cy, hA.1 jx hjx, hA.1 jy hjy]
      rcases e with e | e | e
      · have gg : gw_gate K X Y Z (gw_ev K X Y Z sv f o n) n = (gw_ev K X Y Z sv f o n jx && gw_ev K X Y Z sv f o n jy) := by unfold gw_gate; rw [e, ex, ey, cx, cy]; rfl
        rw [e]
        cases bx : gw_ev K X Y Z sv f o n jx with
        | true =>
          cases b2 : gw_ev K X Y Z sv f o n jy with
          | true =>
            refine br_f (by decide) ⟨vn, vx, br_f (by decide) ⟨vn, br_f (by decide) ⟨vn, vy, br_f (by decide) ⟨vn, nm_e (br_f (by decide) (br_f (by decide) (br_f (by decide) (br_f (by decide) (br_f (by decide) (br_f (by decide) (br_t rfl (br_f (by decide) (br_f (by decide) (body true (fun q2 => ?_)))))))))))⟩⟩⟩⟩
            rw [gate hs q2, gg, bx, b2]; rfl
          | false =>
            refine br_f (by decide) ⟨vn, vx, br_f (by decide) ⟨vn, br_f (by decide) ⟨vn, vy, br_t (by decide) ⟨vn, nm_e (br_f (by decide) (br_f (by decide) (br_f (by decide) (br_f (by decide) (br_f (by decide) (br_f (by decide) (br_t rfl (br_f (by decide) (br_t (by decide) (body false (fun q2 => ?_)))))))))))⟩⟩⟩⟩
            rw [gate hs q2, gg, bx, b2]; rfl
        | false =>
          cases b2 : gw_ev K X Y Z sv f o n jy with
          | true =>
            refine br_f (by decide) ⟨vn, vx, br_t (by decide) ⟨vn, br_f (by decide) ⟨vn, vy, br_f (by decide) ⟨vn, nm_e (br_f (by decide) (br_f (by decide) (br_f (by decide) (br_f (by decide) (br_f (by decide) (br_f (by decide) (br_t rfl (br_t (by decide) (body false (fun q2 => ?_))))))))))⟩⟩⟩⟩
            rw [gate hs q2, gg, bx, b2]; rfl
          | false =>
            refine br_f (by decide) ⟨vn, vx, br_t (by decide) ⟨vn, br_f (by decide) ⟨vn, vy, br_t (by decide) ⟨vn, nm_e (br_f (by decide) (br_f (by decide) (br_f (by decide) (br_f (by decide) (br_f (by decide) (br_f (by decide) (br_t rfl (br_t (by decide) (body false (fun q2 => ?_))))))))))⟩⟩⟩⟩
            rw [gate hs q2, gg, bx, b2]; rfl
      · have gg : gw_gate K X Y Z (gw_ev K X Y Z sv f o n) n = (gw_ev K X Y Z sv f o n jx || gw_ev K X Y Z sv f o n jy) := by unfold gw_gate; rw [e, ex, ey, cx, cy]; rfl
        rw [e]
        cases bx : gw_ev K X Y Z sv f o n jx with
        | true =>
          cases b2 : gw_ev K X Y Z sv f o n jy with
          | true =>
            refine br_f (by decide) ⟨vn, vx, br_f (by decide) ⟨vn, br_f (by decide) ⟨vn, vy, br_f (by decide) ⟨vn, nm_e (br_f (by decide) (br_f (by decide) (br_f (by decide) (br_f (by decide) (br_f (by decide) (br_f (by decide) (br_f (by decide) (br_t rfl (br_f (by decide) (body true (fun q2 => ?_)))))))))))⟩⟩⟩⟩
            rw [gate hs q2, gg, bx, b2]; rfl
          | false =>
            refine br_f (by decide) ⟨vn, vx, br_f (by decide) ⟨vn, br_f (by decide) ⟨vn, vy, br_t (by decide) ⟨vn, nm_e (br_f (by decide) (br_f (by decide) (br_f (by decide) (br_f (by decide) (br_f (by decide) (br_f (by decide) (br_f (by decide) (br_t rfl (br_f (by decide) (body true (fun q2 => ?_)))))))))))⟩⟩⟩⟩
            rw [gate hs q2, gg, bx, b2]; rfl
        | false =>
          cases b2 : gw_ev K X Y Z sv f o n jy with
          | true =>
            refine br_f (by decide) ⟨vn, vx, br_t (by decide) ⟨vn, br_f (by decide) ⟨vn, vy, br_f (by decide) ⟨vn, nm_e (br_f (by decide) (br_f (by decide) (br_f (by decide) (br_f (by decide) (br_f (by decide) (br_f (by decide) (br_f (by decide) (br_t rfl (br_t (by decide) (br_f (by decide) (body true (fun q2 => ?_))))))))))))⟩⟩⟩⟩
            rw [gate hs q2, gg, bx, b2]; rfl
          | false =>
            refine br_f (by decide) ⟨vn, vx, br_t (by decide) ⟨vn, br_f (by decide) ⟨vn, vy, br_t (by decide) ⟨vn, nm_e (br_f (by decide) (br_f (by decide) (br_f (by decide) (br_f (by decide) (br_f (by decide) (br_f (by decide) (br_f (by decide) (br_t rfl (br_t (by decide) (br_t (by decide) (body false (fun q2 => ?_))))))))))))⟩⟩⟩⟩
            rw [gate hs q2, gg, bx, b2]; rfl
      · have gg : gw_gate K X Y Z (gw_ev K X Y Z sv f o n) n = (gw_ev K X Y Z sv f o n jx ^^ gw_ev K X Y Z sv f o n jy) := by unfold gw_gate; rw [e, ex, ey, cx, cy]; rfl
        rw [e]
        cases bx : gw_ev K X Y Z sv f o n jx with
        | true =>
          cases b2 : gw_ev K X Y Z sv f o n jy with
          | true =>
            refine br_f (by decide) ⟨vn, vx, br_f (by decide) ⟨vn, br_f (by decide) ⟨vn, vy, br_f (by decide) ⟨vn, nm_e (br_f (by decide) (br_f (by decide) (br_f (by decide) (br_f (by decide) (br_f (by decide) (br_f (by decide) (br_f (by decide) (br_f (by decide) (br_t rfl (br_t rfl (body false (fun q2 => ?_))))))))))))⟩⟩⟩⟩
            rw [gate hs q2, gg, bx, b2]; rfl
          | false =>
            refine br_f (by decide) ⟨vn, vx, br_f (by decide) ⟨vn, br_f (by decide) ⟨vn, vy, br_t (by decide) ⟨vn, nm_e (br_f (by decide) (br_f (by decide) (br_f (by decide) (br_f (by decide) (br_f (by decide) (br_f (by decide) (br_f (by decide) (br_f (by decide) (br_t rfl (br_f (by decide) (body true (fun q2 => ?_))))))))))))⟩⟩⟩⟩
            rw [gate hs q2, gg, bx, b2]; rfl
        | false =>
          cases b2 : gw_ev K X Y Z sv f o n jy with
          | true =>
            refine br_f (by decide) ⟨vn, vx, br_t (by decide) ⟨vn, br_f (by decide) ⟨vn, vy, br_f (by decide) ⟨vn, nm_e (br_f (by decide) (br_f (by decide) (br_f (by decide) (br_f (by decide) (br_f (by decide) (br_f (by decide) (br_f (by decide) (br_f (by decide) (br_t rfl (br_f (by decide) (body true (fun q2 => ?_))))))))))))⟩⟩⟩⟩
            rw [gate hs q2, gg, bx, b2]; rfl
          | false =>
            refine br_f (by decide) ⟨vn, vx, br_t (by decide) ⟨vn, br_f (by decide) ⟨vn, vy, br_t (by decide) ⟨vn, nm_e (br_f (by decide) (br_f (by decide) (br_f (by decide) (br_f (by decide) (br_f (by decide) (br_f (by decide) (br_f (by decide) (br_f (by decide) (br_t rfl (br_t rfl (body false (fun q2 => ?_))))))))))))⟩⟩⟩⟩
            rw [gate hs q2, gg, bx, b2]; rfl
    · have hs : gw_sk K n = false := gw_sk_f.mpr (by rw [e]; decide)
      have cx : (nI jx).toNatClampNeg = jx := nI_clamp (by omega)
      have vx : vp_in (nI jx) 32 := vp_in_nI (by omega) (by omega)
      have cy : (nI jy).toNatClampNeg = jy := nI_clamp (by omega)
      have vy : vp_in (nI jy) 32 := vp_in_nI (by omega) (by omega)
      have cz : (nI jz).toNatClampNeg = jz := nI_clamp (by omega)
      have vz : vp_in (nI jz) 32 := vp_in_nI (by omega) (by omega)
      have gg : gw_gate K X Y Z (gw_ev K X Y Z sv f o n) n = if gw_ev K X Y Z sv f o n jx = true then gw_ev K X Y Z sv f o n jy else gw_ev K X Y Z sv f o n jz := by unfold gw_gate; rw [e, ex, ey, ez, cx, cy, cz]; rfl
      rw [e, ex, ey, ez, cx, cy, cz, hA.1 jx hjx, hA.1 jy hjy, hA.1 jz hjz]
      cases bx : gw_ev K X Y Z sv f o n jx with
      | true =>
        rw [if_pos bx] at gg
        cases b2 : gw_ev K X Y Z sv f o n jy with
        | true =>
          refine br_f (by decide) ⟨vn, vx, br_f (by decide) ⟨vn, br_f (by decide) ⟨vn, vy, br_f (by decide) ⟨vn, nm_e (br_f (by decide) (br_t (by decide) (br_f (by decide) (body true (fun q2 => ?_)))))⟩⟩⟩⟩
          rw [gate hs q2, gg, b2]
        | false =>
          refine br_f (by decide) ⟨vn, vx, br_f (by decide) ⟨vn, br_f (by decide) ⟨vn, vy, br_t (by decide) ⟨vn, nm_e (br_f (by decide) (br_t (by decide) (br_f (by decide) (body false (fun q2 => ?_)))))⟩⟩⟩⟩
          rw [gate hs q2, gg, b2]
      | false =>
        rw [if_neg (by rw [bx]; exact Bool.false_ne_true)] at gg
        cases b2 : gw_ev K X Y Z sv f o n jy with
        | true =>
          refine br_f (by decide) ⟨vn, vx, br_t (by decide) ⟨vn, br_f (by decide) ⟨vn, vy, br_f (by decide) ⟨vn, nm_e (br_f (by decide) (br_t (by decide) (br_t (by decide) ⟨vn, vz, body _ (fun q2 => ?_)⟩)))⟩⟩⟩⟩
          rw [gate hs q2, gg]
        | false =>
          refine br_f (by decide) ⟨vn, vx, br_t (by decide) ⟨vn, br_f (by decide) ⟨vn, vy, br_t (by decide) ⟨vn, nm_e (br_f (by decide) (br_t (by decide) (br_t (by decide) ⟨vn, vz, body _ (fun q2 => ?_)⟩)))⟩⟩⟩⟩
          rw [gate hs q2, gg]
theorem gy_work {post : SY → Prop} {sv : Nat → Bool} {f : Nat} {o : Bool} {fi oi : Int32} (hm : m ≤ 32) (hW : gw_W K X Y Z F m) (hf : ∀ n, n < m → (nI n = fi ↔ n = f)) (ho : f < m → oi = gw_b o) (hs : ∀ j, j < m → gw_sk K j = true → yA j = gw_b (sv j)) (h : ∀ A, (∀ j, j < m → A j = gw_b (gw_ev K X Y Z sv f o m j)) → post (nI m, nI s, nI r, K, X, Y, Z, F, H, A, yO, yS, yR, yL, yN, yD, yT, yM, yF, yW, yP)) : wpY_workOut post (nI m, nI s, nI r, K, X, Y, Z, F, H, yA, yO, yS, yR, yL, yN, yD, yT, yM, yF, yW, yP) fi oi :=
  ⟨m + 1, gy_work_l hm hW hf ho h m 0 (m + 1) yA (by omega) (by omega) ⟨fun j hj => absurd hj (Nat.not_lt_zero _), fun j _ hj hk => hs j hj hk⟩⟩
theorem gy_work0 {post : SY → Prop} {sv : Nat → Bool} (hm : m ≤ 32) (hW : gw_W K X Y Z F m) (hs : ∀ j, j < m → gw_sk K j = true → yA j = gw_b (sv j)) (h : ∀ A, (∀ j, j < m → A j = gw_b (gw_v K X Y Z m sv j)) → post (nI m, nI s, nI r, K, X, Y, Z, F, H, A, yO, yS, yR, yL, yN, yD, yT, yM, yF, yW, yP)) : wpY_workOut post (nI m, nI s, nI r, K, X, Y, Z, F, H, yA, yO, yS, yR, yL, yN, yD, yT, yM, yF, yW, yP) (-1) 0 :=
  gy_work (f := 32) (o := false) hm hW (fun n hn => ⟨fun e => absurd e (gw_m1 (by omega)), fun e => absurd e (by omega)⟩) (fun e => absurd e (by omega)) hs h
theorem gy_assign_l {post : SY → Prop} {a : Nat} (ha : a < 2 ^ 31) (hm : m ≤ 32) (hW : gw_W K X Y Z F m) (hs : s = gw_cnt (gw_sk K) m) (h10 : s ≤ 10) (hE : gw_En (gw_sk K) yS m) (h : ∀ A, (∀ j, j < m → A j = gw_b (gw_v K X Y Z m (gw_sa K a) j)) → post (nI m, nI s, nI r, K, X, Y, Z, F, H, A, yO, yS, yR, yL, yN, yD, yT, yM, yF, yW, yP)) : ∀ d i g A, i + d = s → d < g → (∀ n, n < m → gw_sk K n = true → gw_cnt (gw_sk K) n < i → A n = gw_b (gw_sa K a n)) → wY_assign_2 post (nI a) (nI m) (nI s) (nI r) g (nI i) K X Y Z F H A yO yS yR yL yN yD yT yM yF yW yP := by
  intro d
  induction d with
  | zero =>
    intro i g A h1 h2 hA
    obtain ⟨g, rfl⟩ := gw_fz h2
    rw [wY_assign_2]
    refine br_t (nI_le (by omega) (by omega)) (gy_work0 hm hW (fun j hj hk => hA j hj hk ?_) h)
    have := gw_cnt_lt hk hj
    omega
  | succ d ih =>
    intro i g A h1 h2 hA
    obtain ⟨g, rfl⟩ := gw_fz h2
    have ci : (nI i).toNatClampNeg = i := nI_clamp (by omega)
    have vi : vp_in (nI i) 10 := vp_in_nI (by omega) (by omega)
    obtain ⟨n, hn, hq, hc, e⟩ := gw_En_at hE (show i < gw_cnt (gw_sk K) m by omega)
    have cn : (nI n).toNatClampNeg = n := nI_clamp (by omega)
    have vn : vp_in (nI n) 32 := vp_in_nI (by omega) (by omega)
    have next : ∀ b : Bool, b = a.testBit i → wY_assign_2 post (nI a) (nI m) (nI s) (nI r) g (nI (i + 1)) K X Y Z F H (upd A n (gw_b b)) yO yS yR yL yN yD yT yM yF yW yP := by
      intro b hb
      refine ih (i + 1) g _ (by omega) (by omega) (fun j hj hk hlt => ?_)
      by_cases ej : j = n
      · subst ej
        rw [pk_us, hb]
        unfold gw_sa
        rw [hc]
      · rw [pk_un ej]
        refine hA j hj hk ?_
        have : gw_cnt (gw_sk K) j ≠ i := fun q => ej (gw_cnt_inj hk hq (by omega))
        omega
    rw [wY_assign_2]
    refine br_f (nI_ge (by omega) (by omega)) ⟨vi, ?_⟩
    rw [gw_sbit ha (by omega), ci, e, cn]
    cases hb : a.testBit i with
    | true => exact br_t rfl ⟨vn, nm_r (e' := upd A n (gw_b true)) rfl (nm_r (nI_1 i) (next true hb.symm))⟩
    | false => exact br_f (by decide) ⟨vn, nm_r (e' := upd A n (gw_b false)) rfl (nm_r (nI_1 i) (next false hb.symm))⟩
theorem gy_assign {post : SY → Prop} {a : Nat} (ha : a < 2 ^ 31) (hm : m ≤ 32) (hW : gw_W K X Y Z F m) (hs : s = gw_cnt (gw_sk K) m) (h10 : s ≤ 10) (hE : gw_En (gw_sk K) yS m) (h : ∀ A, (∀ j, j < m → A j = gw_b (gw_v K X Y Z m (gw_sa K a) j)) → post (nI m, nI s, nI r, K, X, Y, Z, F, H, A, yO, yS, yR, yL, yN, yD, yT, yM, yF, yW, yP)) : wpY_assign post (nI m, nI s, nI r, K, X, Y, Z, F, H, yA, yO, yS, yR, yL, yN, yD, yT, yM, yF, yW, yP) (nI a) :=
  ⟨s + 1, gy_assign_l ha hm hW hs h10 hE h s 0 (s + 1) yA (by omega) (by omega) (fun n _ _ hlt => absurd hlt (Nat.not_lt_zero _))⟩
theorem gy_present_l {post : SY → Prop} (hm : m ≤ 32) (hW : gw_W K X Y Z F m) (h01 : gw_01 H) (hs : s = gw_cnt (gw_sk K) m) (h10 : s ≤ 10) (hE : gw_En (gw_sk K) yS m) (h : ∀ A, (∀ j, j < m → A j = gw_b (gw_v K X Y Z m (gw_hs H) j)) → post (nI m, nI s, nI r, K, X, Y, Z, F, H, A, yO, yS, yR, yL, yN, yD, yT, yM, yF, yW, yP)) : ∀ d i g A, i + d = s → d < g → (∀ n, n < m → gw_sk K n = true → gw_cnt (gw_sk K) n < i → A n = gw_b (gw_hs H n)) → wY_present_2 post (nI m) (nI s) (nI r) g (nI i) K X Y Z F H A yO yS yR yL yN yD yT yM yF yW yP := by
  intro d
  induction d with
  | zero =>
    intro i g A h1 h2 hA
    obtain ⟨g, rfl⟩ := gw_fz h2
    rw [wY_present_2]
    refine br_t (nI_le (by omega) (by omega)) (gy_work0 hm hW (fun j hj hk => hA j hj hk ?_) h)
    have := gw_cnt_lt hk hj
    omega
  | succ d ih =>
    intro i g A h1 h2 hA
    obtain ⟨g, rfl⟩ := gw_fz h2
    have ci : (nI i).toNatClampNeg = i := nI_clamp (by omega)
    have vi : vp_in (nI i) 10 := vp_in_nI (by omega) (by omega)
    obtain ⟨n, hn, hq, hc, e⟩ := gw_En_at hE (show i < gw_cnt (gw_sk K) m by omega)
    have cn : (nI n).toNatClampNeg = n := nI_clamp (by omega)
    have vn : vp_in (nI n) 32 := vp_in_nI (by omega) (by omega)
    have next : wY_present_2 post (nI m) (nI s) (nI r) g (nI (i + 1)) K X Y Z F H (upd A n (gw_b (gw_hs H n))) yO yS yR yL yN yD yT yM yF yW yP := by
      refine ih (i + 1) g _ (by omega) (by omega) (fun j hj hk hlt => ?_)
      by_cases ej : j = n
      · subst ej
        rw [pk_us]
      · rw [pk_un ej]
        refine hA j hj hk ?_
        have : gw_cnt (gw_sk K) j ≠ i := fun q => ej (gw_cnt_inj hk hq (by omega))
        omega
    rw [wY_present_2]
    refine br_f (nI_ge (by omega) (by omega)) ⟨vi, vi, ?_⟩
    rw [ci, e, cn]
    exact ⟨vn, vn, nm_r (e' := upd A n (gw_b (gw_hs H n))) (by rw [gw_nar (h01 n), gw_hs_b h01 n]) (nm_r (nI_1 i) next)⟩
theorem gy_present {post : SY → Prop} (hm : m ≤ 32) (hW : gw_W K X Y Z F m) (h01 : gw_01 H) (hs : s = gw_cnt (gw_sk K) m) (h10 : s ≤ 10) (hE : gw_En (gw_sk K) yS m) (h : ∀ A, (∀ j, j < m → A j = gw_b (gw_v K X Y Z m (gw_hs H) j)) → post (nI m, nI s, nI r, K, X, Y, Z, F, H, A, yO, yS, yR, yL, yN, yD, yT, yM, yF, yW, yP)) : wpY_present post (nI m, nI s, nI r, K, X, Y, Z, F, H, yA, yO, yS, yR, yL, yN, yD, yT, yM, yF, yW, yP) :=
  ⟨s + 1, gy_present_l hm hW h01 hs h10 hE h s 0 (s + 1) yA (by omega) (by omega) (fun n _ _ hlt => absurd hlt (Nat.not_lt_zero _))⟩
end
end
section
/-! add, change, next, drop, set -/
def gw_tm (k : Int32) (s r : Nat) : Prop := (k = 1 ∧ (10 ≤ s ∨ 6 ≤ r)) ∨ (k = 0 ∧ 10 ≤ s)
section
variable {m s r : Nat} {tl pe : Int32} {K X Y Z F H xO xN xC xS xL xE xG xW xM xP : Nat → Int32}
theorem gx_tm {post : Int32 → Prop} {k : Int32} (h10 : s ≤ 10) (h6 : r ≤ 6) (h1 : gw_tm k s r → post 1) (h0 : ¬ gw_tm k s r → post 0) : wpX_isOneTooMany post (nI m, nI s, nI r, tl, pe, K, X, Y, Z, F, H, xO, xN, xC, xS, xL, xE, xG, xW, xM, xP) k := by
  refine br_c (fun e => pk_le 10 s (fun g => h1 (Or.inl ⟨e, Or.inl g⟩)) (fun g => pk_lt r 6 (fun g2 => h0 ?_) (fun g2 => h1 (Or.inl ⟨e, Or.inr g2⟩)))) (fun e => br_c (fun e0 => pk_lt s 10 (fun g => h0 ?_) (fun g => h1 (Or.inr ⟨e0, g⟩))) (fun e0 => h0 ?_))
  · rintro (⟨_, q | q⟩ | ⟨q, _⟩)
    · omega
    · omega
    · rw [e] at q; exact absurd q (by decide)
  · rintro (⟨q, _⟩ | ⟨_, q⟩)
    · exact e q
    · omega
  · rintro (⟨q, _⟩ | ⟨q, _⟩)
    · exact e q
    · exact e0 q
theorem gx_write {post : SX → Prop} {n : Nat} {k x y z : Int32} (hn : n < 32) (h : post (nI m, nI s, nI r, tl, pe, upd K n k, upd X n x, upd Y n y, upd Z n z, F, H, xO, xN, xC, xS, xL, xE, xG, xW, xM, xP)) : wpX_write post (nI m, nI s, nI r, tl, pe, K, X, Y, Z, F, H, xO, xN, xC, xS, xL, xE, xG, xW, xM, xP) (nI n) k x y z := by
  have cn : (nI n).toNatClampNeg = n := nI_clamp (by omega)
  have vn : vp_in (nI n) 32 := vp_in_nI (by omega) (by omega)
  unfold wpX_write
  dsimp only
  rw [cn]
  exact ⟨vn, nm_e ⟨vn, nm_e ⟨vn, nm_e ⟨vn, nm_e h⟩⟩⟩⟩
theorem gx_cs1 {post : SX → Prop} {k : Int32} {a b : Bool} (ha : a = decide (k = 0 ∨ k = 1)) (hb : b = decide (k = 1)) (h : post (nI m, nI (s + a.toNat), nI (r + b.toNat), tl, pe, K, X, Y, Z, F, H, xO, xN, xC, xS, xL, xE, xG, xW, xM, xP)) : wpX_countSource post (nI m, nI s, nI r, tl, pe, K, X, Y, Z, F, H, xO, xN, xC, xS, xL, xE, xG, xW, xM, xP) k 1 := by
  unfold wpX_countSource
  dsimp only
  refine gx_sk (fun hk => br_f gw_n10 (nm_r (nI_1 s) ?_)) (fun hk => br_t rfl ?_)
  · rw [decide_eq_true hk] at ha
    rw [ha] at h
    refine br_c (fun e => nm_r (nI_1 r) ?_) (fun e => ?_)
    · rw [decide_eq_true e] at hb
      rw [hb] at h
      exact h
    · rw [decide_eq_false e] at hb
      rw [hb] at h
      exact h
  · rw [decide_eq_false hk] at ha
    have e : ¬ k = 1 := fun q => hk (Or.inr q)
    rw [decide_eq_false e] at hb
    rw [ha, hb] at h
    exact br_f e h
theorem gx_csm {post : SX → Prop} {k : Int32} {a b : Bool} (ha : a = decide (k = 0 ∨ k = 1)) (hb : b = decide (k = 1)) (h : post (nI m, nI s, nI r, tl, pe, K, X, Y, Z, F, H, xO, xN, xC, xS, xL, xE, xG, xW, xM, xP)) : wpX_countSource post (nI m, nI (s + a.toNat), nI (r + b.toNat), tl, pe, K, X, Y, Z, F, H, xO, xN, xC, xS, xL, xE, xG, xW, xM, xP) k (-1) := by
  unfold wpX_countSource
  dsimp only
  refine gx_sk (fun hk => br_f gw_n10 ?_) (fun hk => br_t rfl ?_)
  · rw [decide_eq_true hk] at ha
    rw [ha]
    refine nm_r (pk_m1 s) (br_c (fun e => ?_) (fun e => ?_))
    · rw [decide_eq_true e] at hb
      rw [hb]
      exact nm_r (pk_m1 r) h
    · rw [decide_eq_false e] at hb
      rw [hb]
      exact h
  · rw [decide_eq_false hk] at ha
    have e : ¬ k = 1 := fun q => hk (Or.inr q)
    rw [decide_eq_false e] at hb
    rw [ha, hb]
    exact br_f e h
theorem gw_sk_at {k : Int32} : gw_sk (upd K m k) m = decide (k = 0 ∨ k = 1) := by unfold gw_sk; rw [pk_us]
theorem gw_rk_at {k : Int32} : gw_rk (upd K m k) m = decide (k = 1) := by unfold gw_rk; rw [pk_us]
theorem gx_add {post : Int32 → SX → Prop} {k x y z : Int32} (hm : m ≤ 32) (hs : s = gw_cnt (gw_sk K) m) (hr : r = gw_cnt (gw_rk K) m) (h10 : s ≤ 10) (h6 : r ≤ 6) (c1 : ¬ gw_fit k x y z m → post (-1) (nI m, nI s, nI r, tl, pe, K, X, Y, Z, F, H, xO, xN, xC, xS, xL, xE, xG, xW, xM, xP)) (c2 : gw_fit k x y z m → (m = 32 ∨ gw_tm k s r) → post (-2) (nI m, nI s, nI r, tl, pe, K, X, Y, Z, F, H, xO, xN, xC, xS, xL, xE, xG, xW, xM, xP)) (c3 : gw_fit k x y z m → m < 32 → ¬ gw_tm k s r → post (nI m) (nI (m + 1), nI (gw_cnt (gw_sk (upd K m k)) (m + 1)), nI (gw_cnt (gw_rk (upd K m k)) (m + 1)), tl, pe, upd K m k, upd X m x, upd Y m y, upd Z m z, upd F m (nI m), upd H m 0, xO, xN, xC, xS, xL, xE, xG, xW, xM, xP)) : wpX_add post (nI m, nI s, nI r, tl, pe, K, X, Y, Z, F, H, xO, xN, xC, xS, xL, xE, xG, xW, xM, xP) k x y z := by
  unfold wpX_add
  dsimp only
  refine gx_fits (by omega) (fun hf => br_f gw_n10 ?_) (fun hf => br_t rfl (c1 hf))
  by_cases h32 : m = 32
  · exact br_t (nI_le (a := 32) (by omega) (by omega)) (c2 hf (Or.inl h32))
  · have cn : (nI m).toNatClampNeg = m := nI_clamp (by omega)
    have vn : vp_in (nI m) 32 := vp_in_nI (by omega) (by omega)
    refine br_f (nI_ge (b := 32) (by omega) (by decide)) (gx_tm h10 h6 (fun ht => br_f gw_n10 (c2 hf (Or.inr ht))) (fun ht => br_t rfl (nm_r (nI_1 m) (gx_write (by omega) ?_))))
    rw [cn]
    refine ⟨vn, nm_e ⟨vn, nm_e (gx_cs1 (a := gw_sk (upd K m k) m) (b := gw_rk (upd K m k) m) gw_sk_at gw_rk_at ?_)⟩⟩
    have g := c3 hf (by omega) ht
    have e1 : gw_cnt (gw_sk (upd K m k)) (m + 1) = s + (gw_sk (upd K m k) m).toNat := by rw [hs]; exact congrArg (fun t => t + (gw_sk (upd K m k) m).toNat) gw_csk_add
    have e2 : gw_cnt (gw_rk (upd K m k)) (m + 1) = r + (gw_rk (upd K m k) m).toNat := by rw [hr]; exact congrArg (fun t => t + (gw_rk (upd K m k) m).toNat) gw_crk_add
    rw [e1, e2] at g
    exact g
/-- when a change is taken -/
def gw_cok (K : Nat → Int32) (m : Nat) (p k x y z : Int32) (n : Nat) : Prop := n < m ∧ p = nI n ∧ gw_sk K n = false ∧ ¬ (k = 0 ∨ k = 1) ∧ gw_fit k x y z n
theorem gx_change {post : Int32 → SX → Prop} {p k x y z : Int32} (hm : m ≤ 32) (c0 : (∀ n, ¬ gw_cok K m p k x y z n) → post 0 (nI m, nI s, nI r, tl, pe, K, X, Y, Z, F, H, xO, xN, xC, xS, xL, xE, xG, xW, xM, xP)) (c1 : ∀ n, gw_cok K m p k x y z n → post 1 (nI m, nI s, nI r, tl, pe, upd K n k, upd X n x, upd Y n y, upd Z n z, F, H, xO, xN, xC, xS, xL, xE, xG, xW, xM, xP)) : wpX_change post (nI m, nI s, nI r, tl, pe, K, X, Y, Z, F, H, xO, xN, xC, xS, xL, xE, xG, xW, xM, xP) p k x y z := by
  unfold wpX_change
  dsimp only
  rcases gw_net (x := p) (m := m) (by omega) with ⟨n, hn, rfl⟩ | hx
  · have cn : (nI n).toNatClampNeg = n := nI_clamp (by omega)
    have vn : vp_in (nI n) 32 := vp_in_nI (by omega) (by omega)
    have one : ∀ j, gw_cok K m (nI n) k x y z j → j = n := fun j hj => by
      have := hj.2.1
      rw [nI_eq (by omega) (by have := hj.1; omega)] at this
      exact this.symm
    refine gx_net hm hn (br_f gw_n10 ⟨vn, gx_sk (fun hk => br_f gw_n10 (c0 (fun j hj => ?_))) (fun hk => br_t rfl (gx_sk (fun hk2 => br_f gw_n10 (c0 (fun j hj => hj.2.2.2.1 hk2))) (fun hk2 => br_t rfl (gx_fits (by omega) (fun hf => br_f gw_n10 (gx_write (by omega) (c1 n ⟨hn, rfl, ?_, hk2, hf⟩))) (fun hf => br_t rfl (c0 (fun j hj => ?_)))))))⟩)
    · rw [cn] at hk
      have h1 := hj.2.2.1
      rw [one j hj, gw_sk_t.mpr hk] at h1
      exact absurd h1.symm Bool.false_ne_true
    · rw [cn] at hk
      exact gw_sk_f.mpr hk
    · have h1 := hj.2.2.2.2
      rw [one j hj] at h1
      exact hf h1
  · refine gx_nonet hx (br_t rfl (c0 (fun n hn => hx ?_)))
    exact (gw_bl_iff (by omega)).mp ⟨n, hn.1, hn.2.1⟩
theorem gx_next {post : Int32 → SX → Prop} {p q : Int32} (hm : m ≤ 32) (c0 : (∀ n j, n < m → j < m → p = nI n → q = nI j → ¬ K n = 1) → post 0 (nI m, nI s, nI r, tl, pe, K, X, Y, Z, F, H, xO, xN, xC, xS, xL, xE, xG, xW, xM, xP)) (c1 : ∀ n j, n < m → j < m → p = nI n → q = nI j → K n = 1 → post 1 (nI m, nI s, nI r, tl, pe, K, X, Y, Z, upd F n (nI j), H, xO, xN, xC, xS, xL, xE, xG, xW, xM, xP)) : wpX_next post (nI m, nI s, nI r, tl, pe, K, X, Y, Z, F, H, xO, xN, xC, xS, xL, xE, xG, xW, xM, xP) p q := by
  unfold wpX_next
  dsimp only
  rcases gw_net (x := p) (m := m) (by omega) with ⟨n, hn, rfl⟩ | hx
  · have cn : (nI n).toNatClampNeg = n := nI_clamp (by omega)
    have vn : vp_in (nI n) 32 := vp_in_nI (by omega) (by omega)
    refine gx_net hm hn (br_f gw_n10 ⟨vn, br_c (fun e => ?_) (fun e => c0 (fun n' j hn' hj e1 e2 => ?_))⟩)
    · rw [cn] at e
      rcases gw_net (x := q) (m := m) (by omega) with ⟨j, hj, rfl⟩ | hx
      · exact gx_net hm hj (br_f gw_n10 ⟨vn, nm_r (by rw [cn]) (c1 n j hn hj rfl rfl e)⟩)
      · refine gx_nonet hx (br_t rfl (c0 (fun n' j hn' hj e1 e2 => absurd ?_ hx)))
        exact (gw_bl_iff (by omega)).mp ⟨j, hj, e2⟩
    · rw [cn] at e
      rw [nI_eq (by omega) (by omega)] at e1
      rw [← e1]
      exact e
  · refine gx_nonet hx (br_t rfl (c0 (fun n j hn hj e1 e2 => absurd ?_ hx)))
    exact (gw_bl_iff (by omega)).mp ⟨n, hn, e1⟩
theorem gx_set {post : Int32 → SX → Prop} {p : Int32} {b : Bool} (hm : m ≤ 32) (c0 : (∀ n, n < m → p = nI n → gw_sk K n = false) → post 0 (nI m, nI s, nI r, tl, pe, K, X, Y, Z, F, H, xO, xN, xC, xS, xL, xE, xG, xW, xM, xP)) (c1 : ∀ n, n < m → p = nI n → gw_sk K n = true → post 1 (nI m, nI s, nI r, tl, pe, K, X, Y, Z, F, upd H n (gw_b b), xO, xN, xC, xS, xL, xE, xG, xW, xM, xP)) : wpX_set post (nI m, nI s, nI r, tl, pe, K, X, Y, Z, F, H, xO, xN, xC, xS, xL, xE, xG, xW, xM, xP) p (gw_b b) := by
  unfold wpX_set
  dsimp only
  refine gx_src hm (fun n hn e hs => br_f gw_n10 ?_) (fun h => br_t rfl (c0 h))
  have cn : (nI n).toNatClampNeg = n := nI_clamp (by omega)
  have vn : vp_in (nI n) 32 := vp_in_nI (by omega) (by omega)
  have g := c1 n hn e hs
  rw [e]
  cases b with
  | true => exact br_f (by decide) ⟨vn, nm_r (by rw [cn]; rfl) g⟩
  | false => exact br_t (by decide) ⟨vn, nm_r (by rw [cn]; rfl) g⟩
theorem gx_drop_l {post : Int32 → SX → Prop} (hm : m + 1 ≤ 32) (c0 : (∃ n, n < m ∧ K n = 1 ∧ F n = nI m) → post (-1) (nI (m + 1), nI (s + (gw_sk K m).toNat), nI (r + (gw_rk K m).toNat), tl, pe, K, X, Y, Z, F, H, xO, xN, xC, xS, xL, xE, xG, xW, xM, xP)) (c1 : (∀ n, n < m → K n = 1 → F n ≠ nI m) → post (nI m) (nI m, nI s, nI r, tl, pe, K, X, Y, Z, F, H, xO, xN, xC, xS, xL, xE, xG, xW, xM, xP)) : ∀ d n g, n + d = m → d < g → (∀ j, j < n → K j = 1 → F j ≠ nI m) → wX_drop_18 post (nI m) (nI (m + 1)) (nI (s + (gw_sk K m).toNat)) (nI (r + (gw_rk K m).toNat)) tl pe K X Y Z F H xO xN xC xS xL xE xG xW xM xP g (nI n) := by
  intro d
  induction d with
  | zero =>
    intro n g h1 h2 hA
    obtain ⟨g, rfl⟩ := gw_fz h2
    have e : n = m := by omega
    have cm : (nI m).toNatClampNeg = m := nI_clamp (by omega)
    rw [wX_drop_18]
    refine br_t (nI_le (by omega) (by omega)) ⟨vp_in_nI (by omega) (by omega), ?_⟩
    rw [cm]
    refine gx_csm rfl rfl (c1 ?_)
    rw [← e] at hA ⊢
    exact hA
  | succ d ih =>
    intro n g h1 h2 hA
    obtain ⟨g, rfl⟩ := gw_fz h2
    have cn : (nI n).toNatClampNeg = n := nI_clamp (by omega)
    have vn : vp_in (nI n) 32 := vp_in_nI (by omega) (by omega)
    have go : (K n = 1 → F n ≠ nI m) → wX_drop_18 post (nI m) (nI (m + 1)) (nI (s + (gw_sk K m).toNat)) (nI (r + (gw_rk K m).toNat)) tl pe K X Y Z F H xO xN xC xS xL xE xG xW xM xP g (nI (n + 1)) := fun hh =>
      ih (n + 1) g (by omega) (by omega) (lt_s hA hh)
    rw [wX_drop_18]
    refine br_f (nI_ge (by omega) (by omega)) ⟨vn, ?_⟩
    rw [cn]
    refine br_c (fun e => ⟨vn, br_c (fun e2 => c0 ⟨n, by omega, e, e2⟩) (fun e2 => nm_r (nI_1 n) (go (fun _ => e2)))⟩) (fun e => nm_r (nI_1 n) (go (fun q => absurd q e)))
theorem gx_drop {post : Int32 → SX → Prop} (hm : m + 1 ≤ 32) (c0 : (∃ n, n < m ∧ K n = 1 ∧ F n = nI m) → post (-1) (nI (m + 1), nI (s + (gw_sk K m).toNat), nI (r + (gw_rk K m).toNat), tl, pe, K, X, Y, Z, F, H, xO, xN, xC, xS, xL, xE, xG, xW, xM, xP)) (c1 : (∀ n, n < m → K n = 1 → F n ≠ nI m) → post (nI m) (nI m, nI s, nI r, tl, pe, K, X, Y, Z, F, H, xO, xN, xC, xS, xL, xE, xG, xW, xM, xP)) : wpX_drop post (nI (m + 1), nI (s + (gw_sk K m).toNat), nI (r + (gw_rk K m).toNat), tl, pe, K, X, Y, Z, F, H, xO, xN, xC, xS, xL, xE, xG, xW, xM, xP) := by
  unfold wpX_drop
  dsimp only
  refine br_f (nI_ne0 (by omega) (by omega)) (nm_r (nI_pred m) ⟨m + 1, ?_⟩)
  exact gx_drop_l hm c0 c1 m 0 (m + 1) (by omega) (by omega) (fun j hj => absurd hj (Nat.not_lt_zero _))
end
section
variable {m s r : Nat} {K X Y Z F H yA yO yS yR yL yN yD yT yM yF yW yP : Nat → Int32}
theorem gy_put {post : SY → Prop} {n : Nat} {k x y z : Int32} (hn : n < 32) (h : post (nI m, nI s, nI r, upd K n k, upd X n x, upd Y n y, upd Z n z, F, H, yA, yO, yS, yR, yL, yN, yD, yT, yM, yF, yW, yP)) : wpY_put post (nI m, nI s, nI r, K, X, Y, Z, F, H, yA, yO, yS, yR, yL, yN, yD, yT, yM, yF, yW, yP) (nI n) k x y z := by
  have cn : (nI n).toNatClampNeg = n := nI_clamp (by omega)
  have vn : vp_in (nI n) 32 := vp_in_nI (by omega) (by omega)
  unfold wpY_put
  dsimp only
  rw [cn]
  exact ⟨vn, nm_e ⟨vn, nm_e ⟨vn, nm_e ⟨vn, nm_e h⟩⟩⟩⟩
theorem gy_add67 {post : Int32 → SY → Prop} {k x y z : Int32} (hm : m < 32) (hW : gw_W K X Y Z F m) (hf : gw_fit k x y z m) (h10 : gw_cnt (gw_sk (upd K m k)) (m + 1) ≤ 10) (h6 : gw_cnt (gw_rk (upd K m k)) (m + 1) ≤ 6) (h : ∀ S R, gw_En (gw_sk (upd K m k)) S (m + 1) → gw_En (gw_rk (upd K m k)) R (m + 1) → post (nI m) (nI (m + 1), nI (gw_cnt (gw_sk (upd K m k)) (m + 1)), nI (gw_cnt (gw_rk (upd K m k)) (m + 1)), upd K m k, upd X m x, upd Y m y, upd Z m z, upd F m (nI m), upd H m 0, yA, yO, S, R, yL, yN, yD, yT, yM, yF, yW, yP)) : wY_add_67 post k x y z (nI m) (nI s) (nI r) K X Y Z F H yA yO yS yR yL yN yD yT yM yF yW yP := by
  have cn : (nI m).toNatClampNeg = m := nI_clamp (by omega)
  have vn : vp_in (nI m) 32 := vp_in_nI (by omega) (by omega)
  unfold wY_add_67
  refine gy_put (by omega) ?_
  dsimp only
  rw [cn]
  refine ⟨vn, nm_r (e' := upd H m 0) rfl ⟨vn, nm_e (nm_r (nI_1 m) (gy_order (by omega) (gw_W_add hW hf) h10 h6 (fun S R hS hR => ?_)))⟩⟩
  dsimp only
  rw [nI_pred]
  exact h S R hS hR
theorem gy_add {post : Int32 → SY → Prop} {k x y z : Int32} (hm : m ≤ 32) (hW : gw_W K X Y Z F m) (hs : s = gw_cnt (gw_sk K) m) (hr : r = gw_cnt (gw_rk K) m) (h10 : s ≤ 10) (h6 : r ≤ 6) (c1 : ¬ gw_fit k x y z m → post (-1) (nI m, nI s, nI r, K, X, Y, Z, F, H, yA, yO, yS, yR, yL, yN, yD, yT, yM, yF, yW, yP)) (c2 : gw_fit k x y z m → (m = 32 ∨ gw_tm k s r) → post (-2) (nI m, nI s, nI r, K, X, Y, Z, F, H, yA, yO, yS, yR, yL, yN, yD, yT, yM, yF, yW, yP)) (c3 : gw_fit k x y z m → m < 32 → ¬ gw_tm k s r → ∀ S R, gw_En (gw_sk (upd K m k)) S (m + 1) → gw_En (gw_rk (upd K m k)) R (m + 1) → post (nI m) (nI (m + 1), nI (gw_cnt (gw_sk (upd K m k)) (m + 1)), nI (gw_cnt (gw_rk (upd K m k)) (m + 1)), upd K m k, upd X m x, upd Y m y, upd Z m z, upd F m (nI m), upd H m 0, yA, yO, S, R, yL, yN, yD, yT, yM, yF, yW, yP)) : wpY_add post (nI m, nI s, nI r, K, X, Y, Z, F, H, yA, yO, yS, yR, yL, yN, yD, yT, yM, yF, yW, yP) k x y z := by
  unfold wpY_add
  dsimp only
  refine gy_in (fun k0 k7 => br_f gw_n10 (gy_fit (by omega) k0 k7 (fun hf => br_f gw_n10 ?_) (fun hf => br_t rfl (c1 hf)))) (fun hn => br_t rfl (c1 (fun g => hn (gw_fit_k g))))
  by_cases h32 : m = 32
  · exact br_t (by rw [h32]; rfl) (c2 hf (Or.inl h32))
  · refine br_f (fun e => h32 ((nI_eq (b := 32) (by omega) (by decide)).mp e)) ?_
    have e1 : gw_cnt (gw_sk (upd K m k)) (m + 1) = s + (gw_sk (upd K m k) m).toNat := by rw [hs]; exact congrArg (fun t => t + (gw_sk (upd K m k) m).toNat) gw_csk_add
    have e2 : gw_cnt (gw_rk (upd K m k)) (m + 1) = r + (gw_rk (upd K m k) m).toNat := by rw [hr]; exact congrArg (fun t => t + (gw_rk (upd K m k) m).toNat) gw_crk_add
    have fin : ¬ gw_tm k s r → wY_add_67 post k x y z (nI m) (nI s) (nI r) K X Y Z F H yA yO yS yR yL yN yD yT yM yF yW yP := by
      intro ht
      refine gy_add67 (by omega) hW hf ?_ ?_ (c3 hf (by omega) ht)
      · rw [e1, gw_sk_at]
        by_cases q : k = 0 ∨ k = 1
        · rw [decide_eq_true q]
          have : ¬ 10 ≤ s := fun h => ht (by
            rcases q with q | q
            · exact Or.inr ⟨q, h⟩
            · exact Or.inl ⟨q, Or.inl h⟩)
          show s + 1 ≤ 10
          omega
        · rw [decide_eq_false q]
          exact h10
      · rw [e2, gw_rk_at]
        by_cases q : k = 1
        · rw [decide_eq_true q]
          have : ¬ 6 ≤ r := fun h => ht (Or.inl ⟨q, Or.inr h⟩)
          show r + 1 ≤ 6
          omega
        · rw [decide_eq_false q]
          exact h6
    have e50 : ((k = 0 ∨ k = 1) → s ≠ 10) → wY_add_50 post k x y z (nI m) (nI s) (nI r) K X Y Z F H yA yO yS yR yL yN yD yT yM yF yW yP := by
      intro hs10
      refine br_c (fun e => ?_) (fun e => fin ?_)
      · by_cases h6' : r = 6
        · exact br_t (by rw [h6']; rfl) (c2 hf (Or.inr (Or.inl ⟨e, Or.inr (by omega)⟩)))
        · refine br_f (fun q => h6' ((nI_eq (b := 6) (by omega) (by decide)).mp q)) (fin ?_)
          have := hs10 (Or.inr e)
          rintro (⟨_, q | q⟩ | ⟨q, _⟩)
          · omega
          · omega
          · rw [e] at q; exact absurd q (by decide)
      · rintro (⟨q, _⟩ | ⟨q, q2⟩)
        · exact e q
        · have := hs10 (Or.inl q)
          omega
    refine br_c (fun e => e50 (fun q => absurd ((gw_k2 k0).mpr q) (Int32.not_lt.mpr e))) (fun e => ?_)
    have hk := (gw_k2 k0).mp (Int32.not_le.mp e)
    by_cases h10' : s = 10
    · refine br_t (by rw [h10']; rfl) (c2 hf (Or.inr ?_))
      rcases hk with q | q
      · exact Or.inr ⟨q, by omega⟩
      · exact Or.inl ⟨q, Or.inl (by omega)⟩
    · exact br_f (fun q => h10' ((nI_eq (b := 10) (by omega) (by decide)).mp q)) (e50 (fun _ => h10'))
theorem gy_change {post : Int32 → SY → Prop} {p k x y z : Int32} (hm : m ≤ 32) (hW : gw_W K X Y Z F m) (c0 : (∀ n, ¬ gw_cok K m p k x y z n) → post 0 (nI m, nI s, nI r, K, X, Y, Z, F, H, yA, yO, yS, yR, yL, yN, yD, yT, yM, yF, yW, yP)) (c1 : ∀ n, gw_cok K m p k x y z n → post 1 (nI m, nI s, nI r, upd K n k, upd X n x, upd Y n y, upd Z n z, F, H, yA, yO, yS, yR, yL, yN, yD, yT, yM, yF, yW, yP)) : wpY_change post (nI m, nI s, nI r, K, X, Y, Z, F, H, yA, yO, yS, yR, yL, yN, yD, yT, yM, yF, yW, yP) p k x y z := by
  unfold wpY_change
  dsimp only
  rcases gw_net (x := p) (m := m) (by omega) with ⟨n, hn, rfl⟩ | hx
  · have one : ∀ j, gw_cok K m (nI n) k x y z j → j = n := fun j hj => by
      have := hj.2.1
      rw [nI_eq (by omega) (by have := hj.1; omega)] at this
      exact this.symm
    refine gy_net hm hn (br_f gw_n10 (gy_src hm hW (fun j hj e hs => br_f gw_n10 (c0 (fun i hi => ?_))) (fun hns => br_t rfl (gy_in (fun k2 k7 => br_f gw_n10 (gy_fit (by omega) (Int32.le_trans (by decide) k2) k7 (fun hf => br_f gw_n10 (gy_put (by omega) (c1 n ⟨hn, rfl, hns n hn rfl, ?_, hf⟩))) (fun hf => br_t rfl (c0 (fun j hj => ?_))))) (fun hk => br_t rfl (c0 (fun j hj => hk ?_)))))))
    · rw [nI_eq (by omega) (by omega)] at e
      have h1 := hi.2.2.1
      rw [one i hi, e, hs] at h1
      exact absurd h1.symm Bool.false_ne_true
    · intro q
      rcases q with q | q
      · rw [q] at k2; exact absurd k2 (by decide)
      · rw [q] at k2; exact absurd k2 (by decide)
    · have h1 := hj.2.2.2.2
      rw [one j hj] at h1
      exact hf h1
    · have h1 := gw_fit_k hj.2.2.2.2
      refine ⟨Int32.not_lt.mp (fun q => hj.2.2.2.1 ((gw_k2 h1.1).mp q)), h1.2⟩
  · refine gy_nonet hm hx (br_t rfl (c0 (fun n hn => hx ?_)))
    exact (gw_bl_iff (by omega)).mp ⟨n, hn.1, hn.2.1⟩
theorem gy_next {post : Int32 → SY → Prop} {p q : Int32} (hm : m ≤ 32) (c0 : (∀ n j, n < m → j < m → p = nI n → q = nI j → ¬ K n = 1) → post 0 (nI m, nI s, nI r, K, X, Y, Z, F, H, yA, yO, yS, yR, yL, yN, yD, yT, yM, yF, yW, yP)) (c1 : ∀ n j, n < m → j < m → p = nI n → q = nI j → K n = 1 → post 1 (nI m, nI s, nI r, K, X, Y, Z, upd F n (nI j), H, yA, yO, yS, yR, yL, yN, yD, yT, yM, yF, yW, yP)) : wpY_next post (nI m, nI s, nI r, K, X, Y, Z, F, H, yA, yO, yS, yR, yL, yN, yD, yT, yM, yF, yW, yP) p q := by
  unfold wpY_next
  dsimp only
  rcases gw_net (x := p) (m := m) (by omega) with ⟨n, hn, rfl⟩ | hx
  · have cn : (nI n).toNatClampNeg = n := nI_clamp (by omega)
    have vn : vp_in (nI n) 32 := vp_in_nI (by omega) (by omega)
    refine gy_net hm hn (br_f gw_n10 ⟨vn, br_c (fun e => ?_) (fun e => c0 (fun n' j hn' hj e1 e2 => ?_))⟩)
    · rw [cn] at e
      rcases gw_net (x := q) (m := m) (by omega) with ⟨j, hj, rfl⟩ | hx
      · exact gy_net hm hj (br_f gw_n10 ⟨vn, nm_r (by rw [cn]) (c1 n j hn hj rfl rfl e)⟩)
      · refine gy_nonet hm hx (br_t rfl (c0 (fun n' j hn' hj e1 e2 => absurd ?_ hx)))
        exact (gw_bl_iff (by omega)).mp ⟨j, hj, e2⟩
    · rw [cn] at e
      rw [nI_eq (by omega) (by omega)] at e1
      rw [← e1]
      exact e
  · refine gy_nonet hm hx (br_t rfl (c0 (fun n j hn hj e1 e2 => absurd ?_ hx)))
    exact (gw_bl_iff (by omega)).mp ⟨n, hn, e1⟩
theorem gy_set {post : Int32 → SY → Prop} {p : Int32} {b : Bool} (hm : m ≤ 32) (hW : gw_W K X Y Z F m) (c0 : (∀ n, n < m → p = nI n → gw_sk K n = false) → post 0 (nI m, nI s, nI r, K, X, Y, Z, F, H, yA, yO, yS, yR, yL, yN, yD, yT, yM, yF, yW, yP)) (c1 : ∀ n, n < m → p = nI n → gw_sk K n = true → post 1 (nI m, nI s, nI r, K, X, Y, Z, F, upd H n (gw_b b), yA, yO, yS, yR, yL, yN, yD, yT, yM, yF, yW, yP)) : wpY_set post (nI m, nI s, nI r, K, X, Y, Z, F, H, yA, yO, yS, yR, yL, yN, yD, yT, yM, yF, yW, yP) p (gw_b b) := by
  unfold wpY_set
  dsimp only
  refine gy_src hm hW (fun n hn e hs => br_f gw_n10 ?_) (fun h => br_t rfl (c0 h))
  have cn : (nI n).toNatClampNeg = n := nI_clamp (by omega)
  have vn : vp_in (nI n) 32 := vp_in_nI (by omega) (by omega)
  have g := c1 n hn e hs
  rw [e]
  exact ⟨vn, nm_r (by rw [cn, gw_narb]) g⟩
theorem gy_drop_l {post : Int32 → SY → Prop} (hm : m + 1 ≤ 32) (hW : (∀ n, n < m → K n = 1 → F n ≠ nI m) → gw_W K X Y Z F m) (h10 : gw_cnt (gw_sk K) m ≤ 10) (h6 : gw_cnt (gw_rk K) m ≤ 6) (c0 : (∃ n, n < m ∧ K n = 1 ∧ F n = nI m) → post (-1) (nI (m + 1), nI s, nI r, K, X, Y, Z, F, H, yA, yO, yS, yR, yL, yN, yD, yT, yM, yF, yW, yP)) (c1 : (∀ n, n < m → K n = 1 → F n ≠ nI m) → ∀ S R, gw_En (gw_sk K) S m → gw_En (gw_rk K) R m → post (nI m) (nI m, nI (gw_cnt (gw_sk K) m), nI (gw_cnt (gw_rk K) m), K, X, Y, Z, F, H, yA, yO, S, R, yL, yN, yD, yT, yM, yF, yW, yP)) : ∀ d n g, n + d = m → d < g → (∀ j, j < n → K j = 1 → F j ≠ nI m) → wY_drop_11 post (nI (m + 1)) (nI s) (nI r) K X Y Z F H yA yO yS yR yL yN yD yT yM yF yW yP g (nI n) := by
  intro d
  induction d with
  | zero =>
    intro n g h1 h2 hA
    obtain ⟨g, rfl⟩ := gw_fz h2
    have e : n = m := by omega
    rw [wY_drop_11, nI_pred]
    rw [e] at hA ⊢
    exact br_t (nI_le (by omega) (by omega)) (nm_e (gy_order (by omega) (hW hA) h10 h6 (fun S R hS hR => c1 hA S R hS hR)))
  | succ d ih =>
    intro n g h1 h2 hA
    obtain ⟨g, rfl⟩ := gw_fz h2
    have cn : (nI n).toNatClampNeg = n := nI_clamp (by omega)
    have vn : vp_in (nI n) 32 := vp_in_nI (by omega) (by omega)
    have go : (K n = 1 → F n ≠ nI m) → wY_drop_11 post (nI (m + 1)) (nI s) (nI r) K X Y Z F H yA yO yS yR yL yN yD yT yM yF yW yP g (nI (n + 1)) := fun hh =>
      ih (n + 1) g (by omega) (by omega) (lt_s hA hh)
    rw [wY_drop_11, nI_pred]
    refine br_f (nI_ge (by omega) (by omega)) ⟨vn, ?_⟩
    rw [cn]
    refine br_c (fun e => ⟨vn, br_c (fun e2 => c0 ⟨n, by omega, e, e2⟩) (fun e2 => nm_r (nI_1 n) (go (fun _ => e2)))⟩) (fun e => nm_r (nI_1 n) (go (fun q => absurd q e)))
theorem gy_drop {post : Int32 → SY → Prop} (hm : m + 1 ≤ 32) (hW : (∀ n, n < m → K n = 1 → F n ≠ nI m) → gw_W K X Y Z F m) (h10 : gw_cnt (gw_sk K) m ≤ 10) (h6 : gw_cnt (gw_rk K) m ≤ 6) (c0 : (∃ n, n < m ∧ K n = 1 ∧ F n = nI m) → post (-1) (nI (m + 1), nI s, nI r, K, X, Y, Z, F, H, yA, yO, yS, yR, yL, yN, yD, yT, yM, yF, yW, yP)) (c1 : (∀ n, n < m → K n = 1 → F n ≠ nI m) → ∀ S R, gw_En (gw_sk K) S m → gw_En (gw_rk K) R m → post (nI m) (nI m, nI (gw_cnt (gw_sk K) m), nI (gw_cnt (gw_rk K) m), K, X, Y, Z, F, H, yA, yO, S, R, yL, yN, yD, yT, yM, yF, yW, yP)) : wpY_drop post (nI (m + 1), nI s, nI r, K, X, Y, Z, F, H, yA, yO, yS, yR, yL, yN, yD, yT, yM, yF, yW, yP) := by
  unfold wpY_drop
  dsimp only
  refine br_f (nI_ne0 (by omega) (by omega)) ⟨m + 1, ?_⟩
  exact gy_drop_l hm hW h10 h6 c0 c1 m 0 (m + 1) (by omega) (by omega) (fun j hj => absurd hj (Nat.not_lt_zero _))
end
end
section
/-! the owed rows of new, add, change, next, drop, set -/
theorem i_vc0 : wpX_init (fun u => wpY_init (fun v => i_Rel 0 u v)) :=
  gw_rel (k := 0) (m := 0) (K := fun _ => 0) (X := fun _ => 0) (Y := fun _ => 0) (Z := fun _ => 0) (F := fun _ => 0) (H := fun _ => 0) ⟨Nat.zero_le _, fun n hn => absurd hn (Nat.not_lt_zero _), fun _ => Or.inl rfl, Nat.zero_le _, Nat.zero_le _⟩ (fun n hn => absurd hn (Nat.not_lt_zero _)) (fun n hn => absurd hn (Nat.not_lt_zero _))
theorem i_vc_add {k : Nat} {u : SX} {v : SY} (I : i_Rel k u v) (hk : k + 6 ≤ 3072) (v1 : Int32) (v2 : Int32) (v3 : Int32) (v4 : Int32) : wpX_add (fun r u' => wpY_add (fun r' v' => r' = r ∧ i_Rel (k + 6) u' v') v v1 v2 v3 v4) u v1 v2 v3 v4 := by
  have J : i_Rel (k + 6) u v := I
  obtain ⟨m, K, X, Y, Z, F, H, ⟨hm, hW, h01, h10, h6⟩, ⟨tl, pe, xO, xN, xC, xS, xL, xE, xG, xW, xM, xP, rfl⟩, ⟨yA, yO, yS, yR, yL, yN, yD, yT, yM, yF, yW, yP, rfl, hS, hR⟩⟩ := I
  refine gx_add hm rfl rfl h10 h6 (fun hf => ?_) (fun hf hx => ?_) (fun hf hlt ht => ?_)
  · exact gy_add hm hW rfl rfl h10 h6 (fun _ => ⟨rfl, J⟩) (fun q => absurd q hf) (fun q => absurd q hf)
  · refine gy_add hm hW rfl rfl h10 h6 (fun q => absurd hf q) (fun _ _ => ⟨rfl, J⟩) (fun _ hlt ht => ?_)
    rcases hx with hx | hx
    · omega
    · exact absurd hx ht
  · refine gy_add hm hW rfl rfl h10 h6 (fun q => absurd hf q) (fun _ hx => ?_) (fun _ _ _ S R hS' hR' => ⟨rfl, gw_rel ⟨by omega, gw_W_add hW hf, gw_01_upd h01 (Or.inl rfl), ?_, ?_⟩ hS' hR'⟩)
    · rcases hx with hx | hx
      · omega
      · exact absurd hx ht
    · show gw_cnt (gw_sk (upd K m v1)) m + (gw_sk (upd K m v1) m).toNat ≤ 10
      rw [gw_csk_add, gw_sk_at]
      by_cases q : v1 = 0 ∨ v1 = 1
      · rw [decide_eq_true q]
        have : ¬ 10 ≤ gw_cnt (gw_sk K) m := fun h => ht (by
          rcases q with q | q
          · exact Or.inr ⟨q, h⟩
          · exact Or.inl ⟨q, Or.inl h⟩)
        show gw_cnt (gw_sk K) m + 1 ≤ 10
        omega
      · rw [decide_eq_false q]
        exact h10
    · show gw_cnt (gw_rk (upd K m v1)) m + (gw_rk (upd K m v1) m).toNat ≤ 6
      rw [gw_crk_add, gw_rk_at]
      by_cases q : v1 = 1
      · rw [decide_eq_true q]
        have : ¬ 6 ≤ gw_cnt (gw_rk K) m := fun h => ht (Or.inl ⟨q, Or.inr h⟩)
        show gw_cnt (gw_rk K) m + 1 ≤ 6
        omega
      · rw [decide_eq_false q]
        exact h6
theorem i_vc_change {k : Nat} {u : SX} {v : SY} (I : i_Rel k u v) (hk : k + 6 ≤ 3072) (v1 : Int32) (v2 : Int32) (v3 : Int32) (v4 : Int32) (v5 : Int32) : wpX_change (fun r u' => wpY_change (fun r' v' => r' = r ∧ i_Rel (k + 6) u' v') v v1 v2 v3 v4 v5) u v1 v2 v3 v4 v5 := by
  have J : i_Rel (k + 6) u v := I
  obtain ⟨m, K, X, Y, Z, F, H, ⟨hm, hW, h01, h10, h6⟩, ⟨tl, pe, xO, xN, xC, xS, xL, xE, xG, xW, xM, xP, rfl⟩, ⟨yA, yO, yS, yR, yL, yN, yD, yT, yM, yF, yW, yP, rfl, hS, hR⟩⟩ := I
  refine gx_change hm (fun hn => ?_) (fun n hn => ?_)
  · exact gy_change hm hW (fun _ => ⟨rfl, J⟩) (fun n q => absurd q (hn n))
  · refine gy_change hm hW (fun q => absurd hn (q n)) (fun j hj => ?_)
    have e : j = n := by
      have h1 := hn.2.1
      rw [hj.2.1, nI_eq (by have := hj.1; omega) (by have := hn.1; omega)] at h1
      exact h1
    subst e
    obtain ⟨h1, _, hs, hk2, hf⟩ := hn
    have es : ∀ n, gw_sk (upd K j v2) n = gw_sk K n := gw_sk_ch (fun q => hk2 (Or.inl q)) (fun q => hk2 (Or.inr q)) hs
    have er : ∀ n, gw_rk (upd K j v2) n = gw_rk K n := gw_rk_ch (fun q => hk2 (Or.inr q)) hs
    have fs : gw_sk (upd K j v2) = gw_sk K := funext es
    have fr : gw_rk (upd K j v2) = gw_rk K := funext er
    refine ⟨rfl, ?_⟩
    have g := gw_rel (k := k + 6) (K := upd K j v2) (X := upd X j v3) (Y := upd Y j v4) (Z := upd Z j v5) (F := F) (H := H) (m := m) (tl := tl) (pe := pe) (xO := xO) (xN := xN) (xC := xC) (xS := xS) (xL := xL) (xE := xE) (xG := xG) (xW := xW) (xM := xM) (xP := xP) (yA := yA) (yO := yO) (yS := yS) (yR := yR) (yL := yL) (yN := yN) (yD := yD) (yT := yT) (yM := yM) (yF := yF) (yW := yW) (yP := yP) ⟨hm, gw_W_ch hW hf (fun q => hk2 (Or.inl q)) (fun q => hk2 (Or.inr q)), h01, by rw [fs]; exact h10, by rw [fr]; exact h6⟩ (by rw [fs]; exact hS) (by rw [fr]; exact hR)
    rw [fs, fr] at g
    exact g
theorem i_vc_next {k : Nat} {u : SX} {v : SY} (I : i_Rel k u v) (hk : k + 6 ≤ 3072) (v1 : Int32) (v2 : Int32) : wpX_next (fun r u' => wpY_next (fun r' v' => r' = r ∧ i_Rel (k + 6) u' v') v v1 v2) u v1 v2 := by
  have J : i_Rel (k + 6) u v := I
  obtain ⟨m, K, X, Y, Z, F, H, ⟨hm, hW, h01, h10, h6⟩, ⟨tl, pe, xO, xN, xC, xS, xL, xE, xG, xW, xM, xP, rfl⟩, ⟨yA, yO, yS, yR, yL, yN, yD, yT, yM, yF, yW, yP, rfl, hS, hR⟩⟩ := I
  refine gx_next hm (fun hn => ?_) (fun n j hn hj e1 e2 hk1 => ?_)
  · exact gy_next hm (fun _ => ⟨rfl, J⟩) (fun n j hn' hj e1 e2 q => absurd q (hn n j hn' hj e1 e2))
  · refine gy_next hm (fun q => absurd hk1 (q n j hn hj e1 e2)) (fun n' j' hn' hj' e1' e2' _ => ?_)
    rw [e1, nI_eq (by omega) (by omega)] at e1'
    rw [e2, nI_eq (by omega) (by omega)] at e2'
    subst e1' e2'
    exact ⟨rfl, gw_rel ⟨hm, gw_W_nx hW hk1 hj, h01, h10, h6⟩ hS hR⟩
theorem i_vc_drop {k : Nat} {u : SX} {v : SY} (I : i_Rel k u v) (hk : k + 6 ≤ 3072) : wpX_drop (fun r u' => wpY_drop (fun r' v' => r' = r ∧ i_Rel (k + 6) u' v') v) u := by
  have J : i_Rel (k + 6) u v := I
  obtain ⟨m, K, X, Y, Z, F, H, ⟨hm, hW, h01, h10, h6⟩, ⟨tl, pe, xO, xN, xC, xS, xL, xE, xG, xW, xM, xP, rfl⟩, ⟨yA, yO, yS, yR, yL, yN, yD, yT, yM, yF, yW, yP, rfl, hS, hR⟩⟩ := I
  cases m with
  | zero => exact br_t rfl (br_t rfl ⟨rfl, J⟩)
  | succ m =>
    have h10' : gw_cnt (gw_sk K) m ≤ 10 := Nat.le_trans (gw_cnt_s _ _) h10
    have h6' : gw_cnt (gw_rk K) m ≤ 6 := Nat.le_trans (gw_cnt_s _ _) h6
    refine gx_drop (s := gw_cnt (gw_sk K) m) (r := gw_cnt (gw_rk K) m) hm (fun hx => ?_) (fun hx => ?_)
    · obtain ⟨n, hn, a, b⟩ := hx
      exact gy_drop (s := gw_cnt (gw_sk K) (m + 1)) (r := gw_cnt (gw_rk K) (m + 1)) hm (fun q => absurd b (q n hn a)) h10' h6' (fun _ => ⟨rfl, J⟩) (fun q => absurd b (q n hn a))
    · exact gy_drop (s := gw_cnt (gw_sk K) (m + 1)) (r := gw_cnt (gw_rk K) (m + 1)) hm (gw_W_dr hW) h10' h6' (fun ⟨n, hn, a, b⟩ => absurd b (hx n hn a)) (fun _ S R hS' hR' => ⟨rfl, gw_rel ⟨by omega, gw_W_dr hW hx, h01, h10', h6'⟩ hS' hR'⟩)
theorem gw_bz (v : Int32) : ∃ b : Bool, lw_bz v = gw_b b := by
  rcases lw_bz_01 v with e | e
  · exact ⟨false, e⟩
  · exact ⟨true, e⟩
theorem i_vc_set {k : Nat} {u : SX} {v : SY} (I : i_Rel k u v) (hk : k + 6 ≤ 3072) (v1 : Int32) (v2 : Int32) : wpX_set (fun r u' => wpY_set (fun r' v' => r' = r ∧ i_Rel (k + 6) u' v') v v1 (lw_bz v2)) u v1 (lw_bz v2) := by
  have J : i_Rel (k + 6) u v := I
  obtain ⟨m, K, X, Y, Z, F, H, ⟨hm, hW, h01, h10, h6⟩, ⟨tl, pe, xO, xN, xC, xS, xL, xE, xG, xW, xM, xP, rfl⟩, ⟨yA, yO, yS, yR, yL, yN, yD, yT, yM, yF, yW, yP, rfl, hS, hR⟩⟩ := I
  obtain ⟨b, e⟩ := gw_bz v2
  rw [e]
  refine gx_set hm (fun hn => ?_) (fun n hn e1 hs => ?_)
  · exact gy_set hm hW (fun _ => ⟨rfl, J⟩) (fun n hn' e1 hs => absurd hs (by rw [hn n hn' e1]; exact Bool.false_ne_true))
  · refine gy_set hm hW (fun q => absurd hs (by rw [q n hn e1]; exact Bool.false_ne_true)) (fun n' hn' e2 _ => ?_)
    rw [e1, nI_eq (by omega) (by omega)] at e2
    subst e2
    exact ⟨rfl, gw_rel ⟨hm, hW, gw_01_upd h01 (gw_b01 b), h10, h6⟩ hS hR⟩
end
section
/-! value, count, witness, same, depends, tests -/
theorem gw_p10 {s : Nat} (h : s ≤ 10) : 2 ^ s ≤ 1024 := Nat.le_trans (Nat.pow_le_pow_right (by omega) h) (by decide)
theorem gw_p6 {r : Nat} (h : r ≤ 6) : 2 ^ r ≤ 64 := Nat.le_trans (Nat.pow_le_pow_right (by omega) h) (by decide)
theorem gw_or1 (A : Nat) {p : Nat} (hp : p < 32) : nI A ||| ((1 : Int32) <<< (nI p &&& 31)) = nI (A ||| 2 ^ p) := by
  have h := gw_or A true hp
  rw [show Bool.toNat true = 1 from rfl, Nat.one_shiftLeft] at h
  exact h
/-- the function of a net -/
def gw_T (K X Y Z : Nat → Int32) (m net a : Nat) : Bool := gw_v K X Y Z m (gw_sa K a) net
/-- r is the first a from lo on with T, below N -/
def gw_Fs (T : Nat → Bool) (lo N : Nat) (r : Int32) : Prop := (∃ a, lo ≤ a ∧ a < N ∧ T a = true ∧ (∀ b, lo ≤ b → b < a → T b = false) ∧ r = nI a) ∨ ((∀ b, lo ≤ b → b < N → T b = false) ∧ r = -1)
theorem gw_Fs_u {T : Nat → Bool} {lo N : Nat} {r r' : Int32} (h : gw_Fs T lo N r) (g : gw_Fs T lo N r') : r = r' := by
  rcases h with ⟨a, h1, h2, h3, h4, h5⟩ | ⟨h1, h2⟩ <;> rcases g with ⟨b, g1, g2, g3, g4, g5⟩ | ⟨g1, g2⟩
  · rcases Nat.lt_trichotomy a b with e | e | e
    · rw [g4 a h1 e] at h3; exact absurd h3 Bool.false_ne_true
    · rw [h5, g5, e]
    · rw [h4 b g1 e] at g3; exact absurd g3 Bool.false_ne_true
  · rw [g1 a h1 h2] at h3; exact absurd h3 Bool.false_ne_true
  · rw [h1 b g1 g2] at g3; exact absurd g3 Bool.false_ne_true
  · rw [h2, g2]
section
variable {m s r : Nat} {tl pe : Int32} {K X Y Z F H xO xN xC xS xL xE xG xW xM xP : Nat → Int32}
theorem gx_value {post : Int32 → Prop} {n : Nat} (hm : m ≤ 32) (hW : gw_W K X Y Z F m) (h01 : gw_01 H) (hn : n < m) (h : post (gw_b (gw_v K X Y Z m (gw_hs H) n))) : wpX_value post (nI m, nI s, nI r, tl, pe, K, X, Y, Z, F, H, xO, xN, xC, xS, xL, xE, xG, xW, xM, xP) (nI n) := by
  unfold wpX_value
  dsimp only
  refine gx_net hm hn (br_f gw_n10 (gx_pres hm h01 (gx_v hm hW (fun v hv => gx_bit (by omega) ?_))))
  rw [hv n (by omega), gw_v_congr (s' := gw_hs H) (fun j hj hs => gw_sa_a0 hj hs)]
  exact h
theorem gx_tab_l {post : SX → Prop} {net N : Nat} (hm : m ≤ 32) (hW : gw_W K X Y Z F m) (hn : net < m) (hN : N ≤ 1024) (h : ∀ O, (∀ a, a < N → O a = gw_b (gw_T K X Y Z m net a)) → post (nI m, nI s, nI r, tl, pe, K, X, Y, Z, F, H, O, xN, xC, xS, xL, xE, xG, xW, xM, xP)) : ∀ d a g O, a + d = N → d < g → (∀ b, b < a → O b = gw_b (gw_T K X Y Z m net b)) → wX_tabulate_9 post (nI net) (nI N) (nI m) (nI s) (nI r) tl pe g (nI a) K X Y Z F H O xN xC xS xL xE xG xW xM xP := by
  intro d
  induction d with
  | zero =>
    intro a g O h1 h2 hO
    obtain ⟨g, rfl⟩ := gw_fz h2
    have e : a = N := by omega
    rw [wX_tabulate_9]
    refine br_t (nI_le (by omega) (by omega)) (h O ?_)
    rw [← e]
    exact hO
  | succ d ih =>
    intro a g O h1 h2 hO
    obtain ⟨g, rfl⟩ := gw_fz h2
    have ca : (nI a).toNatClampNeg = a := nI_clamp (by omega)
    have va : vp_in (nI a) 1024 := vp_in_nI (by omega) (by omega)
    have next : wX_tabulate_9 post (nI net) (nI N) (nI m) (nI s) (nI r) tl pe g (nI (a + 1)) K X Y Z F H (upd O a (gw_b (gw_T K X Y Z m net a))) xN xC xS xL xE xG xW xM xP := by
      refine ih (a + 1) g _ (by omega) (by omega) (fun b hb => ?_)
      by_cases e : b = a
      · subst e; exact pk_us
      · rw [pk_un e]; exact hO b (by omega)
    rw [wX_tabulate_9]
    refine br_f (nI_ge (by omega) (by omega)) (gx_v hm hW (fun v hv => gx_bit (by omega) ?_))
    rw [hv net (by omega), ca]
    cases hb : gw_v K X Y Z m (gw_sa K a) net with
    | true =>
      refine br_t rfl ⟨va, nm_r (e' := upd O a (gw_b (gw_T K X Y Z m net a))) ?_ (nm_r (nI_1 a) next)⟩
      unfold gw_T
      rw [hb]; rfl
    | false =>
      refine br_f (by decide) ⟨va, nm_r (e' := upd O a (gw_b (gw_T K X Y Z m net a))) ?_ (nm_r (nI_1 a) next)⟩
      unfold gw_T
      rw [hb]; rfl
theorem gx_tab {post : SX → Prop} {net : Nat} (hm : m ≤ 32) (hW : gw_W K X Y Z F m) (hn : net < m) (h10 : s ≤ 10) (h : ∀ O, (∀ a, a < 2 ^ s → O a = gw_b (gw_T K X Y Z m net a)) → post (nI m, nI s, nI r, tl, pe, K, X, Y, Z, F, H, O, xN, xC, xS, xL, xE, xG, xW, xM, xP)) : wpX_tabulate post (nI m, nI s, nI r, tl, pe, K, X, Y, Z, F, H, xO, xN, xC, xS, xL, xE, xG, xW, xM, xP) (nI net) := by
  unfold wpX_tabulate
  dsimp only
  exact nm_r (gw_pow (by omega)) ⟨2 ^ s + 1, gx_tab_l hm hW hn (gw_p10 h10) h (2 ^ s) 0 (2 ^ s + 1) xO (by omega) (by omega) (fun b hb => absurd hb (Nat.not_lt_zero _))⟩
theorem gx_count_l {post : Int32 → SX → Prop} {N : Nat} {T : Nat → Bool} (hN : N ≤ 1024) (hO : ∀ a, a < N → xO a = gw_b (T a)) (h : post (nI (gw_cnt T N)) (nI m, nI s, nI r, tl, pe, K, X, Y, Z, F, H, xO, xN, xC, xS, xL, xE, xG, xW, xM, xP)) : ∀ d a g, a + d = N → d < g → wX_count_27 post (nI N) (nI m) (nI s) (nI r) tl pe K X Y Z F H xO xN xC xS xL xE xG xW xM xP g (nI (gw_cnt T a)) (nI a) := by
  intro d
  induction d with
  | zero =>
    intro a g h1 h2
    obtain ⟨g, rfl⟩ := gw_fz h2
    have e : a = N := by omega
    rw [wX_count_27]
    refine br_t (nI_le (by omega) (by omega)) ?_
    rw [e]
    exact h
  | succ d ih =>
    intro a g h1 h2
    obtain ⟨g, rfl⟩ := gw_fz h2
    have ca : (nI a).toNatClampNeg = a := nI_clamp (by omega)
    have va : vp_in (nI a) 1024 := vp_in_nI (by omega) (by omega)
    have ihn := ih (a + 1) g (by omega) (by omega)
    rw [wX_count_27]
    refine br_f (nI_ge (by omega) (by omega)) ⟨va, ?_⟩
    rw [ca, hO a (by omega)]
    cases hb : T a with
    | true =>
      rw [gw_cnt_t hb] at ihn
      exact br_f (by decide) (nm_r (nI_1 _) (nm_r (nI_1 a) ihn))
    | false =>
      rw [gw_cnt_f hb] at ihn
      exact br_t rfl (nm_r (nI_1 a) ihn)
theorem gx_count {post : Int32 → SX → Prop} {n : Nat} (hm : m ≤ 32) (hW : gw_W K X Y Z F m) (hn : n < m) (h10 : s ≤ 10) (h : ∀ O, post (nI (gw_cnt (gw_T K X Y Z m n) (2 ^ s))) (nI m, nI s, nI r, tl, pe, K, X, Y, Z, F, H, O, xN, xC, xS, xL, xE, xG, xW, xM, xP)) : wpX_count post (nI m, nI s, nI r, tl, pe, K, X, Y, Z, F, H, xO, xN, xC, xS, xL, xE, xG, xW, xM, xP) (nI n) := by
  unfold wpX_count
  dsimp only
  refine gx_net hm hn (br_f gw_n10 (gx_tab hm hW hn h10 (fun O hO => ?_)))
  exact nm_r (gw_pow (by omega)) ⟨2 ^ s + 1, gx_count_l (gw_p10 h10) hO (h O) (2 ^ s) 0 (2 ^ s + 1) (by omega) (by omega)⟩
theorem gx_wit_l {post : Int32 → SX → Prop} {N lo : Nat} {T : Nat → Bool} (hN : N ≤ 1024) (hO : ∀ a, a < N → xO a = gw_b (T a)) (h : ∀ z, gw_Fs T lo N z → post z (nI m, nI s, nI r, tl, pe, K, X, Y, Z, F, H, xO, xN, xC, xS, xL, xE, xG, xW, xM, xP)) : ∀ d a g, N - a ≤ d → d < g → a < 2 ^ 31 → lo ≤ a → (∀ b, lo ≤ b → b < a → b < N → T b = false) → wX_witness_33 post (nI N) (nI m) (nI s) (nI r) tl pe K X Y Z F H xO xN xC xS xL xE xG xW xM xP g (nI a) := by
  intro d
  induction d with
  | zero =>
    intro a g h1 h2 h3 h4 h5
    obtain ⟨g, rfl⟩ := gw_fz h2
    rw [wX_witness_33]
    exact br_t (nI_le (by omega) (by omega)) (h (-1) (Or.inr ⟨fun b hb hb2 => h5 b hb (by omega) hb2, rfl⟩))
  | succ d ih =>
    intro a g h1 h2 h3 h4 h5
    obtain ⟨g, rfl⟩ := gw_fz h2
    rw [wX_witness_33]
    rcases Nat.lt_or_ge a N with c | c
    · have ca : (nI a).toNatClampNeg = a := nI_clamp (by omega)
      have va : vp_in (nI a) 1024 := vp_in_nI (by omega) (by omega)
      refine br_f (nI_ge (by omega) (by omega)) ⟨va, ?_⟩
      rw [ca, hO a (by omega)]
      cases hb : T a with
      | true => exact br_f (by decide) (h (nI a) (Or.inl ⟨a, h4, c, hb, fun b hb1 hb2 => h5 b hb1 hb2 (by omega), rfl⟩))
      | false =>
        refine br_t rfl (nm_r (nI_1 a) (ih (a + 1) g (by omega) (by omega) (by omega) (by omega) (fun b hb1 hb2 hb3 => ?_)))
        by_cases e : b = a
        · rw [e]; exact hb
        · exact h5 b hb1 (by omega) hb3
    · exact br_t (nI_le (by omega) (by omega)) (h (-1) (Or.inr ⟨fun b hb hb2 => h5 b hb (by omega) hb2, rfl⟩))
theorem gx_wit {post : Int32 → SX → Prop} {n lo : Nat} {p : Int32} (hm : m ≤ 32) (hW : gw_W K X Y Z F m) (hn : n < m) (h10 : s ≤ 10) (hl : lo < 2 ^ 31) (hp : (0 ≤ p ∧ p = nI lo) ∨ (¬ 0 ≤ p ∧ lo = 0)) (h : ∀ O z, gw_Fs (gw_T K X Y Z m n) lo (2 ^ s) z → post z (nI m, nI s, nI r, tl, pe, K, X, Y, Z, F, H, O, xN, xC, xS, xL, xE, xG, xW, xM, xP)) : wpX_witness post (nI m, nI s, nI r, tl, pe, K, X, Y, Z, F, H, xO, xN, xC, xS, xL, xE, xG, xW, xM, xP) (nI n) p := by
  unfold wpX_witness
  dsimp only
  refine gx_net hm hn (br_f gw_n10 (gx_tab hm hW hn h10 (fun O hO => nm_r (gw_pow (by omega)) ?_)))
  have go := gx_wit_l (tl := tl) (pe := pe) (m := m) (s := s) (r := r) (K := K) (X := X) (Y := Y) (Z := Z) (F := F) (H := H) (xN := xN) (xC := xC) (xS := xS) (xL := xL) (xE := xE) (xG := xG) (xW := xW) (xM := xM) (xP := xP) (lo := lo) (gw_p10 h10) hO (h O) (2 ^ s) lo (2 ^ s + 1) (Nat.sub_le _ _) (by omega) hl (Nat.le_refl _) (fun b h1 h2 _ => absurd h2 (by omega))
  rcases hp with ⟨h0, e⟩ | ⟨h0, e⟩
  · rw [e] at h0 ⊢
    exact br_t h0 ⟨_, go⟩
  · subst e
    exact br_f h0 ⟨_, go⟩
theorem gx_same_l {post : Int32 → Prop} {N a b : Nat} (hm : m ≤ 32) (hW : gw_W K X Y Z F m) (ha : a < m) (hb : b < m) (hN : N ≤ 1024) (h : ∀ z, gw_tv (∀ j, j < N → gw_T K X Y Z m a j = gw_T K X Y Z m b j) z → post z) : ∀ d j g, j + d = N → d < g → (∀ i, i < j → gw_T K X Y Z m a i = gw_T K X Y Z m b i) → wX_same_28 post (nI a) (nI b) (nI N) (nI m) (nI s) (nI r) tl pe K X Y Z F H xO xN xC xS xL xE xG xW xM xP g (nI j) := by
  intro d
  induction d with
  | zero =>
    intro j g h1 h2 h3
    obtain ⟨g, rfl⟩ := gw_fz h2
    have e : j = N := by omega
    rw [wX_same_28]
    refine br_t (nI_le (by omega) (by omega)) (h 1 (gw_tv_t ?_))
    rw [← e]
    exact h3
  | succ d ih =>
    intro j g h1 h2 h3
    obtain ⟨g, rfl⟩ := gw_fz h2
    rw [wX_same_28]
    refine br_f (nI_ge (by omega) (by omega)) (gx_v hm hW (fun v hv => gx_bit (by omega) (gx_bit (by omega) ?_)))
    rw [hv a (by omega), hv b (by omega), gw_b_inj]
    refine br_c (fun e => nm_r (nI_1 j) (ih (j + 1) g (by omega) (by omega) (lt_s h3 e))) (fun e => h 0 (gw_tv_f (fun q => e (q j (by omega)))))
theorem gx_same {post : Int32 → Prop} {a b : Nat} (hm : m ≤ 32) (hW : gw_W K X Y Z F m) (ha : a < m) (hb : b < m) (h10 : s ≤ 10) (h : ∀ z, gw_tv (∀ j, j < 2 ^ s → gw_T K X Y Z m a j = gw_T K X Y Z m b j) z → post z) : wpX_same post (nI m, nI s, nI r, tl, pe, K, X, Y, Z, F, H, xO, xN, xC, xS, xL, xE, xG, xW, xM, xP) (nI a) (nI b) := by
  unfold wpX_same
  dsimp only
  refine gx_net hm ha (br_f gw_n10 (gx_net hm hb (br_f gw_n10 (nm_r (gw_pow (by omega)) ⟨2 ^ s + 1, ?_⟩))))
  exact gx_same_l hm hW ha hb (gw_p10 h10) h (2 ^ s) 0 (2 ^ s + 1) (by omega) (by omega) (fun i hi => absurd hi (Nat.not_lt_zero _))
theorem gx_felt_l {post : Int32 → Prop} {N p : Nat} {T : Nat → Bool} (hN : N ≤ 1024) (hx : ∀ a, a < N → a ^^^ 2 ^ p < N) (hO : ∀ a, a < N → xO a = gw_b (T a)) (h : ∀ z, gw_tv (∃ a, a < N ∧ T a ≠ T (a ^^^ 2 ^ p)) z → post z) : ∀ d a g, a + d = N → d < g → (∀ b, b < a → T b = T (b ^^^ 2 ^ p)) → wX_isFeltAt_14 post (nI N) (nI (2 ^ p)) (nI m) (nI s) (nI r) tl pe K X Y Z F H xO xN xC xS xL xE xG xW xM xP g (nI a) := by
  intro d
  induction d with
  | zero =>
    intro a g h1 h2 h3
    obtain ⟨g, rfl⟩ := gw_fz h2
    have e : a = N := by omega
    rw [wX_isFeltAt_14]
    refine br_t (nI_le (by omega) (by omega)) (h 0 (gw_tv_f ?_))
    rintro ⟨b, h4, h5⟩
    exact h5 (h3 b (by omega))
  | succ d ih =>
    intro a g h1 h2 h3
    obtain ⟨g, rfl⟩ := gw_fz h2
    have hx' := hx a (by omega)
    have ca : (nI a).toNatClampNeg = a := nI_clamp (by omega)
    have va : vp_in (nI a) 1024 := vp_in_nI (by omega) (by omega)
    have cx : (nI (a ^^^ 2 ^ p)).toNatClampNeg = a ^^^ 2 ^ p := nI_clamp (by omega)
    have vx : vp_in (nI (a ^^^ 2 ^ p)) 1024 := vp_in_nI (by omega) (by omega)
    rw [wX_isFeltAt_14]
    dsimp only
    rw [nx_xor, ca, cx, hO a (by omega), hO _ hx', gw_b_inj]
    refine br_f (nI_ge (by omega) (by omega)) ⟨va, vx, br_c (fun e => nm_r (nI_1 a) (ih (a + 1) g (by omega) (by omega) (lt_s h3 e))) (fun e => h 1 (gw_tv_t ⟨a, by omega, e⟩))⟩
theorem gx_felt {post : Int32 → Prop} {p : Nat} {T : Nat → Bool} (h10 : s ≤ 10) (hp : p < s) (hO : ∀ a, a < 2 ^ s → xO a = gw_b (T a)) (h : ∀ z, gw_tv (∃ a, a < 2 ^ s ∧ T a ≠ T (a ^^^ 2 ^ p)) z → post z) : wpX_isFeltAt post (nI m, nI s, nI r, tl, pe, K, X, Y, Z, F, H, xO, xN, xC, xS, xL, xE, xG, xW, xM, xP) (nI p) := by
  unfold wpX_isFeltAt
  dsimp only
  refine nm_r (gw_pow (by omega)) (nm_r (gw_pow (by omega)) ⟨2 ^ s + 1, ?_⟩)
  exact gx_felt_l (gw_p10 h10) (fun a ha => Nat.xor_lt_two_pow ha (Nat.pow_lt_pow_right (by omega) hp)) hO h (2 ^ s) 0 (2 ^ s + 1) (by omega) (by omega) (fun b hb => absurd hb (Nat.not_lt_zero _))
theorem gx_dep_l {post : Int32 → SX → Prop} {net src : Nat} (hm : m ≤ 32) (hW : gw_W K X Y Z F m) (hn : net < m) (hsrc : src < m) (hs : s = gw_cnt (gw_sk K) m) (h10 : s ≤ 10) (hk : gw_sk K src = true) (h : ∀ O z, gw_tv (∃ a, a < 2 ^ s ∧ gw_T K X Y Z m net a ≠ gw_T K X Y Z m net (a ^^^ 2 ^ gw_cnt (gw_sk K) src)) z → post z (nI m, nI s, nI r, tl, pe, K, X, Y, Z, F, H, O, xN, xC, xS, xL, xE, xG, xW, xM, xP)) : ∀ d n g, n + d = src → d < g → wX_depends_23 post (nI net) (nI src) (nI m) (nI s) (nI r) tl pe K X Y Z F H xO xN xC xS xL xE xG xW xM xP g (nI (gw_cnt (gw_sk K) n)) (nI n) := by
  intro d
  induction d with
  | zero =>
    intro n g h1 h2
    obtain ⟨g, rfl⟩ := gw_fz h2
    have e : n = src := by omega
    have hp : gw_cnt (gw_sk K) src < s := by rw [hs]; exact gw_cnt_lt hk hsrc
    rw [wX_depends_23]
    refine br_t (nI_le (by omega) (by omega)) (gx_tab hm hW hn h10 (fun O hO => ?_))
    dsimp only
    rw [e]
    exact gx_felt h10 hp hO (fun z hz => ⟨gw_nb (gw_tv_01 hz), h O z hz⟩)
  | succ d ih =>
    intro n g h1 h2
    obtain ⟨g, rfl⟩ := gw_fz h2
    have cn : (nI n).toNatClampNeg = n := nI_clamp (by omega)
    have vn : vp_in (nI n) 32 := vp_in_nI (by omega) (by omega)
    have ihn := ih (n + 1) g (by omega) (by omega)
    rw [wX_depends_23]
    refine br_f (nI_ge (by omega) (by omega)) ⟨vn, gx_sk (fun hk => br_f gw_n10 (nm_r (nI_1 _) (nm_r (nI_1 n) ?_))) (fun hk => br_t rfl (nm_r (nI_1 n) ?_))⟩
    · rw [cn] at hk
      rw [gw_cnt_t (gw_sk_t.mpr hk)] at ihn
      exact ihn
    · rw [cn] at hk
      rw [gw_cnt_f (gw_sk_f.mpr hk)] at ihn
      exact ihn
theorem gx_dep {post : Int32 → SX → Prop} {net : Nat} {p : Int32} (hm : m ≤ 32) (hW : gw_W K X Y Z F m) (hn : net < m) (hs : s = gw_cnt (gw_sk K) m) (h10 : s ≤ 10) (c0 : (∀ n, n < m → p = nI n → gw_sk K n = false) → post 0 (nI m, nI s, nI r, tl, pe, K, X, Y, Z, F, H, xO, xN, xC, xS, xL, xE, xG, xW, xM, xP)) (c1 : ∀ src, src < m → p = nI src → gw_sk K src = true → ∀ O z, gw_tv (∃ a, a < 2 ^ s ∧ gw_T K X Y Z m net a ≠ gw_T K X Y Z m net (a ^^^ 2 ^ gw_cnt (gw_sk K) src)) z → post z (nI m, nI s, nI r, tl, pe, K, X, Y, Z, F, H, O, xN, xC, xS, xL, xE, xG, xW, xM, xP)) : wpX_depends post (nI m, nI s, nI r, tl, pe, K, X, Y, Z, F, H, xO, xN, xC, xS, xL, xE, xG, xW, xM, xP) (nI net) p := by
  unfold wpX_depends
  dsimp only
  refine gx_net hm hn (br_f gw_n10 (gx_src hm (fun src hsrc e hk => br_f gw_n10 ⟨src + 1, ?_⟩) (fun q => br_t rfl (c0 q))))
  rw [e]
  exact gx_dep_l hm hW hn hsrc hs h10 hk (c1 src hsrc e hk) src 0 (src + 1) (by omega) (by omega)
/-- the tests of a fault -/
def gw_ts (K X Y Z : Nat → Int32) (m net out : Nat) (o : Bool) (a : Nat) : Bool := gw_v K X Y Z m (gw_sa K a) out != gw_ev K X Y Z (gw_sa K a) net o m out
theorem gx_tests_l {post : Int32 → Prop} {N net out : Nat} {o : Bool} (hm : m ≤ 32) (hW : gw_W K X Y Z F m) (hn : net < m) (ho : out < m) (hN : N ≤ 1024) (h : post (nI (gw_cnt (gw_ts K X Y Z m net out o) N))) : ∀ d a g, a + d = N → d < g → wX_tests_43 post (nI net) (nI out) (gw_b o) (nI N) (nI m) (nI s) (nI r) tl pe K X Y Z F H xO xN xC xS xL xE xG xW xM xP g (nI (gw_cnt (gw_ts K X Y Z m net out o) a)) (nI a) := by
  intro d
  induction d with
  | zero =>
    intro a g h1 h2
    obtain ⟨g, rfl⟩ := gw_fz h2
    have e : a = N := by omega
    rw [wX_tests_43]
    refine br_t (nI_le (by omega) (by omega)) ?_
    rw [e]
    exact h
  | succ d ih =>
    intro a g h1 h2
    obtain ⟨g, rfl⟩ := gw_fz h2
    have ihn := ih (a + 1) g (by omega) (by omega)
    rw [wX_tests_43]
    refine br_f (nI_ge (by omega) (by omega)) (gx_v hm hW (fun v hv => gx_val (f := net) (o := o) hm hW (fun n hn' => nI_eq (by omega) (by omega)) (fun _ => rfl) (fun w hw => gx_bit (by omega) (gx_bit (by omega) ?_))))
    rw [hv out (by omega), hw out (by omega), gw_b_inj]
    refine br_c (fun e => ?_) (fun e => ?_)
    · have ht : gw_ts K X Y Z m net out o a = false := by unfold gw_ts; rw [e]; exact bne_self_eq_false _
      rw [gw_cnt_f ht] at ihn
      exact nm_r (nI_1 a) ihn
    · have ht : gw_ts K X Y Z m net out o a = true := by unfold gw_ts; exact bne_iff_ne.mpr e
      rw [gw_cnt_t ht] at ihn
      exact nm_r (nI_1 _) (nm_r (nI_1 a) ihn)
theorem gx_tests {post : Int32 → Prop} {net out : Nat} {o : Bool} (hm : m ≤ 32) (hW : gw_W K X Y Z F m) (hn : net < m) (ho : out < m) (h10 : s ≤ 10) (h : post (nI (gw_cnt (gw_ts K X Y Z m net out o) (2 ^ s)))) : wpX_tests post (nI m, nI s, nI r, tl, pe, K, X, Y, Z, F, H, xO, xN, xC, xS, xL, xE, xG, xW, xM, xP) (nI net) (gw_b o) (nI out) := by
  unfold wpX_tests
  dsimp only
  have go := gx_tests_l (tl := tl) (pe := pe) (s := s) (r := r) (H := H) (xO := xO) (xN := xN) (xC := xC) (xS := xS) (xL := xL) (xE := xE) (xG := xG) (xW := xW) (xM := xM) (xP := xP) hm hW hn ho (gw_p10 h10) h (2 ^ s) 0 (2 ^ s + 1) (by omega) (by omega)
  refine gx_net hm hn (br_f gw_n10 (gx_net hm ho (br_f gw_n10 ?_)))
  cases o with
  | true => exact br_f (by decide) (nm_r (gw_pow (by omega)) ⟨_, go⟩)
  | false => exact br_t rfl (nm_r (gw_pow (by omega)) ⟨_, go⟩)
end
end
section
/-! the reference's value, count, witness, same, depends, tests -/
section
variable {m s r : Nat} {K X Y Z F H yA yO yS yR yL yN yD yT yM yF yW yP : Nat → Int32}
theorem gy_value {post : Int32 → SY → Prop} {n : Nat} (hm : m ≤ 32) (hW : gw_W K X Y Z F m) (h01 : gw_01 H) (hs : s = gw_cnt (gw_sk K) m) (h10 : s ≤ 10) (hE : gw_En (gw_sk K) yS m) (hn : n < m) (h : ∀ A, post (gw_b (gw_v K X Y Z m (gw_hs H) n)) (nI m, nI s, nI r, K, X, Y, Z, F, H, A, yO, yS, yR, yL, yN, yD, yT, yM, yF, yW, yP)) : wpY_value post (nI m, nI s, nI r, K, X, Y, Z, F, H, yA, yO, yS, yR, yL, yN, yD, yT, yM, yF, yW, yP) (nI n) := by
  have cn : (nI n).toNatClampNeg = n := nI_clamp (by omega)
  unfold wpY_value
  dsimp only
  refine gy_net hm hn (br_f gw_n10 (gy_present hm hW h01 hs h10 hE (fun A hA => ?_)))
  have g := h A
  dsimp only
  rw [cn, hA n hn]
  refine ⟨vp_in_nI (by omega) (by omega), ?_⟩
  cases hb : gw_v K X Y Z m (gw_hs H) n with
  | true => rw [hb] at g; exact br_f (by decide) g
  | false => rw [hb] at g; exact br_t rfl g
theorem gy_count_l {post : Int32 → SY → Prop} {n N : Nat} (hm : m ≤ 32) (hW : gw_W K X Y Z F m) (hs : s = gw_cnt (gw_sk K) m) (h10 : s ≤ 10) (hE : gw_En (gw_sk K) yS m) (hn : n < m) (hN : N = 2 ^ s) (h : ∀ A, post (nI (gw_cnt (gw_T K X Y Z m n) N)) (nI m, nI s, nI r, K, X, Y, Z, F, H, A, yO, yS, yR, yL, yN, yD, yT, yM, yF, yW, yP)) : ∀ d a g A, a + d = N → d < g → wY_count_14 post (nI n) g (nI (gw_cnt (gw_T K X Y Z m n) a)) (nI a) (nI m) (nI s) (nI r) K X Y Z F H A yO yS yR yL yN yD yT yM yF yW yP := by
  have hb : N ≤ 1024 := by rw [hN]; exact gw_p10 h10
  have cn : (nI n).toNatClampNeg = n := nI_clamp (by omega)
  intro d
  induction d with
  | zero =>
    intro a g A h1 h2
    obtain ⟨g, rfl⟩ := gw_fz h2
    have e : a = N := by omega
    rw [wY_count_14]
    dsimp only
    rw [gw_pow (by omega), ← hN]
    refine br_t (nI_le (by omega) (by omega)) ?_
    rw [e]
    exact h A
  | succ d ih =>
    intro a g A h1 h2
    obtain ⟨g, rfl⟩ := gw_fz h2
    rw [wY_count_14]
    dsimp only
    rw [gw_pow (by omega), ← hN]
    refine br_f (nI_ge (by omega) (by omega)) (gy_assign (by omega) hm hW hs h10 hE (fun A' hA => ?_))
    have ihn := ih (a + 1) g A' (by omega) (by omega)
    dsimp only
    rw [cn, hA n hn]
    refine ⟨vp_in_nI (by omega) (by omega), ?_⟩
    cases ht : gw_v K X Y Z m (gw_sa K a) n with
    | true =>
      rw [gw_cnt_t (show gw_T K X Y Z m n a = true from ht)] at ihn
      exact br_f (by decide) (nm_r (nI_1 _) (nm_r (nI_1 a) ihn))
    | false =>
      rw [gw_cnt_f (show gw_T K X Y Z m n a = false from ht)] at ihn
      exact br_t rfl (nm_r (nI_1 a) ihn)
theorem gy_count {post : Int32 → SY → Prop} {n : Nat} (hm : m ≤ 32) (hW : gw_W K X Y Z F m) (hs : s = gw_cnt (gw_sk K) m) (h10 : s ≤ 10) (hE : gw_En (gw_sk K) yS m) (hn : n < m) (h : ∀ A, post (nI (gw_cnt (gw_T K X Y Z m n) (2 ^ s))) (nI m, nI s, nI r, K, X, Y, Z, F, H, A, yO, yS, yR, yL, yN, yD, yT, yM, yF, yW, yP)) : wpY_count post (nI m, nI s, nI r, K, X, Y, Z, F, H, yA, yO, yS, yR, yL, yN, yD, yT, yM, yF, yW, yP) (nI n) := by
  unfold wpY_count
  dsimp only
  exact gy_net hm hn (br_f gw_n10 ⟨2 ^ s + 1, gy_count_l hm hW hs h10 hE hn rfl h (2 ^ s) 0 (2 ^ s + 1) yA (by omega) (by omega)⟩)
theorem gy_wit_l {post : Int32 → SY → Prop} {n N lo : Nat} (hm : m ≤ 32) (hW : gw_W K X Y Z F m) (hs : s = gw_cnt (gw_sk K) m) (h10 : s ≤ 10) (hE : gw_En (gw_sk K) yS m) (hn : n < m) (hN : N = 2 ^ s) (h : ∀ A z, gw_Fs (gw_T K X Y Z m n) lo N z → post z (nI m, nI s, nI r, K, X, Y, Z, F, H, A, yO, yS, yR, yL, yN, yD, yT, yM, yF, yW, yP)) : ∀ d a g A, N - a ≤ d → d < g → a < 2 ^ 31 → lo ≤ a → (∀ b, lo ≤ b → b < a → b < N → gw_T K X Y Z m n b = false) → wY_witness_20 post (nI n) g (nI a) (nI m) (nI s) (nI r) K X Y Z F H A yO yS yR yL yN yD yT yM yF yW yP := by
  have hb : N ≤ 1024 := by rw [hN]; exact gw_p10 h10
  have cn : (nI n).toNatClampNeg = n := nI_clamp (by omega)
  intro d
  induction d with
  | zero =>
    intro a g A h1 h2 h3 h4 h5
    obtain ⟨g, rfl⟩ := gw_fz h2
    rw [wY_witness_20]
    dsimp only
    rw [gw_pow (by omega), ← hN]
    exact br_t (nI_le (by omega) (by omega)) (h A (-1) (Or.inr ⟨fun b hb1 hb2 => h5 b hb1 (by omega) hb2, rfl⟩))
  | succ d ih =>
    intro a g A h1 h2 h3 h4 h5
    obtain ⟨g, rfl⟩ := gw_fz h2
    rw [wY_witness_20]
    dsimp only
    rw [gw_pow (by omega), ← hN]
    rcases Nat.lt_or_ge a N with c | c
    · refine br_f (nI_ge (by omega) (by omega)) (gy_assign (by omega) hm hW hs h10 hE (fun A' hA => ?_))
      dsimp only
      rw [cn, hA n hn]
      refine ⟨vp_in_nI (by omega) (by omega), ?_⟩
      cases ht : gw_v K X Y Z m (gw_sa K a) n with
      | true => exact br_f (by decide) (h A' (nI a) (Or.inl ⟨a, h4, c, ht, fun b hb1 hb2 => h5 b hb1 hb2 (by omega), rfl⟩))
      | false =>
        refine br_t rfl (nm_r (nI_1 a) (ih (a + 1) g A' (by omega) (by omega) (by omega) (by omega) (fun b hb1 hb2 hb3 => ?_)))
        by_cases e : b = a
        · rw [e]; exact ht
        · exact h5 b hb1 (by omega) hb3
    · exact br_t (nI_le (by omega) (by omega)) (h A (-1) (Or.inr ⟨fun b hb1 hb2 => h5 b hb1 (by omega) hb2, rfl⟩))
theorem gy_wit {post : Int32 → SY → Prop} {n lo : Nat} {p : Int32} (hm : m ≤ 32) (hW : gw_W K X Y Z F m) (hs : s = gw_cnt (gw_sk K) m) (h10 : s ≤ 10) (hE : gw_En (gw_sk K) yS m) (hn : n < m) (hl : lo < 2 ^ 31) (hp : (0 ≤ p ∧ p = nI lo) ∨ (¬ 0 ≤ p ∧ lo = 0)) (h : ∀ A z, gw_Fs (gw_T K X Y Z m n) lo (2 ^ s) z → post z (nI m, nI s, nI r, K, X, Y, Z, F, H, A, yO, yS, yR, yL, yN, yD, yT, yM, yF, yW, yP)) : wpY_witness post (nI m, nI s, nI r, K, X, Y, Z, F, H, yA, yO, yS, yR, yL, yN, yD, yT, yM, yF, yW, yP) (nI n) p := by
  unfold wpY_witness
  dsimp only
  refine gy_net hm hn (br_f gw_n10 ?_)
  have go := gy_wit_l (r := r) (H := H) (yO := yO) (yR := yR) (yL := yL) (yN := yN) (yD := yD) (yT := yT) (yM := yM) (yF := yF) (yW := yW) (yP := yP) (lo := lo) hm hW hs h10 hE hn rfl h (2 ^ s) lo (2 ^ s + 1) yA (Nat.sub_le _ _) (by omega) hl (Nat.le_refl _) (fun b h1 h2 _ => absurd h2 (by omega))
  rcases hp with ⟨h0, e⟩ | ⟨h0, e⟩
  · rw [e] at h0 ⊢
    exact br_t h0 ⟨_, go⟩
  · subst e
    exact br_f h0 ⟨_, go⟩
theorem gy_same_l {post : Int32 → SY → Prop} {N a b : Nat} (hm : m ≤ 32) (hW : gw_W K X Y Z F m) (hs : s = gw_cnt (gw_sk K) m) (h10 : s ≤ 10) (hE : gw_En (gw_sk K) yS m) (ha : a < m) (hb : b < m) (hN : N = 2 ^ s) (h : ∀ A z, gw_tv (∀ j, j < N → gw_T K X Y Z m a j = gw_T K X Y Z m b j) z → post z (nI m, nI s, nI r, K, X, Y, Z, F, H, A, yO, yS, yR, yL, yN, yD, yT, yM, yF, yW, yP)) : ∀ d j g A, j + d = N → d < g → (∀ i, i < j → gw_T K X Y Z m a i = gw_T K X Y Z m b i) → wY_same_20 post (nI a) (nI b) g (nI j) (nI m) (nI s) (nI r) K X Y Z F H A yO yS yR yL yN yD yT yM yF yW yP := by
  have hN2 : N ≤ 1024 := by rw [hN]; exact gw_p10 h10
  have ca : (nI a).toNatClampNeg = a := nI_clamp (by omega)
  have cb : (nI b).toNatClampNeg = b := nI_clamp (by omega)
  intro d
  induction d with
  | zero =>
    intro j g A h1 h2 h3
    obtain ⟨g, rfl⟩ := gw_fz h2
    have e : j = N := by omega
    rw [wY_same_20]
    dsimp only
    rw [gw_pow (by omega), ← hN]
    refine br_t (nI_le (by omega) (by omega)) (h A 1 (gw_tv_t ?_))
    rw [← e]
    exact h3
  | succ d ih =>
    intro j g A h1 h2 h3
    obtain ⟨g, rfl⟩ := gw_fz h2
    rw [wY_same_20]
    dsimp only
    rw [gw_pow (by omega), ← hN]
    refine br_f (nI_ge (by omega) (by omega)) (gy_assign (by omega) hm hW hs h10 hE (fun A' hA => ?_))
    dsimp only
    rw [ca, cb, hA a ha, hA b hb, gw_b_inj]
    refine ⟨vp_in_nI (by omega) (by omega), vp_in_nI (by omega) (by omega), ?_⟩
    exact br_c (fun e => nm_r (nI_1 j) (ih (j + 1) g A' (by omega) (by omega) (lt_s h3 e))) (fun e => h A' 0 (gw_tv_f (fun q => e (q j (by omega)))))
theorem gy_same {post : Int32 → SY → Prop} {a b : Nat} (hm : m ≤ 32) (hW : gw_W K X Y Z F m) (hs : s = gw_cnt (gw_sk K) m) (h10 : s ≤ 10) (hE : gw_En (gw_sk K) yS m) (ha : a < m) (hb : b < m) (h : ∀ A z, gw_tv (∀ j, j < 2 ^ s → gw_T K X Y Z m a j = gw_T K X Y Z m b j) z → post z (nI m, nI s, nI r, K, X, Y, Z, F, H, A, yO, yS, yR, yL, yN, yD, yT, yM, yF, yW, yP)) : wpY_same post (nI m, nI s, nI r, K, X, Y, Z, F, H, yA, yO, yS, yR, yL, yN, yD, yT, yM, yF, yW, yP) (nI a) (nI b) := by
  unfold wpY_same
  dsimp only
  exact gy_net hm ha (br_f gw_n10 (gy_net hm hb (br_f gw_n10 ⟨2 ^ s + 1, gy_same_l hm hW hs h10 hE ha hb rfl h (2 ^ s) 0 (2 ^ s + 1) yA (by omega) (by omega) (fun i hi => absurd hi (Nat.not_lt_zero _))⟩)))
theorem gy_leans_l {post : Int32 → SY → Prop} {n N p : Nat} (hm : m ≤ 32) (hW : gw_W K X Y Z F m) (hs : s = gw_cnt (gw_sk K) m) (h10 : s ≤ 10) (hE : gw_En (gw_sk K) yS m) (hn : n < m) (hN : N = 2 ^ s) (hp : p < s) (h : ∀ A z, gw_tv (∃ a, a < N ∧ a.testBit p = false ∧ gw_T K X Y Z m n (a ||| 2 ^ p) ≠ gw_T K X Y Z m n a) z → post z (nI m, nI s, nI r, K, X, Y, Z, F, H, A, yO, yS, yR, yL, yN, yD, yT, yM, yF, yW, yP)) : ∀ d a g A, a + d = N → d < g → (∀ b, b < a → b.testBit p = false → gw_T K X Y Z m n (b ||| 2 ^ p) = gw_T K X Y Z m n b) → wY_leans_2 post (nI n) (nI p) g (nI a) (nI m) (nI s) (nI r) K X Y Z F H A yO yS yR yL yN yD yT yM yF yW yP := by
  have hN2 : N ≤ 1024 := by rw [hN]; exact gw_p10 h10
  have cn : (nI n).toNatClampNeg = n := nI_clamp (by omega)
  intro d
  induction d with
  | zero =>
    intro a g A h1 h2 h3
    obtain ⟨g, rfl⟩ := gw_fz h2
    rw [wY_leans_2]
    dsimp only
    rw [gw_pow (by omega), ← hN]
    refine br_t (nI_le (by omega) (by omega)) (h A 0 (gw_tv_f ?_))
    rintro ⟨b, h4, h5, h6⟩
    exact h6 (h3 b (by omega) h5)
  | succ d ih =>
    intro a g A h1 h2 h3
    obtain ⟨g, rfl⟩ := gw_fz h2
    have hlt : a ||| 2 ^ p < N := by
      rw [hN]
      exact Nat.or_lt_two_pow (by rw [← hN]; omega) (Nat.pow_lt_pow_right (by omega) hp)
    rw [wY_leans_2]
    dsimp only
    rw [gw_pow (by omega), ← hN]
    refine br_f (nI_ge (by omega) (by omega)) ?_
    rw [gw_sbit (by omega) (by omega), gw_or1 a (by omega)]
    cases hb : a.testBit p with
    | true =>
      exact br_t rfl (nm_r (nI_1 a) (ih (a + 1) g A (by omega) (by omega) (lt_s h3 (fun q => by rw [hb] at q; exact absurd q.symm Bool.false_ne_true))))
    | false =>
      refine br_f (by decide) (gy_assign (by omega) hm hW hs h10 hE (fun A' hA => ?_))
      dsimp only
      rw [cn, hA n hn]
      refine ⟨vp_in_nI (by omega) (by omega), nm_e (gy_assign (by omega) hm hW hs h10 hE (fun A2 hA2 => ?_))⟩
      dsimp only
      rw [hA2 n hn, gw_b_inj]
      refine ⟨vp_in_nI (by omega) (by omega), ?_⟩
      exact br_c (fun e => nm_r (nI_1 a) (ih (a + 1) g A2 (by omega) (by omega) (lt_s h3 (fun _ => e)))) (fun e => h A2 1 (gw_tv_t ⟨a, by omega, hb, e⟩))
theorem gy_leans {post : Int32 → SY → Prop} {n p : Nat} (hm : m ≤ 32) (hW : gw_W K X Y Z F m) (hs : s = gw_cnt (gw_sk K) m) (h10 : s ≤ 10) (hE : gw_En (gw_sk K) yS m) (hn : n < m) (hp : p < s) (h : ∀ A z, gw_tv (∃ a, a < 2 ^ s ∧ a.testBit p = false ∧ gw_T K X Y Z m n (a ||| 2 ^ p) ≠ gw_T K X Y Z m n a) z → post z (nI m, nI s, nI r, K, X, Y, Z, F, H, A, yO, yS, yR, yL, yN, yD, yT, yM, yF, yW, yP)) : wpY_leans post (nI m, nI s, nI r, K, X, Y, Z, F, H, yA, yO, yS, yR, yL, yN, yD, yT, yM, yF, yW, yP) (nI n) (nI p) :=
  ⟨2 ^ s + 1, gy_leans_l hm hW hs h10 hE hn rfl hp h (2 ^ s) 0 (2 ^ s + 1) yA (by omega) (by omega) (fun b hb => absurd hb (Nat.not_lt_zero _))⟩
theorem gy_dep_l {post : Int32 → SY → Prop} {net src : Nat} (hm : m ≤ 32) (hW : gw_W K X Y Z F m) (hs : s = gw_cnt (gw_sk K) m) (h10 : s ≤ 10) (hE : gw_En (gw_sk K) yS m) (hn : net < m) (hsrc : src < m) (hk : gw_sk K src = true) (h : ∀ A z, gw_tv (∃ a, a < 2 ^ s ∧ a.testBit (gw_cnt (gw_sk K) src) = false ∧ gw_T K X Y Z m net (a ||| 2 ^ gw_cnt (gw_sk K) src) ≠ gw_T K X Y Z m net a) z → post z (nI m, nI s, nI r, K, X, Y, Z, F, H, A, yO, yS, yR, yL, yN, yD, yT, yM, yF, yW, yP)) : ∀ d i g, i + d = gw_cnt (gw_sk K) src → d < g → wY_depends_20 post (nI net) (nI src) (nI m) (nI s) (nI r) K X Y Z F H yA yO yS yR yL yN yD yT yM yF yW yP g (nI i) := by
  have hc := gw_cnt_lt hk hsrc
  intro d
  induction d with
  | zero =>
    intro i g h1 h2
    obtain ⟨g, rfl⟩ := gw_fz h2
    have e : i = gw_cnt (gw_sk K) src := by omega
    have ci : (nI i).toNatClampNeg = i := nI_clamp (by omega)
    rw [wY_depends_20]
    refine ⟨vp_in_nI (by omega) (by omega), ?_⟩
    rw [ci, e]
    exact br_t (hE src hsrc hk) (gy_leans hm hW hs h10 hE hn (by omega) (fun A z hz => ⟨gw_nb (gw_tv_01 hz), h A z hz⟩))
  | succ d ih =>
    intro i g h1 h2
    obtain ⟨g, rfl⟩ := gw_fz h2
    have ci : (nI i).toNatClampNeg = i := nI_clamp (by omega)
    obtain ⟨n, hn', hq, hc', e⟩ := gw_En_at hE (show i < gw_cnt (gw_sk K) m by omega)
    rw [wY_depends_20]
    refine ⟨vp_in_nI (by omega) (by omega), ?_⟩
    rw [ci, e]
    refine br_f (fun q => ?_) (nm_r (nI_1 i) (ih (i + 1) g (by omega) (by omega)))
    rw [nI_eq (by omega) (by omega)] at q
    rw [q] at hc'
    omega
theorem gy_dep {post : Int32 → SY → Prop} {net : Nat} {p : Int32} (hm : m ≤ 32) (hW : gw_W K X Y Z F m) (hs : s = gw_cnt (gw_sk K) m) (h10 : s ≤ 10) (hE : gw_En (gw_sk K) yS m) (hn : net < m) (c0 : (∀ n, n < m → p = nI n → gw_sk K n = false) → post 0 (nI m, nI s, nI r, K, X, Y, Z, F, H, yA, yO, yS, yR, yL, yN, yD, yT, yM, yF, yW, yP)) (c1 : ∀ src, src < m → p = nI src → gw_sk K src = true → ∀ A z, gw_tv (∃ a, a < 2 ^ s ∧ a.testBit (gw_cnt (gw_sk K) src) = false ∧ gw_T K X Y Z m net (a ||| 2 ^ gw_cnt (gw_sk K) src) ≠ gw_T K X Y Z m net a) z → post z (nI m, nI s, nI r, K, X, Y, Z, F, H, A, yO, yS, yR, yL, yN, yD, yT, yM, yF, yW, yP)) : wpY_depends post (nI m, nI s, nI r, K, X, Y, Z, F, H, yA, yO, yS, yR, yL, yN, yD, yT, yM, yF, yW, yP) (nI net) p := by
  unfold wpY_depends
  dsimp only
  refine gy_net hm hn (br_f gw_n10 (gy_src hm hW (fun src hsrc e hk => br_f gw_n10 ⟨gw_cnt (gw_sk K) src + 1, ?_⟩) (fun q => br_t rfl (c0 q))))
  rw [e]
  exact gy_dep_l hm hW hs h10 hE hn hsrc hk (c1 src hsrc e hk) (gw_cnt (gw_sk K) src) 0 _ (by omega) (by omega)
theorem gy_tests_l {post : Int32 → SY → Prop} {N net out : Nat} {o : Bool} (hm : m ≤ 32) (hW : gw_W K X Y Z F m) (hs : s = gw_cnt (gw_sk K) m) (h10 : s ≤ 10) (hE : gw_En (gw_sk K) yS m) (hn : net < m) (ho : out < m) (hN : N = 2 ^ s) (h : ∀ A, post (nI (gw_cnt (gw_ts K X Y Z m net out o) N)) (nI m, nI s, nI r, K, X, Y, Z, F, H, A, yO, yS, yR, yL, yN, yD, yT, yM, yF, yW, yP)) : ∀ d a g A, a + d = N → d < g → wY_tests_24 post (nI net) (gw_b o) (nI out) g (nI (gw_cnt (gw_ts K X Y Z m net out o) a)) (nI a) (nI m) (nI s) (nI r) K X Y Z F H A yO yS yR yL yN yD yT yM yF yW yP := by
  have hN2 : N ≤ 1024 := by rw [hN]; exact gw_p10 h10
  have co : (nI out).toNatClampNeg = out := nI_clamp (by omega)
  intro d
  induction d with
  | zero =>
    intro a g A h1 h2
    obtain ⟨g, rfl⟩ := gw_fz h2
    have e : a = N := by omega
    rw [wY_tests_24]
    dsimp only
    rw [gw_pow (by omega), ← hN]
    refine br_t (nI_le (by omega) (by omega)) ?_
    rw [e]
    exact h A
  | succ d ih =>
    intro a g A h1 h2
    obtain ⟨g, rfl⟩ := gw_fz h2
    rw [wY_tests_24]
    dsimp only
    rw [gw_pow (by omega), ← hN]
    refine br_f (nI_ge (by omega) (by omega)) (gy_assign (by omega) hm hW hs h10 hE (fun A' hA => ?_))
    dsimp only
    rw [co, hA out ho]
    refine ⟨vp_in_nI (by omega) (by omega), nm_e (gy_work (sv := gw_sa K a) (f := net) (o := o) hm hW (fun n hn' => nI_eq (by omega) (by omega)) (fun _ => rfl) (fun j hj hk => ?_) (fun A2 hA2 => ?_))⟩
    · rw [hA j hj]
      unfold gw_v
      rw [gw_ev_src hj (by omega) hk]
    · have ihn := ih (a + 1) g A2 (by omega) (by omega)
      dsimp only
      rw [hA2 out ho, gw_b_inj]
      refine ⟨vp_in_nI (by omega) (by omega), br_c (fun e => ?_) (fun e => ?_)⟩
      · have ht : gw_ts K X Y Z m net out o a = false := by unfold gw_ts; rw [e]; exact bne_self_eq_false _
        rw [gw_cnt_f ht] at ihn
        exact nm_r (nI_1 a) ihn
      · have ht : gw_ts K X Y Z m net out o a = true := by unfold gw_ts; exact bne_iff_ne.mpr (fun q => e q.symm)
        rw [gw_cnt_t ht] at ihn
        exact nm_r (nI_1 _) (nm_r (nI_1 a) ihn)
theorem gy_tests {post : Int32 → SY → Prop} {net out : Nat} {o : Bool} (hm : m ≤ 32) (hW : gw_W K X Y Z F m) (hs : s = gw_cnt (gw_sk K) m) (h10 : s ≤ 10) (hE : gw_En (gw_sk K) yS m) (hn : net < m) (ho : out < m) (h : ∀ A, post (nI (gw_cnt (gw_ts K X Y Z m net out o) (2 ^ s))) (nI m, nI s, nI r, K, X, Y, Z, F, H, A, yO, yS, yR, yL, yN, yD, yT, yM, yF, yW, yP)) : wpY_tests post (nI m, nI s, nI r, K, X, Y, Z, F, H, yA, yO, yS, yR, yL, yN, yD, yT, yM, yF, yW, yP) (nI net) (gw_b o) (nI out) := by
  unfold wpY_tests
  dsimp only
  exact gy_net hm hn (br_f gw_n10 (gy_net hm ho (br_f gw_n10 ⟨2 ^ s + 1, gy_tests_l hm hW hs h10 hE hn ho rfl h (2 ^ s) 0 (2 ^ s + 1) yA (by omega) (by omega)⟩)))
end
end
section
/-! the owed rows of value, count, witness, same, depends, tests -/
theorem i_vc_value {k : Nat} {u : SX} {v : SY} (I : i_Rel k u v) (hk : k + 6 ≤ 3072) (v1 : Int32) : wpX_value (fun r => wpY_value (fun r' v' => r' = r ∧ i_Rel (k + 6) u v') v v1) u v1 := by
  have J : i_Rel (k + 6) u v := I
  obtain ⟨m, K, X, Y, Z, F, H, ⟨hm, hW, h01, h10, h6⟩, ⟨tl, pe, xO, xN, xC, xS, xL, xE, xG, xW, xM, xP, rfl⟩, ⟨yA, yO, yS, yR, yL, yN, yD, yT, yM, yF, yW, yP, rfl, hS, hR⟩⟩ := I
  rcases gw_net (x := v1) (m := m) (by omega) with ⟨n, hn, rfl⟩ | hx
  · exact gx_value hm hW h01 hn (gy_value hm hW h01 rfl h10 hS hn (fun A => ⟨rfl, gw_rel ⟨hm, hW, h01, h10, h6⟩ hS hR⟩))
  · unfold wpX_value wpY_value
    dsimp only
    exact gx_nonet hx (br_t rfl (gy_nonet hm hx (br_t rfl ⟨rfl, J⟩)))
theorem i_vc_count {k : Nat} {u : SX} {v : SY} (I : i_Rel k u v) (hk : k + 6 ≤ 3072) (v1 : Int32) : wpX_count (fun r u' => wpY_count (fun r' v' => r' = r ∧ i_Rel (k + 6) u' v') v v1) u v1 := by
  have J : i_Rel (k + 6) u v := I
  obtain ⟨m, K, X, Y, Z, F, H, ⟨hm, hW, h01, h10, h6⟩, ⟨tl, pe, xO, xN, xC, xS, xL, xE, xG, xW, xM, xP, rfl⟩, ⟨yA, yO, yS, yR, yL, yN, yD, yT, yM, yF, yW, yP, rfl, hS, hR⟩⟩ := I
  rcases gw_net (x := v1) (m := m) (by omega) with ⟨n, hn, rfl⟩ | hx
  · exact gx_count hm hW hn h10 (fun O => gy_count hm hW rfl h10 hS hn (fun A => ⟨rfl, gw_rel ⟨hm, hW, h01, h10, h6⟩ hS hR⟩))
  · unfold wpX_count wpY_count
    dsimp only
    exact gx_nonet hx (br_t rfl (gy_nonet hm hx (br_t rfl ⟨rfl, J⟩)))
theorem gw_from (p : Int32) : ∃ lo, lo < 2 ^ 31 ∧ ((0 ≤ p ∧ p = nI lo) ∨ (¬ 0 ≤ p ∧ lo = 0)) := by
  by_cases h : 0 ≤ p
  · obtain ⟨j, hj, e⟩ := nI_of (x := p) (Int32.not_lt.mpr h)
    exact ⟨j, hj, Or.inl ⟨h, e⟩⟩
  · exact ⟨0, by decide, Or.inr ⟨h, rfl⟩⟩
theorem i_vc_witness {k : Nat} {u : SX} {v : SY} (I : i_Rel k u v) (hk : k + 6 ≤ 3072) (v1 : Int32) (v2 : Int32) : wpX_witness (fun r u' => wpY_witness (fun r' v' => r' = r ∧ i_Rel (k + 6) u' v') v v1 v2) u v1 v2 := by
  have J : i_Rel (k + 6) u v := I
  obtain ⟨m, K, X, Y, Z, F, H, ⟨hm, hW, h01, h10, h6⟩, ⟨tl, pe, xO, xN, xC, xS, xL, xE, xG, xW, xM, xP, rfl⟩, ⟨yA, yO, yS, yR, yL, yN, yD, yT, yM, yF, yW, yP, rfl, hS, hR⟩⟩ := I
  rcases gw_net (x := v1) (m := m) (by omega) with ⟨n, hn, rfl⟩ | hx
  · obtain ⟨lo, hl, hp⟩ := gw_from v2
    exact gx_wit hm hW hn h10 hl hp (fun O z hz => gy_wit hm hW rfl h10 hS hn hl hp (fun A z' hz' => ⟨gw_Fs_u hz' hz, gw_rel ⟨hm, hW, h01, h10, h6⟩ hS hR⟩))
  · unfold wpX_witness wpY_witness
    dsimp only
    exact gx_nonet hx (br_t rfl (gy_nonet hm hx (br_t rfl ⟨rfl, J⟩)))
theorem i_vc_same {k : Nat} {u : SX} {v : SY} (I : i_Rel k u v) (hk : k + 6 ≤ 3072) (v1 : Int32) (v2 : Int32) : wpX_same (fun r => wpY_same (fun r' v' => r' = r ∧ i_Rel (k + 6) u v') v v1 v2) u v1 v2 := by
  have J : i_Rel (k + 6) u v := I
  obtain ⟨m, K, X, Y, Z, F, H, ⟨hm, hW, h01, h10, h6⟩, ⟨tl, pe, xO, xN, xC, xS, xL, xE, xG, xW, xM, xP, rfl⟩, ⟨yA, yO, yS, yR, yL, yN, yD, yT, yM, yF, yW, yP, rfl, hS, hR⟩⟩ := I
  rcases gw_net (x := v1) (m := m) (by omega) with ⟨n, hn, rfl⟩ | hx
  · rcases gw_net (x := v2) (m := m) (by omega) with ⟨n2, hn2, rfl⟩ | hx
    · exact gx_same hm hW hn hn2 h10 (fun z hz => gy_same hm hW rfl h10 hS hn hn2 (fun A z' hz' => ⟨gw_tv_u hz' hz, gw_rel ⟨hm, hW, h01, h10, h6⟩ hS hR⟩))
    · unfold wpX_same wpY_same
      dsimp only
      exact gx_net hm hn (br_f gw_n10 (gx_nonet hx (br_t rfl (gy_net hm hn (br_f gw_n10 (gy_nonet hm hx (br_t rfl ⟨rfl, J⟩)))))))
  · unfold wpX_same wpY_same
    dsimp only
    exact gx_nonet hx (br_t rfl (gy_nonet hm hx (br_t rfl ⟨rfl, J⟩)))
theorem i_vc_depends {k : Nat} {u : SX} {v : SY} (I : i_Rel k u v) (hk : k + 6 ≤ 3072) (v1 : Int32) (v2 : Int32) : wpX_depends (fun r u' => wpY_depends (fun r' v' => r' = r ∧ i_Rel (k + 6) u' v') v v1 v2) u v1 v2 := by
  have J : i_Rel (k + 6) u v := I
  obtain ⟨m, K, X, Y, Z, F, H, ⟨hm, hW, h01, h10, h6⟩, ⟨tl, pe, xO, xN, xC, xS, xL, xE, xG, xW, xM, xP, rfl⟩, ⟨yA, yO, yS, yR, yL, yN, yD, yT, yM, yF, yW, yP, rfl, hS, hR⟩⟩ := I
  rcases gw_net (x := v1) (m := m) (by omega) with ⟨n, hn, rfl⟩ | hx
  · refine gx_dep hm hW hn rfl h10 (fun q => ?_) (fun src hsrc e hks O z hz => ?_)
    · exact gy_dep hm hW rfl h10 hS hn (fun _ => ⟨rfl, J⟩) (fun src hsrc e hks => absurd hks (by rw [q src hsrc e]; exact Bool.false_ne_true))
    · refine gy_dep hm hW rfl h10 hS hn (fun q => absurd hks (by rw [q src hsrc e]; exact Bool.false_ne_true)) (fun src' hsrc' e' _ A z' hz' => ?_)
      rw [e, nI_eq (by omega) (by omega)] at e'
      subst e'
      exact ⟨gw_tv_u hz' (gw_tv_iff hz (gw_felt (gw_cnt_lt hks hsrc))), gw_rel ⟨hm, hW, h01, h10, h6⟩ hS hR⟩
  · unfold wpX_depends wpY_depends
    dsimp only
    exact gx_nonet hx (br_t rfl (gy_nonet hm hx (br_t rfl ⟨rfl, J⟩)))
theorem i_vc_tests {k : Nat} {u : SX} {v : SY} (I : i_Rel k u v) (hk : k + 6 ≤ 3072) (v1 : Int32) (v2 : Int32) (v3 : Int32) : wpX_tests (fun r => wpY_tests (fun r' v' => r' = r ∧ i_Rel (k + 6) u v') v v1 (lw_bz v2) v3) u v1 (lw_bz v2) v3 := by
  have J : i_Rel (k + 6) u v := I
  obtain ⟨m, K, X, Y, Z, F, H, ⟨hm, hW, h01, h10, h6⟩, ⟨tl, pe, xO, xN, xC, xS, xL, xE, xG, xW, xM, xP, rfl⟩, ⟨yA, yO, yS, yR, yL, yN, yD, yT, yM, yF, yW, yP, rfl, hS, hR⟩⟩ := I
  obtain ⟨b, e⟩ := gw_bz v2
  rw [e]
  rcases gw_net (x := v1) (m := m) (by omega) with ⟨n, hn, rfl⟩ | hx
  · rcases gw_net (x := v3) (m := m) (by omega) with ⟨n2, hn2, rfl⟩ | hx
    · exact gx_tests hm hW hn hn2 h10 (gy_tests hm hW rfl h10 hS hn hn2 (fun A => ⟨rfl, gw_rel ⟨hm, hW, h01, h10, h6⟩ hS hR⟩))
    · unfold wpX_tests wpY_tests
      dsimp only
      exact gx_net hm hn (br_f gw_n10 (gx_nonet hx (br_t rfl (gy_net hm hn (br_f gw_n10 (gy_nonet hm hx (br_t rfl ⟨rfl, J⟩)))))))
  · unfold wpX_tests wpY_tests
    dsimp only
    exact gx_nonet hx (br_t rfl (gy_nonet hm hx (br_t rfl ⟨rfl, J⟩)))
end
section
/-! ticks: the present configuration and those after it -/
def gw_S (K X Y Z F H : Nat → Int32) (m c : Nat) : Nat := gw_stp K X Y Z F m (gw_w0 K m H) c
def gw_ct (K X Y Z F H : Nat → Int32) (m t : Nat) : Nat := gw_it (gw_S K X Y Z F H m) t (gw_c0 K m H)
def gw_at (K X Y Z F H : Nat → Int32) (m t : Nat) : Nat := gw_jn K m (gw_w0 K m H) (gw_ct K X Y Z F H m t)
section
variable {m s r : Nat} {tl pe : Int32} {K X Y Z F H xO xN xC xS xL xE xG xW xM xP : Nat → Int32}
theorem gw_ct_lt (t : Nat) : gw_ct K X Y Z F H m t < 2 ^ gw_cnt (gw_rk K) m := gw_it_in (fun c _ => gw_stp_lt K X Y Z F m (gw_w0 K m H) c) (gw_pk_lt _ _ _) t
theorem gw_ct_64 (h6 : gw_cnt (gw_rk K) m ≤ 6) (t : Nat) : gw_ct K X Y Z F H m t < 64 := Nat.lt_of_lt_of_le (gw_ct_lt t) (gw_p6 h6)
theorem gw_co_at (t : Nat) : gw_co K m (gw_at K X Y Z F H m t) = gw_ct K X Y Z F H m t := gw_co_j (gw_ct_lt t)
theorem gw_of_at (t : Nat) : gw_of K m (gw_at K X Y Z F H m t) = gw_w0 K m H := gw_of_j (gw_pk_lt _ _ _)
theorem gw_at_s (t : Nat) : gw_jn K m (gw_of K m (gw_at K X Y Z F H m t)) (gw_stp K X Y Z F m (gw_of K m (gw_at K X Y Z F H m t)) (gw_co K m (gw_at K X Y Z F H m t))) = gw_at K X Y Z F H m (t + 1) := by
  rw [gw_of_at, gw_co_at]
  rfl
theorem gw_at_0 : gw_at K X Y Z F H m 0 = gw_a0 K m H := gw_a0_jn.symm
theorem gx_cyc_l {post : SX → Prop} (hm : m ≤ 32) (hW : gw_W K X Y Z F m) (h6 : gw_cnt (gw_rk K) m ≤ 6) (h : ∀ t0 t1 E, gw_Rho (gw_S K X Y Z F H m) (gw_c0 K m H) t0 t1 → t1 ≤ 64 → post (nI m, nI s, nI r, nI t0, nI (t1 - t0), K, X, Y, Z, F, H, xO, xN, xC, xS, xL, E, xG, xW, xM, xP)) : ∀ d t g E, t + d = 65 → d < g → gw_Sn (gw_S K X Y Z F H m) (gw_c0 K m H) t E → wX_findCycle_28 post (nI m) (nI s) (nI r) tl pe g (nI (gw_at K X Y Z F H m t)) (nI t) K X Y Z F H xO xN xC xS xL E xG xW xM xP := by
  intro d
  induction d with
  | zero =>
    intro t g E h1 h2 hE
    exfalso
    obtain ⟨i, j, h3, h4, h5⟩ := gw_pig 64 (fun i => gw_ct K X Y Z F H m i) (fun i _ => gw_ct_64 h6 i)
    exact hE.2.2 i j h3 (by omega) h5
  | succ d ih =>
    intro t g E h1 h2 hE
    obtain ⟨g, rfl⟩ := gw_fz h2
    have hc := gw_ct_64 (X := X) (Y := Y) (Z := Z) (F := F) (H := H) h6 t
    have cc : (nI (gw_ct K X Y Z F H m t)).toNatClampNeg = gw_ct K X Y Z F H m t := nI_clamp (by omega)
    have vc : vp_in (nI (gw_ct K X Y Z F H m t)) 64 := vp_in_nI hc (by omega)
    rw [wX_findCycle_28]
    refine br_f (nI_nlt (b := t) (a := 64) (by omega) (by decide)) (gx_conf hm ?_)
    rw [gw_co_at, cc]
    refine ⟨vc, br_c (fun e => ⟨vc, nm_e (gx_aft hm hW ?_)⟩) (fun e => ⟨vc, ?_⟩)⟩
    · rw [gw_at_s]
      exact nm_r (nI_1 t) (ih (t + 1) g _ (by omega) (by omega) (gw_Sn_miss hE (by omega) e))
    · obtain ⟨t0, h3, h4, h5⟩ := gw_Sn_hit hE hc e
      exact nm_r h4 (nm_r (pk_sub (by omega)) (h t0 t E h5 (by omega)))
theorem gx_cyc2_l {post : SX → Prop} (hm : m ≤ 32) (hW : gw_W K X Y Z F m) (h01 : gw_01 H) (h6 : gw_cnt (gw_rk K) m ≤ 6) (h : ∀ t0 t1 E, gw_Rho (gw_S K X Y Z F H m) (gw_c0 K m H) t0 t1 → t1 ≤ 64 → post (nI m, nI s, nI r, nI t0, nI (t1 - t0), K, X, Y, Z, F, H, xO, xN, xC, xS, xL, E, xG, xW, xM, xP)) : ∀ d c g E, c + d = 64 → d < g → (∀ x, x < c → E x = -1) → wX_findCycle_2 post (nI m) (nI s) (nI r) tl pe g (nI c) K X Y Z F H xO xN xC xS xL E xG xW xM xP := by
  intro d
  induction d with
  | zero =>
    intro c g E h1 h2 hE
    obtain ⟨g, rfl⟩ := gw_fz h2
    rw [wX_findCycle_2]
    refine br_t (nI_le (a := 64) (by omega) (by omega)) (gx_pres hm h01 ⟨66, ?_⟩)
    rw [← gw_at_0 (X := X) (Y := Y) (Z := Z) (F := F)]
    exact gx_cyc_l hm hW h6 h 65 0 66 E (by omega) (by omega) (gw_Sn_0 (fun x hx => hE x (by omega)))
  | succ d ih =>
    intro c g E h1 h2 hE
    obtain ⟨g, rfl⟩ := gw_fz h2
    have cc : (nI c).toNatClampNeg = c := nI_clamp (by omega)
    rw [wX_findCycle_2]
    refine br_f (nI_ge (b := 64) (by omega) (by decide)) ⟨vp_in_nI (by omega) (by omega), nm_r (e' := upd E c (-1)) (by rw [cc]) (nm_r (nI_1 c) (ih (c + 1) g _ (by omega) (by omega) (fun x hx => ?_)))⟩
    by_cases e : x = c
    · subst e; exact pk_us
    · rw [pk_un e]; exact hE x (by omega)
theorem gx_cyc {post : SX → Prop} (hm : m ≤ 32) (hW : gw_W K X Y Z F m) (h01 : gw_01 H) (h6 : gw_cnt (gw_rk K) m ≤ 6) (h : ∀ t0 t1 E, gw_Rho (gw_S K X Y Z F H m) (gw_c0 K m H) t0 t1 → t1 ≤ 64 → post (nI m, nI s, nI r, nI t0, nI (t1 - t0), K, X, Y, Z, F, H, xO, xN, xC, xS, xL, E, xG, xW, xM, xP)) : wpX_findCycle post (nI m, nI s, nI r, tl, pe, K, X, Y, Z, F, H, xO, xN, xC, xS, xL, xE, xG, xW, xM, xP) :=
  ⟨65, gx_cyc2_l hm hW h01 h6 h 64 0 65 xE (by omega) (by omega) (fun x hx => absurd hx (Nat.not_lt_zero _))⟩
theorem gx_tick_l {post : Int32 → SX → Prop} {q : Nat} (hm : m ≤ 32) (hW : gw_W K X Y Z F m) (h01 : gw_01 H) (hq : q < 2 ^ 31) (h : post (nI (gw_ct K X Y Z F H m q)) (nI m, nI s, nI r, tl, pe, K, X, Y, Z, F, gw_nw K m H (gw_ct K X Y Z F H m q), xO, xN, xC, xS, xL, xE, xG, xW, xM, xP)) : ∀ d t g, t + d = q → d < g → wX_tick_52 post (nI q) (nI m) (nI s) (nI r) tl pe K X Y Z F H xO xN xC xS xL xE xG xW xM xP g (nI (gw_at K X Y Z F H m t)) (nI t) := by
  intro d
  induction d with
  | zero =>
    intro t g h1 h2
    obtain ⟨g, rfl⟩ := gw_fz h2
    have e : t = q := by omega
    rw [wX_tick_52]
    refine br_t (nI_le (by omega) (by omega)) (gx_hold hm ?_)
    dsimp only
    refine gx_conf hm ?_
    rw [gw_co_at, e]
    unfold gw_at
    rw [gw_ho_jn h01]
    exact h
  | succ d ih =>
    intro t g h1 h2
    obtain ⟨g, rfl⟩ := gw_fz h2
    rw [wX_tick_52]
    refine br_f (nI_ge (by omega) (by omega)) (gx_aft hm hW ?_)
    rw [gw_at_s]
    exact nm_r (nI_1 t) (ih (t + 1) g (by omega) (by omega))
theorem gx_tick44 {post : Int32 → SX → Prop} {q : Nat} (hm : m ≤ 32) (hW : gw_W K X Y Z F m) (h01 : gw_01 H) (hq : q < 2 ^ 31) (h : post (nI (gw_ct K X Y Z F H m q)) (nI m, nI s, nI r, tl, pe, K, X, Y, Z, F, gw_nw K m H (gw_ct K X Y Z F H m q), xO, xN, xC, xS, xL, xE, xG, xW, xM, xP)) : wX_tick_44 post (nI q) (nI m) (nI s) (nI r) tl pe K X Y Z F H xO xN xC xS xL xE xG xW xM xP := by
  unfold wX_tick_44
  refine gx_pres hm h01 ⟨q + 1, ?_⟩
  rw [← gw_at_0 (X := X) (Y := Y) (Z := Z) (F := F)]
  exact gx_tick_l hm hW h01 hq h q 0 (q + 1) (by omega) (by omega)
theorem gx_tick {post : Int32 → SX → Prop} {n : Nat} (hm : m ≤ 32) (hW : gw_W K X Y Z F m) (h01 : gw_01 H) (h6 : gw_cnt (gw_rk K) m ≤ 6) (hn : n < 2 ^ 31) (h : ∀ t0 t1 tl pe E, gw_Rho (gw_S K X Y Z F H m) (gw_c0 K m H) t0 t1 → t1 ≤ 64 → post (nI (gw_ct K X Y Z F H m n)) (nI m, nI s, nI r, tl, pe, K, X, Y, Z, F, gw_nw K m H (gw_ct K X Y Z F H m n), xO, xN, xC, xS, xL, E, xG, xW, xM, xP)) : wpX_tick post (nI m, nI s, nI r, tl, pe, K, X, Y, Z, F, H, xO, xN, xC, xS, xL, xE, xG, xW, xM, xP) (nI n) := by
  unfold wpX_tick
  dsimp only
  refine br_t (nI_pos' hn) (gx_cyc hm hW h01 h6 (fun t0 t1 E hR ht => ?_))
  have h0 := hR.1
  dsimp only
  rcases Nat.lt_or_ge t0 n with c | c
  · have e : gw_ct K X Y Z F H m (t0 + (n - t0) % (t1 - t0)) = gw_ct K X Y Z F H m n := gw_rho_r hR (by omega)
    have hml : (n - t0) % (t1 - t0) < t1 - t0 := Nat.mod_lt _ (by omega)
    refine br_f (nI_ge c hn) (br_f (nI_nle (by omega) (by omega)) ⟨nI_ne0 (by omega) (by omega), ?_⟩)
    rw [pk_sub (by omega), pk_rem (by omega) (by omega) (by omega), nI_add]
    refine nm_e (gx_tick44 hm hW h01 (by omega) ?_)
    rw [e]
    exact h t0 t1 _ _ E hR ht
  · exact br_t (nI_le c (by omega)) (gx_tick44 hm hW h01 hn (h t0 t1 _ _ E hR ht))
theorem gx_cycle {post : Int32 → SX → Prop} {p : Int32} (hm : m ≤ 32) (hW : gw_W K X Y Z F m) (h01 : gw_01 H) (h6 : gw_cnt (gw_rk K) m ≤ 6) (c0 : ¬ (p = 0 ∨ p = 1) → post (-1) (nI m, nI s, nI r, tl, pe, K, X, Y, Z, F, H, xO, xN, xC, xS, xL, xE, xG, xW, xM, xP)) (c1 : ∀ t0 t1 tl pe E, gw_Rho (gw_S K X Y Z F H m) (gw_c0 K m H) t0 t1 → t1 ≤ 64 → p = 0 → post (nI t0) (nI m, nI s, nI r, tl, pe, K, X, Y, Z, F, H, xO, xN, xC, xS, xL, E, xG, xW, xM, xP)) (c2 : ∀ t0 t1 tl pe E, gw_Rho (gw_S K X Y Z F H m) (gw_c0 K m H) t0 t1 → t1 ≤ 64 → p = 1 → post (nI (t1 - t0)) (nI m, nI s, nI r, tl, pe, K, X, Y, Z, F, H, xO, xN, xC, xS, xL, E, xG, xW, xM, xP)) : wpX_cycle post (nI m, nI s, nI r, tl, pe, K, X, Y, Z, F, H, xO, xN, xC, xS, xL, xE, xG, xW, xM, xP) p := by
  unfold wpX_cycle
  dsimp only
  refine br_c (fun e => ?_) (fun e => br_c (fun e1 => ?_) (fun e1 => c0 (fun q => q.elim e e1)))
  · unfold wX_cycle_11
    exact gx_cyc hm hW h01 h6 (fun t0 t1 E hR ht => br_t e (c1 t0 t1 _ _ E hR ht e))
  · unfold wX_cycle_11
    exact gx_cyc hm hW h01 h6 (fun t0 t1 E hR ht => br_f e (c2 t0 t1 _ _ E hR ht e1))
end
end
section
/-! the reference's configuration, step, restore, round, tick, cycle -/
/-- the registers before place i at configuration c -/
def gw_nwi (K : Nat → Int32) (m i : Nat) (H : Nat → Int32) (c j : Nat) : Int32 := if j < m ∧ gw_rk K j = true ∧ gw_cnt (gw_rk K) j < i then gw_b (c.testBit (gw_cnt (gw_rk K) j)) else H j
theorem gw_nwi_0 {K H : Nat → Int32} {m c : Nat} : gw_nwi K m 0 H c = H := by
  funext j
  exact if_neg (fun g => absurd g.2.2 (Nat.not_lt_zero _))
theorem gw_nwi_r {K H : Nat → Int32} {m c : Nat} : gw_nwi K m (gw_cnt (gw_rk K) m) H c = gw_nw K m H c := by
  funext j
  unfold gw_nwi gw_nw
  by_cases g : j < m ∧ gw_rk K j = true
  · rw [if_pos g, if_pos ⟨g.1, g.2, gw_cnt_lt g.2 g.1⟩]
  · rw [if_neg g, if_neg (fun q => g ⟨q.1, q.2.1⟩)]
theorem gw_nwi_s {K H : Nat → Int32} {m c n i : Nat} (hn : n < m) (hr : gw_rk K n = true) (hi : gw_cnt (gw_rk K) n = i) : upd (gw_nwi K m i H c) n (gw_b (c.testBit i)) = gw_nwi K m (i + 1) H c := by
  funext j
  by_cases e : j = n
  · subst e
    rw [pk_us]
    unfold gw_nwi
    rw [if_pos ⟨hn, hr, by omega⟩, hi]
  · rw [pk_un e]
    unfold gw_nwi
    by_cases g : j < m ∧ gw_rk K j = true ∧ gw_cnt (gw_rk K) j < i
    · rw [if_pos g, if_pos ⟨g.1, g.2.1, by omega⟩]
    · rw [if_neg g, if_neg (fun q => g ⟨q.1, q.2.1, ?_⟩)]
      have : gw_cnt (gw_rk K) j ≠ i := fun e2 => e (gw_cnt_inj q.2.1 hr (by omega))
      omega
section
variable {m s r : Nat} {K X Y Z F H yA yO yS yR yL yN yD yT yM yF yW yP : Nat → Int32}
theorem gy_conf_l {post : Int32 → Prop} (hm : m ≤ 32) (h01 : gw_01 H) (hr : r = gw_cnt (gw_rk K) m) (h6 : r ≤ 6) (hE : gw_En (gw_rk K) yR m) (h : post (nI (gw_pk (fun _ => true) (fun i => gw_hs H (yR i).toNatClampNeg) r))) : ∀ d i g, i + d = r → d < g → wY_configuration_4 post (nI m) (nI s) (nI r) K X Y Z F H yA yO yS yR yL yN yD yT yM yF yW yP g (nI (gw_pk (fun _ => true) (fun i => gw_hs H (yR i).toNatClampNeg) i)) (nI i) := by
  intro d
  induction d with
  | zero =>
    intro i g h1 h2
    obtain ⟨g, rfl⟩ := gw_fz h2
    have e : i = r := by omega
    rw [wY_configuration_4]
    refine br_t (nI_le (by omega) (by omega)) ?_
    rw [e]
    exact h
  | succ d ih =>
    intro i g h1 h2
    obtain ⟨g, rfl⟩ := gw_fz h2
    have ci : (nI i).toNatClampNeg = i := nI_clamp (by omega)
    obtain ⟨n, hn, hq, hc, e⟩ := gw_En_at hE (show i < gw_cnt (gw_rk K) m by omega)
    have cn : (nI n).toNatClampNeg = n := nI_clamp (by omega)
    have ihn := ih (i + 1) g (by omega) (by omega)
    rw [gw_pk_t (q := fun _ => true) rfl, gw_cnt_all, e, cn] at ihn
    rw [wY_configuration_4]
    refine br_f (nI_ge (by omega) (by omega)) ⟨vp_in_nI (by omega) (by omega), ?_⟩
    rw [ci, e, cn]
    refine ⟨vp_in_nI (by omega) (by omega), ?_⟩
    rw [gw_hs_b h01 n]
    cases hb : gw_hs H n with
    | true =>
      rw [hb] at ihn
      exact br_f (by decide) (nm_r (gw_or _ true (by omega)) (nm_r (nI_1 i) ihn))
    | false =>
      rw [hb] at ihn
      exact br_t rfl (nm_r (gw_or _ false (by omega)) (nm_r (nI_1 i) ihn))
theorem gy_conf {post : Int32 → Prop} (hm : m ≤ 32) (h01 : gw_01 H) (hr : r = gw_cnt (gw_rk K) m) (h6 : r ≤ 6) (hE : gw_En (gw_rk K) yR m) (h : post (nI (gw_c0 K m H))) : wpY_configuration post (nI m, nI s, nI r, K, X, Y, Z, F, H, yA, yO, yS, yR, yL, yN, yD, yT, yM, yF, yW, yP) := by
  refine ⟨r + 1, gy_conf_l hm h01 hr h6 hE ?_ r 0 (r + 1) (by omega) (by omega)⟩
  have e : gw_pk (fun _ => true) (fun i => gw_hs H (yR i).toNatClampNeg) r = gw_c0 K m H := by
    rw [hr]
    refine gw_pk_comp (p := gw_rk K) (q := gw_rk K) (fun n _ hq => hq.symm) (fun n _ hq => hq) (fun n hn hq => ?_)
    show gw_hs H (yR (gw_cnt (gw_rk K) n)).toNatClampNeg = gw_hs H n
    rw [hE n hn hq, nI_clamp (by omega)]
  rw [e]
  exact h
theorem gy_step44_l {post : SY → Prop} {c : Nat} (hm : m ≤ 32) (hr : r = gw_cnt (gw_rk K) m) (h6 : r ≤ 6) (hE : gw_En (gw_rk K) yR m) (hO : ∀ n, n < m → gw_rk K n = true → yO (gw_cnt (gw_rk K) n) = gw_b (c.testBit (gw_cnt (gw_rk K) n))) (h : post (nI m, nI s, nI r, K, X, Y, Z, F, gw_nw K m H c, yA, yO, yS, yR, yL, yN, yD, yT, yM, yF, yW, yP)) : ∀ d i g, i + d = r → d < g → wY_step_44 post (nI m) (nI s) (nI r) g (nI i) K X Y Z F (gw_nwi K m i H c) yA yO yS yR yL yN yD yT yM yF yW yP := by
  intro d
  induction d with
  | zero =>
    intro i g h1 h2
    obtain ⟨g, rfl⟩ := gw_fz h2
    have e : i = gw_cnt (gw_rk K) m := by omega
    rw [wY_step_44]
    refine br_t (nI_le (by omega) (by omega)) ?_
    rw [e, gw_nwi_r]
    exact h
  | succ d ih =>
    intro i g h1 h2
    obtain ⟨g, rfl⟩ := gw_fz h2
    have ci : (nI i).toNatClampNeg = i := nI_clamp (by omega)
    obtain ⟨n, hn, hq, hc, e⟩ := gw_En_at hE (show i < gw_cnt (gw_rk K) m by omega)
    have cn : (nI n).toNatClampNeg = n := nI_clamp (by omega)
    have ihn := ih (i + 1) g (by omega) (by omega)
    have ho := hO n hn hq
    rw [hc] at ho
    rw [wY_step_44]
    refine br_f (nI_ge (by omega) (by omega)) ⟨vp_in_nI (by omega) (by omega), vp_in_nI (by omega) (by omega), ?_⟩
    rw [ci, e, cn, ho, gw_narb]
    exact ⟨vp_in_nI (by omega) (by omega), nm_r (gw_nwi_s hn hq hc) (nm_r (nI_1 i) ihn)⟩
theorem gy_step6_l {post : SY → Prop} {w : Nat → Bool} {c : Nat} (hm : m ≤ 32) (hW : gw_W K X Y Z F m) (hr : r = gw_cnt (gw_rk K) m) (h6 : r ≤ 6) (hE : gw_En (gw_rk K) yR m) (hA : ∀ j, j < m → yA j = gw_b (w j)) (hc : ∀ n, n < m → gw_rk K n = true → c.testBit (gw_cnt (gw_rk K) n) = w (F n).toNatClampNeg) (h : ∀ O, post (nI m, nI s, nI r, K, X, Y, Z, F, gw_nw K m H c, yA, O, yS, yR, yL, yN, yD, yT, yM, yF, yW, yP)) : ∀ d i g O, i + d = r → d < g → (∀ n, n < m → gw_rk K n = true → gw_cnt (gw_rk K) n < i → O (gw_cnt (gw_rk K) n) = gw_b (c.testBit (gw_cnt (gw_rk K) n))) → wY_step_6 post (nI m) (nI s) (nI r) g (nI i) K X Y Z F H yA O yS yR yL yN yD yT yM yF yW yP := by
  intro d
  induction d with
  | zero =>
    intro i g O h1 h2 hO
    obtain ⟨g, rfl⟩ := gw_fz h2
    rw [wY_step_6]
    refine br_t (nI_le (by omega) (by omega)) ⟨r + 1, ?_⟩
    have g := gy_step44_l (s := s) (X := X) (Y := Y) (Z := Z) (F := F) (H := H) (yA := yA) (yS := yS) (yL := yL) (yN := yN) (yD := yD) (yT := yT) (yM := yM) (yF := yF) (yW := yW) (yP := yP) (yO := O) (post := post) (c := c) hm hr h6 hE (fun n hn hq => hO n hn hq (by have := gw_cnt_lt hq hn; omega)) (h O) r 0 (r + 1) (by omega) (by omega)
    rw [gw_nwi_0] at g
    exact g
  | succ d ih =>
    intro i g O h1 h2 hO
    obtain ⟨g, rfl⟩ := gw_fz h2
    have ci : (nI i).toNatClampNeg = i := nI_clamp (by omega)
    obtain ⟨n, hn, hq, hcn, e⟩ := gw_En_at hE (show i < gw_cnt (gw_rk K) m by omega)
    have cn : (nI n).toNatClampNeg = n := nI_clamp (by omega)
    obtain ⟨p, hp, ep⟩ := (hW n hn).2.1 (gw_rk_t.mp hq)
    have cp : (nI p).toNatClampNeg = p := nI_clamp (by omega)
    have hcb := hc n hn hq
    rw [ep, cp] at hcb
    rw [wY_step_6]
    refine br_f (nI_ge (by omega) (by omega)) ⟨vp_in_nI (by omega) (by omega), ?_⟩
    rw [ci, e, cn, ep, cp, hA p hp, gw_narb]
    refine ⟨vp_in_nI (by omega) (by omega), vp_in_nI (by omega) (by omega), vp_in_nI (by omega) (by omega), nm_e (nm_r (nI_1 i) (ih (i + 1) g _ (by omega) (by omega) (fun j hj hqj hlt => ?_)))⟩
    by_cases ej : j = n
    · subst ej
      rw [← hcn, pk_us, hcb]
    · have : gw_cnt (gw_rk K) j ≠ i := fun e2 => ej (gw_cnt_inj hqj hq (by omega))
      rw [pk_un this]
      exact hO j hj hqj (by omega)
theorem gy_step {post : SY → Prop} (hm : m ≤ 32) (hW : gw_W K X Y Z F m) (h01 : gw_01 H) (hs : s = gw_cnt (gw_sk K) m) (h10 : s ≤ 10) (hS : gw_En (gw_sk K) yS m) (hr : r = gw_cnt (gw_rk K) m) (h6 : r ≤ 6) (hE : gw_En (gw_rk K) yR m) (h : ∀ A O, post (nI m, nI s, nI r, K, X, Y, Z, F, gw_nw K m H (gw_stp K X Y Z F m (gw_w0 K m H) (gw_c0 K m H)), A, O, yS, yR, yL, yN, yD, yT, yM, yF, yW, yP)) : wpY_step post (nI m, nI s, nI r, K, X, Y, Z, F, H, yA, yO, yS, yR, yL, yN, yD, yT, yM, yF, yW, yP) := by
  unfold wpY_step
  dsimp only
  refine gy_present hm hW h01 hs h10 hS (fun A hA => ⟨r + 1, ?_⟩)
  refine gy_step6_l (w := gw_v K X Y Z m (gw_hs H)) (c := gw_stp K X Y Z F m (gw_w0 K m H) (gw_c0 K m H)) hm hW hr h6 hE hA (fun n hn hq => ?_) (fun O => h A O) r 0 (r + 1) yO (by omega) (by omega) (fun n hn hq hlt => absurd hlt (Nat.not_lt_zero _))
  rw [← gw_tk_hs]
  exact gw_pk_bit (q := gw_rk K) (b := fun n => gw_v K X Y Z m (gw_hs H) (F n).toNatClampNeg) hq hn
theorem gy_rest_l {post : SY → Prop} {c : Nat} (hm : m ≤ 32) (hc : c < 2 ^ 31) (hr : r = gw_cnt (gw_rk K) m) (h6 : r ≤ 6) (hE : gw_En (gw_rk K) yR m) (h : post (nI m, nI s, nI r, K, X, Y, Z, F, gw_nw K m H c, yA, yO, yS, yR, yL, yN, yD, yT, yM, yF, yW, yP)) : ∀ d i g, i + d = r → d < g → wY_restore_2 post (nI c) (nI m) (nI s) (nI r) g (nI i) K X Y Z F (gw_nwi K m i H c) yA yO yS yR yL yN yD yT yM yF yW yP := by
  intro d
  induction d with
  | zero =>
    intro i g h1 h2
    obtain ⟨g, rfl⟩ := gw_fz h2
    have e : i = gw_cnt (gw_rk K) m := by omega
    rw [wY_restore_2]
    refine br_t (nI_le (by omega) (by omega)) ?_
    rw [e, gw_nwi_r]
    exact h
  | succ d ih =>
    intro i g h1 h2
    obtain ⟨g, rfl⟩ := gw_fz h2
    have ci : (nI i).toNatClampNeg = i := nI_clamp (by omega)
    obtain ⟨n, hn, hq, hcn, e⟩ := gw_En_at hE (show i < gw_cnt (gw_rk K) m by omega)
    have cn : (nI n).toNatClampNeg = n := nI_clamp (by omega)
    have ihn := ih (i + 1) g (by omega) (by omega)
    have hst := gw_nwi_s (H := H) (c := c) hn hq hcn
    rw [wY_restore_2]
    refine br_f (nI_ge (by omega) (by omega)) ⟨vp_in_nI (by omega) (by omega), ?_⟩
    rw [gw_sbit hc (by omega), ci, e, cn]
    cases hb : c.testBit i with
    | true =>
      rw [hb] at hst
      exact br_t rfl ⟨vp_in_nI (by omega) (by omega), nm_r hst (nm_r (nI_1 i) ihn)⟩
    | false =>
      rw [hb] at hst
      exact br_f (by decide) ⟨vp_in_nI (by omega) (by omega), nm_r hst (nm_r (nI_1 i) ihn)⟩
theorem gy_rest {post : SY → Prop} {c : Nat} (hm : m ≤ 32) (hc : c < 2 ^ 31) (hr : r = gw_cnt (gw_rk K) m) (h6 : r ≤ 6) (hE : gw_En (gw_rk K) yR m) (h : post (nI m, nI s, nI r, K, X, Y, Z, F, gw_nw K m H c, yA, yO, yS, yR, yL, yN, yD, yT, yM, yF, yW, yP)) : wpY_restore post (nI m, nI s, nI r, K, X, Y, Z, F, H, yA, yO, yS, yR, yL, yN, yD, yT, yM, yF, yW, yP) (nI c) := by
  have g := gy_rest_l (s := s) (X := X) (Y := Y) (Z := Z) (F := F) (H := H) (yA := yA) (yO := yO) (yS := yS) (yL := yL) (yN := yN) (yD := yD) (yT := yT) (yM := yM) (yF := yF) (yW := yW) (yP := yP) (post := post) hm hc hr h6 hE h r 0 (r + 1) (by omega) (by omega)
  rw [gw_nwi_0] at g
  exact ⟨r + 1, g⟩
/-- the same over the held values with the registers at configuration c -/
theorem gy_confc {post : Int32 → Prop} {c : Nat} (hm : m ≤ 32) (h01 : gw_01 H) (hr : r = gw_cnt (gw_rk K) m) (h6 : r ≤ 6) (hE : gw_En (gw_rk K) yR m) (hc : c < 2 ^ gw_cnt (gw_rk K) m) (h : post (nI c)) : wpY_configuration post (nI m, nI s, nI r, K, X, Y, Z, F, gw_nw K m H c, yA, yO, yS, yR, yL, yN, yD, yT, yM, yF, yW, yP) := by
  refine gy_conf hm (gw_nw_01 h01) hr h6 hE ?_
  rw [gw_c0_nw hc]
  exact h
theorem gy_stepc {post : SY → Prop} {c : Nat} (hm : m ≤ 32) (hW : gw_W K X Y Z F m) (h01 : gw_01 H) (hs : s = gw_cnt (gw_sk K) m) (h10 : s ≤ 10) (hS : gw_En (gw_sk K) yS m) (hr : r = gw_cnt (gw_rk K) m) (h6 : r ≤ 6) (hE : gw_En (gw_rk K) yR m) (hc : c < 2 ^ gw_cnt (gw_rk K) m) (h : ∀ A O, post (nI m, nI s, nI r, K, X, Y, Z, F, gw_nw K m H (gw_S K X Y Z F H m c), A, O, yS, yR, yL, yN, yD, yT, yM, yF, yW, yP)) : wpY_step post (nI m, nI s, nI r, K, X, Y, Z, F, gw_nw K m H c, yA, yO, yS, yR, yL, yN, yD, yT, yM, yF, yW, yP) := by
  refine gy_step hm hW (gw_nw_01 h01) hs h10 hS hr h6 hE (fun A O => ?_)
  rw [gw_nw_nw, gw_w0_nw, gw_c0_nw hc]
  exact h A O
theorem gy_restc {post : SY → Prop} {c d : Nat} (hm : m ≤ 32) (hd : d < 2 ^ 31) (hr : r = gw_cnt (gw_rk K) m) (h6 : r ≤ 6) (hE : gw_En (gw_rk K) yR m) (h : post (nI m, nI s, nI r, K, X, Y, Z, F, gw_nw K m H d, yA, yO, yS, yR, yL, yN, yD, yT, yM, yF, yW, yP)) : wpY_restore post (nI m, nI s, nI r, K, X, Y, Z, F, gw_nw K m H c, yA, yO, yS, yR, yL, yN, yD, yT, yM, yF, yW, yP) (nI d) := by
  refine gy_rest hm hd hr h6 hE ?_
  rw [gw_nw_nw]
  exact h
end
/-- what the ticks of the reference rest on -/
def gw_Yo (K X Y Z F H yS yR : Nat → Int32) (m s r : Nat) : Prop := m ≤ 32 ∧ gw_W K X Y Z F m ∧ gw_01 H ∧ s = gw_cnt (gw_sk K) m ∧ s ≤ 10 ∧ gw_En (gw_sk K) yS m ∧ r = gw_cnt (gw_rk K) m ∧ r ≤ 6 ∧ gw_En (gw_rk K) yR m
section
variable {m s r : Nat} {K X Y Z F H yA yO yS yR yL yN yD yT yM yF yW yP : Nat → Int32}
theorem gy_ctc {post : Int32 → Prop} {t : Nat} (O : gw_Yo K X Y Z F H yS yR m s r) (h : post (nI (gw_ct K X Y Z F H m t))) : wpY_configuration post (nI m, nI s, nI r, K, X, Y, Z, F, gw_nw K m H (gw_ct K X Y Z F H m t), yA, yO, yS, yR, yL, yN, yD, yT, yM, yF, yW, yP) := by
  obtain ⟨hm, hW, h01, hs, h10, hS, hr, h6, hR⟩ := O
  exact gy_confc hm h01 hr h6 hR (gw_ct_lt t) h
theorem gy_cts {post : SY → Prop} {t : Nat} (O : gw_Yo K X Y Z F H yS yR m s r) (h : ∀ A B, post (nI m, nI s, nI r, K, X, Y, Z, F, gw_nw K m H (gw_ct K X Y Z F H m (t + 1)), A, B, yS, yR, yL, yN, yD, yT, yM, yF, yW, yP)) : wpY_step post (nI m, nI s, nI r, K, X, Y, Z, F, gw_nw K m H (gw_ct K X Y Z F H m t), yA, yO, yS, yR, yL, yN, yD, yT, yM, yF, yW, yP) := by
  obtain ⟨hm, hW, h01, hs, h10, hS, hr, h6, hR⟩ := O
  exact gy_stepc hm hW h01 hs h10 hS hr h6 hR (gw_ct_lt t) h
theorem gy_ctr {post : SY → Prop} {t q : Nat} (O : gw_Yo K X Y Z F H yS yR m s r) (h : post (nI m, nI s, nI r, K, X, Y, Z, F, gw_nw K m H (gw_ct K X Y Z F H m q), yA, yO, yS, yR, yL, yN, yD, yT, yM, yF, yW, yP)) : wpY_restore post (nI m, nI s, nI r, K, X, Y, Z, F, gw_nw K m H (gw_ct K X Y Z F H m t), yA, yO, yS, yR, yL, yN, yD, yT, yM, yF, yW, yP) (nI (gw_ct K X Y Z F H m q)) := by
  obtain ⟨hm, hW, h01, hs, h10, hS, hr, h6, hR⟩ := O
  have := gw_ct_64 (X := X) (Y := Y) (Z := Z) (F := F) (H := H) (show gw_cnt (gw_rk K) m ≤ 6 by omega) q
  exact gy_restc hm (by omega) hr h6 hR h
theorem gw_nw_ct0 (h01 : gw_01 H) : gw_nw K m H (gw_ct K X Y Z F H m 0) = H := gw_nw_c0 h01
theorem gy_r34_l {post : Int32 → SY → Prop} {t0 t1 : Nat} (O : gw_Yo K X Y Z F H yS yR m s r) (hRho : gw_Rho (gw_S K X Y Z F H m) (gw_c0 K m H) t0 t1) (h64 : t1 ≤ 64) (h : ∀ A B, post (nI (t1 - t0)) (nI m, nI s, nI r, K, X, Y, Z, F, gw_nw K m H (gw_ct K X Y Z F H m 0), A, B, yS, yR, yL, yN, yD, yT, yM, yF, yW, yP)) : ∀ d n g A B, n + d = t1 - t0 → 0 < n → d < g → wY_round_34 post (nI (gw_ct K X Y Z F H m 0)) (nI (gw_ct K X Y Z F H m 64)) g (nI n) (nI m) (nI s) (nI r) K X Y Z F (gw_nw K m H (gw_ct K X Y Z F H m (64 + n))) A B yS yR yL yN yD yT yM yF yW yP := by
  have h6 : gw_cnt (gw_rk K) m ≤ 6 := by have := O.2.2.2.2.2.2; omega
  intro d
  induction d with
  | zero =>
    intro n g A B h1 h0 h2
    obtain ⟨g, rfl⟩ := gw_fz h2
    have e : gw_ct K X Y Z F H m (64 + n) = gw_ct K X Y Z F H m 64 := by
      rw [show n = t1 - t0 by omega]
      exact gw_rho_p hRho 64 (by have := hRho.1; omega)
    rw [wY_round_34]
    refine gy_ctc O ?_
    rw [e]
    refine br_t rfl (gy_ctr O ?_)
    rw [show n = t1 - t0 by omega]
    exact h A B
  | succ d ih =>
    intro n g A B h1 h0 h2
    obtain ⟨g, rfl⟩ := gw_fz h2
    have ne : gw_ct K X Y Z F H m (64 + n) ≠ gw_ct K X Y Z F H m 64 := gw_rho_min hRho (by have := hRho.1; omega) h0 (by omega)
    have l1 := gw_ct_64 (X := X) (Y := Y) (Z := Z) (F := F) (H := H) h6 (64 + n)
    have l2 := gw_ct_64 (X := X) (Y := Y) (Z := Z) (F := F) (H := H) h6 64
    rw [wY_round_34]
    refine gy_ctc O (br_f (fun q => ne ((nI_eq (by omega) (by omega)).mp q)) (gy_cts O (fun A' B' => nm_r (nI_1 n) ?_)))
    exact ih (n + 1) g A' B' (by omega) (by omega) (by omega)
theorem gy_r7_l {post : Int32 → SY → Prop} {t0 t1 : Nat} (O : gw_Yo K X Y Z F H yS yR m s r) (hRho : gw_Rho (gw_S K X Y Z F H m) (gw_c0 K m H) t0 t1) (h64 : t1 ≤ 64) (h : ∀ A B, post (nI (t1 - t0)) (nI m, nI s, nI r, K, X, Y, Z, F, gw_nw K m H (gw_ct K X Y Z F H m 0), A, B, yS, yR, yL, yN, yD, yT, yM, yF, yW, yP)) : ∀ d t g A B, t + d = 64 → d < g → wY_round_7 post (nI (gw_ct K X Y Z F H m 0)) g (nI t) (nI m) (nI s) (nI r) K X Y Z F (gw_nw K m H (gw_ct K X Y Z F H m t)) A B yS yR yL yN yD yT yM yF yW yP := by
  intro d
  induction d with
  | zero =>
    intro t g A B h1 h2
    obtain ⟨g, rfl⟩ := gw_fz h2
    have e : t = 64 := by omega
    subst e
    rw [wY_round_7]
    refine br_t (nI_le (a := 64) (by omega) (by omega)) (gy_ctc O (gy_cts O (fun A' B' => ⟨t1 - t0 + 1, ?_⟩)))
    exact gy_r34_l O hRho h64 h (t1 - t0 - 1) 1 (t1 - t0 + 1) A' B' (by have := hRho.1; omega) (by omega) (by omega)
  | succ d ih =>
    intro t g A B h1 h2
    obtain ⟨g, rfl⟩ := gw_fz h2
    rw [wY_round_7]
    refine br_f (nI_ge (b := 64) (by omega) (by decide)) (gy_cts O (fun A' B' => nm_r (nI_1 t) ?_))
    exact ih (t + 1) g A' B' (by omega) (by omega)
theorem gy_round {post : Int32 → SY → Prop} {t0 t1 : Nat} (O : gw_Yo K X Y Z F H yS yR m s r) (hRho : gw_Rho (gw_S K X Y Z F H m) (gw_c0 K m H) t0 t1) (h64 : t1 ≤ 64) (h : ∀ A B, post (nI (t1 - t0)) (nI m, nI s, nI r, K, X, Y, Z, F, gw_nw K m H (gw_ct K X Y Z F H m 0), A, B, yS, yR, yL, yN, yD, yT, yM, yF, yW, yP)) : wpY_round post (nI m, nI s, nI r, K, X, Y, Z, F, gw_nw K m H (gw_ct K X Y Z F H m 0), yA, yO, yS, yR, yL, yN, yD, yT, yM, yF, yW, yP) := by
  unfold wpY_round
  dsimp only
  exact gy_ctc O ⟨65, gy_r7_l O hRho h64 h 64 0 65 yA yO (by omega) (by omega)⟩
theorem gy_t29_l {post : Int32 → SY → Prop} {q : Nat} (O : gw_Yo K X Y Z F H yS yR m s r) (hq : q < 2 ^ 31) (h : ∀ A B, post (nI (gw_ct K X Y Z F H m q)) (nI m, nI s, nI r, K, X, Y, Z, F, gw_nw K m H (gw_ct K X Y Z F H m q), A, B, yS, yR, yL, yN, yD, yT, yM, yF, yW, yP)) : ∀ d t g A B, t + d = q → d < g → wY_tick_29 post (nI q) g (nI t) (nI m) (nI s) (nI r) K X Y Z F (gw_nw K m H (gw_ct K X Y Z F H m t)) A B yS yR yL yN yD yT yM yF yW yP := by
  intro d
  induction d with
  | zero =>
    intro t g A B h1 h2
    obtain ⟨g, rfl⟩ := gw_fz h2
    have e : t = q := by omega
    subst e
    rw [wY_tick_29]
    exact br_t (nI_le (by omega) (by omega)) (gy_ctc O (h A B))
  | succ d ih =>
    intro t g A B h1 h2
    obtain ⟨g, rfl⟩ := gw_fz h2
    rw [wY_tick_29]
    refine br_f (nI_ge (by omega) (by omega)) (gy_cts O (fun A' B' => nm_r (nI_1 t) ?_))
    exact ih (t + 1) g A' B' (by omega) (by omega)
theorem gy_tick {post : Int32 → SY → Prop} {t0 t1 n : Nat} (O : gw_Yo K X Y Z F H yS yR m s r) (hRho : gw_Rho (gw_S K X Y Z F H m) (gw_c0 K m H) t0 t1) (h64 : t1 ≤ 64) (hn : n < 2 ^ 31) (h : ∀ A B, post (nI (gw_ct K X Y Z F H m n)) (nI m, nI s, nI r, K, X, Y, Z, F, gw_nw K m H (gw_ct K X Y Z F H m n), A, B, yS, yR, yL, yN, yD, yT, yM, yF, yW, yP)) : wpY_tick post (nI m, nI s, nI r, K, X, Y, Z, F, gw_nw K m H (gw_ct K X Y Z F H m 0), yA, yO, yS, yR, yL, yN, yD, yT, yM, yF, yW, yP) (nI n) := by
  have h0 := hRho.1
  unfold wpY_tick
  dsimp only
  refine br_t (nI_pos' hn) ?_
  rcases Nat.lt_or_ge 64 n with c | c
  · refine br_f (nI_ge (b := n) (a := 64) c hn) (gy_round O hRho h64 (fun A B => ?_))
    have e : gw_ct K X Y Z F H m (64 + (n - 64) % (t1 - t0)) = gw_ct K X Y Z F H m n := gw_rho_u hRho (by omega) (by omega)
    have hml : (n - 64) % (t1 - t0) < t1 - t0 := Nat.mod_lt _ (by omega)
    have e1 : (nI n - 64 : Int32) = nI (n - 64) := pk_sub (b := 64) (by omega)
    have e2 : (64 : Int32) + nI ((n - 64) % (t1 - t0)) = nI (64 + (n - 64) % (t1 - t0)) := nI_add 64 _
    dsimp only
    refine ⟨nI_ne0 (by omega) (by omega), ?_⟩
    rw [e1, pk_rem (by omega) (by omega) (by omega), e2]
    refine nm_e ⟨64 + (n - 64) % (t1 - t0) + 1, gy_t29_l O (by omega) (fun A' B' => ?_) (64 + (n - 64) % (t1 - t0)) 0 _ A B (by omega) (by omega)⟩
    rw [e]
    exact h A' B'
  · exact br_t (nI_le (b := 64) c (by decide)) ⟨n + 1, gy_t29_l O hn h n 0 (n + 1) yA yO (by omega) (by omega)⟩
theorem gy_c73_l {post : Int32 → SY → Prop} {J : Int32 → Int32 → Int32 → Int32 → Int32 → (Nat → Int32) → (Nat → Int32) → (Nat → Int32) → (Nat → Int32) → (Nat → Int32) → (Nat → Int32) → (Nat → Int32) → (Nat → Int32) → (Nat → Int32) → (Nat → Int32) → (Nat → Int32) → (Nat → Int32) → (Nat → Int32) → (Nat → Int32) → (Nat → Int32) → (Nat → Int32) → (Nat → Int32) → (Nat → Int32) → Prop} {p u : Nat} {x3 x6 : Int32} (O : gw_Yo K X Y Z F H yS yR m s r) (hp : p < 2 ^ 31) (h0 : nI (gw_ct K X Y Z F H m (u + p)) = x6 → ∀ A B, J (nI u) 0 (nI m) (nI s) (nI r) K X Y Z F (gw_nw K m H (gw_ct K X Y Z F H m (u + p))) A B yS yR yL yN yD yT yM yF yW yP) (h1 : ¬ nI (gw_ct K X Y Z F H m (u + p)) = x6 → ∀ A B, J (nI (u + 1)) 1 (nI m) (nI s) (nI r) K X Y Z F (gw_nw K m H (gw_ct K X Y Z F H m (u + p))) A B yS yR yL yN yD yT yM yF yW yP) : ∀ d t g A B, t + d = p → d < g → wY_cycle_73 post J (nI p) x3 (nI u) x6 g (nI t) (nI m) (nI s) (nI r) K X Y Z F (gw_nw K m H (gw_ct K X Y Z F H m (u + t))) A B yS yR yL yN yD yT yM yF yW yP := by
  intro d
  induction d with
  | zero =>
    intro t g A B e1 e2
    obtain ⟨g, rfl⟩ := gw_fz e2
    have e : t = p := by omega
    subst e
    rw [wY_cycle_73]
    refine br_t (nI_le (by omega) (by omega)) (gy_ctc O (br_c (fun q => ?_) (fun q => ?_)))
    · exact br_t rfl (h0 q A B)
    · exact br_f gw_n10 (nm_r (nI_1 u) (h1 q A B))
  | succ d ih =>
    intro t g A B e1 e2
    obtain ⟨g, rfl⟩ := gw_fz e2
    rw [wY_cycle_73]
    refine br_f (nI_ge (by omega) (by omega)) (gy_cts O (fun A' B' => nm_r (nI_1 t) ?_))
    exact ih (t + 1) g A' B' (by omega) (by omega)
theorem gy_c47_l {post : Int32 → SY → Prop} {J : Int32 → Int32 → Int32 → Int32 → Int32 → (Nat → Int32) → (Nat → Int32) → (Nat → Int32) → (Nat → Int32) → (Nat → Int32) → (Nat → Int32) → (Nat → Int32) → (Nat → Int32) → (Nat → Int32) → (Nat → Int32) → (Nat → Int32) → (Nat → Int32) → (Nat → Int32) → (Nat → Int32) → (Nat → Int32) → (Nat → Int32) → (Nat → Int32) → (Nat → Int32) → Prop} {p u : Nat} {x3 : Int32} (O : gw_Yo K X Y Z F H yS yR m s r) (hp : p < 2 ^ 31) (hu : u < 2 ^ 31) (h0 : gw_ct K X Y Z F H m (u + p) = gw_ct K X Y Z F H m u → ∀ A B, J (nI u) 0 (nI m) (nI s) (nI r) K X Y Z F (gw_nw K m H (gw_ct K X Y Z F H m (u + p))) A B yS yR yL yN yD yT yM yF yW yP) (h1 : ¬ gw_ct K X Y Z F H m (u + p) = gw_ct K X Y Z F H m u → ∀ A B, J (nI (u + 1)) 1 (nI m) (nI s) (nI r) K X Y Z F (gw_nw K m H (gw_ct K X Y Z F H m (u + p))) A B yS yR yL yN yD yT yM yF yW yP) : ∀ d t g A B, t + d = u → d < g → wY_cycle_47 post J (nI p) x3 (nI u) g (nI t) (nI m) (nI s) (nI r) K X Y Z F (gw_nw K m H (gw_ct K X Y Z F H m t)) A B yS yR yL yN yD yT yM yF yW yP := by
  have h6 : gw_cnt (gw_rk K) m ≤ 6 := by have := O.2.2.2.2.2.2; omega
  have l1 := gw_ct_64 (X := X) (Y := Y) (Z := Z) (F := F) (H := H) h6 (u + p)
  have l2 := gw_ct_64 (X := X) (Y := Y) (Z := Z) (F := F) (H := H) h6 u
  intro d
  induction d with
  | zero =>
    intro t g A B e1 e2
    obtain ⟨g, rfl⟩ := gw_fz e2
    have e : t = u := by omega
    subst e
    rw [wY_cycle_47]
    refine br_t (nI_le (by omega) (by omega)) (gy_ctc O ⟨p + 1, ?_⟩)
    refine gy_c73_l O hp (fun q => h0 ?_) (fun q => h1 ?_) p 0 (p + 1) A B (by omega) (by omega)
    · exact (nI_eq (by omega) (by omega)).mp q
    · exact fun q2 => q (by rw [q2])
  | succ d ih =>
    intro t g A B e1 e2
    obtain ⟨g, rfl⟩ := gw_fz e2
    rw [wY_cycle_47]
    refine br_f (nI_ge (by omega) (by omega)) (gy_cts O (fun A' B' => nm_r (nI_1 t) ?_))
    exact ih (t + 1) g A' B' (by omega) (by omega)
theorem gy_c34_l {post : Int32 → SY → Prop} {t0 t1 : Nat} (O : gw_Yo K X Y Z F H yS yR m s r) (hRho : gw_Rho (gw_S K X Y Z F H m) (gw_c0 K m H) t0 t1) (h64 : t1 ≤ 64) (h : ∀ A B, post (nI t0) (nI m, nI s, nI r, K, X, Y, Z, F, gw_nw K m H (gw_ct K X Y Z F H m 0), A, B, yS, yR, yL, yN, yD, yT, yM, yF, yW, yP)) : ∀ d u g q A B, u + d = t0 → d + 1 < g → wY_cycle_34 post (nI (t1 - t0)) (nI (gw_ct K X Y Z F H m 0)) g (nI u) 1 (nI m) (nI s) (nI r) K X Y Z F (gw_nw K m H (gw_ct K X Y Z F H m q)) A B yS yR yL yN yD yT yM yF yW yP := by
  have hlt := hRho.1
  intro d
  induction d with
  | zero =>
    intro u g q A B e1 e2
    obtain ⟨g, rfl⟩ := gw_fz e2
    obtain ⟨g, rfl⟩ := gw_fz (show 0 < g by omega)
    have e : u = t0 := by omega
    rw [wY_cycle_34]
    refine br_f gw_n10 (gy_ctr O ⟨u + 1, ?_⟩)
    refine gy_c47_l O (by omega) (by omega) (fun _ A' B' => ?_) (fun q2 => absurd ?_ q2) u 0 (u + 1) A B (by omega) (by omega)
    · rw [wY_cycle_34]
      refine br_t rfl (gy_ctr O ?_)
      rw [e]
      exact h A' B'
    · rw [e]
      exact (gw_rho_tail0 hRho).symm
  | succ d ih =>
    intro u g q A B e1 e2
    obtain ⟨g, rfl⟩ := gw_fz e2
    rw [wY_cycle_34]
    refine br_f gw_n10 (gy_ctr O ⟨u + 1, ?_⟩)
    refine gy_c47_l O (by omega) (by omega) (fun q2 => absurd q2 ?_) (fun _ A' B' => ?_) u 0 (u + 1) A B (by omega) (by omega)
    · exact fun e => gw_rho_tail hRho (show u < t0 by omega) e.symm
    · exact ih (u + 1) g _ A' B' (by omega) (by omega)
theorem gy_cycle {post : Int32 → SY → Prop} {t0 t1 : Nat} {p : Int32} (O : gw_Yo K X Y Z F H yS yR m s r) (hRho : gw_Rho (gw_S K X Y Z F H m) (gw_c0 K m H) t0 t1) (h64 : t1 ≤ 64) (hp : p = 0 ∨ p = 1) (c1 : p = 0 → ∀ A B, post (nI t0) (nI m, nI s, nI r, K, X, Y, Z, F, gw_nw K m H (gw_ct K X Y Z F H m 0), A, B, yS, yR, yL, yN, yD, yT, yM, yF, yW, yP)) (c2 : p = 1 → ∀ A B, post (nI (t1 - t0)) (nI m, nI s, nI r, K, X, Y, Z, F, gw_nw K m H (gw_ct K X Y Z F H m 0), A, B, yS, yR, yL, yN, yD, yT, yM, yF, yW, yP)) : wpY_cycle post (nI m, nI s, nI r, K, X, Y, Z, F, gw_nw K m H (gw_ct K X Y Z F H m 0), yA, yO, yS, yR, yL, yN, yD, yT, yM, yF, yW, yP) p := by
  unfold wpY_cycle
  dsimp only
  refine gy_in (fun _ _ => br_f gw_n10 (gy_round O hRho h64 (fun A B => br_c (fun e => c2 e A B) (fun e => gy_ctc O ⟨t0 + 2, ?_⟩)))) (fun q => absurd ?_ q)
  · exact gy_c34_l O hRho h64 (c1 (hp.resolve_right e)) t0 0 (t0 + 2) 0 A B (by omega) (by omega)
  · rcases hp with e | e <;> rw [e] <;> decide
end
end
section
/-! the owed rows of tick and cycle -/
section
variable {m s r : Nat} {K X Y Z F H yA yO yS yR yL yN yD yT yM yF yW yP : Nat → Int32}
theorem gy_tick2 {post : Int32 → SY → Prop} {t0 t1 n : Nat} (O : gw_Yo K X Y Z F H yS yR m s r) (hRho : gw_Rho (gw_S K X Y Z F H m) (gw_c0 K m H) t0 t1) (h64 : t1 ≤ 64) (hn : n < 2 ^ 31) (h : ∀ A B, post (nI (gw_ct K X Y Z F H m n)) (nI m, nI s, nI r, K, X, Y, Z, F, gw_nw K m H (gw_ct K X Y Z F H m n), A, B, yS, yR, yL, yN, yD, yT, yM, yF, yW, yP)) : wpY_tick post (nI m, nI s, nI r, K, X, Y, Z, F, H, yA, yO, yS, yR, yL, yN, yD, yT, yM, yF, yW, yP) (nI n) := by
  have g := gy_tick (yA := yA) (yO := yO) (yL := yL) (yN := yN) (yD := yD) (yT := yT) (yM := yM) (yF := yF) (yW := yW) (yP := yP) O hRho h64 hn h
  rw [gw_nw_ct0 O.2.2.1] at g
  exact g
theorem gy_cycle2 {post : Int32 → SY → Prop} {t0 t1 : Nat} {p : Int32} (O : gw_Yo K X Y Z F H yS yR m s r) (hRho : gw_Rho (gw_S K X Y Z F H m) (gw_c0 K m H) t0 t1) (h64 : t1 ≤ 64) (hp : p = 0 ∨ p = 1) (c1 : p = 0 → ∀ A B, post (nI t0) (nI m, nI s, nI r, K, X, Y, Z, F, H, A, B, yS, yR, yL, yN, yD, yT, yM, yF, yW, yP)) (c2 : p = 1 → ∀ A B, post (nI (t1 - t0)) (nI m, nI s, nI r, K, X, Y, Z, F, H, A, B, yS, yR, yL, yN, yD, yT, yM, yF, yW, yP)) : wpY_cycle post (nI m, nI s, nI r, K, X, Y, Z, F, H, yA, yO, yS, yR, yL, yN, yD, yT, yM, yF, yW, yP) p := by
  have e : gw_nw K m H (gw_ct K X Y Z F H m 0) = H := gw_nw_ct0 O.2.2.1
  have g := gy_cycle (post := post) (yA := yA) (yO := yO) (yL := yL) (yN := yN) (yD := yD) (yT := yT) (yM := yM) (yF := yF) (yW := yW) (yP := yP) O hRho h64 hp (fun q A B => by rw [e]; exact c1 q A B) (fun q A B => by rw [e]; exact c2 q A B)
  rw [e] at g
  exact g
end
theorem i_vc_tick {k : Nat} {u : SX} {v : SY} (I : i_Rel k u v) (hk : k + 6 ≤ 3072) (v1 : Int32) : wpX_tick (fun r u' => wpY_tick (fun r' v' => r' = r ∧ i_Rel (k + 6) u' v') v v1) u v1 := by
  have J : i_Rel (k + 6) u v := I
  obtain ⟨m, K, X, Y, Z, F, H, ⟨hm, hW, h01, h10, h6⟩, ⟨tl, pe, xO, xN, xC, xS, xL, xE, xG, xW, xM, xP, rfl⟩, ⟨yA, yO, yS, yR, yL, yN, yD, yT, yM, yF, yW, yP, rfl, hS, hR⟩⟩ := I
  by_cases c : 0 ≤ v1
  · obtain ⟨n, hn, rfl⟩ := nI_of (x := v1) (Int32.not_lt.mpr c)
    exact gx_tick hm hW h01 h6 hn (fun t0 t1 tl pe E hRho h64 => gy_tick2 ⟨hm, hW, h01, rfl, h10, hS, rfl, h6, hR⟩ hRho h64 hn (fun A B => ⟨rfl, gw_rel ⟨hm, hW, gw_nw_01 h01, h10, h6⟩ hS hR⟩))
  · exact br_f c (br_f c ⟨rfl, J⟩)
theorem i_vc_cycle {k : Nat} {u : SX} {v : SY} (I : i_Rel k u v) (hk : k + 6 ≤ 3072) (v1 : Int32) : wpX_cycle (fun r u' => wpY_cycle (fun r' v' => r' = r ∧ i_Rel (k + 6) u' v') v v1) u v1 := by
  have J : i_Rel (k + 6) u v := I
  obtain ⟨m, K, X, Y, Z, F, H, ⟨hm, hW, h01, h10, h6⟩, ⟨tl, pe, xO, xN, xC, xS, xL, xE, xG, xW, xM, xP, rfl⟩, ⟨yA, yO, yS, yR, yL, yN, yD, yT, yM, yF, yW, yP, rfl, hS, hR⟩⟩ := I
  refine gx_cycle hm hW h01 h6 (fun q => ?_) (fun t0 t1 tl pe E hRho h64 e => ?_) (fun t0 t1 tl pe E hRho h64 e => ?_)
  · unfold wpY_cycle
    dsimp only
    refine gy_in (fun a b => absurd ?_ q) (fun _ => br_t rfl ⟨rfl, J⟩)
    obtain ⟨j, hj, rfl⟩ := nI_of2 (x := v1) (M := 1) (n := 1) (by decide) (Int32.not_lt.mpr a) b
    rcases (show j = 0 ∨ j = 1 by omega) with e | e <;> subst e <;> decide
  · exact gy_cycle2 ⟨hm, hW, h01, rfl, h10, hS, rfl, h6, hR⟩ hRho h64 (Or.inl e) (fun _ A B => ⟨rfl, gw_rel ⟨hm, hW, h01, h10, h6⟩ hS hR⟩) (fun e2 => absurd (e.symm.trans e2) (by decide))
  · exact gy_cycle2 ⟨hm, hW, h01, rfl, h10, hS, rfl, h6, hR⟩ hRho h64 (Or.inr e) (fun e2 => absurd (e2.symm.trans e) (by decide)) (fun _ A B => ⟨rfl, gw_rel ⟨hm, hW, h01, h10, h6⟩ hS hR⟩)
end
section
/-! cells; which configurations come, in the component -/
theorem gw_nor (a b : Nat) : nI a ||| nI b = nI (a ||| b) := by
  apply b_ext
  intro i hi
  rw [b_or, gw_nIb a hi, gw_nIb b hi, gw_nIb _ hi, Nat.testBit_or]
theorem gw_cell_lt {c w r q : Nat} (hc : c < 2 ^ r) (hw : w < 2 ^ q) : c * 2 ^ q + w < 2 ^ (r + q) := by
  have h1 : (c + 1) * 2 ^ q ≤ 2 ^ r * 2 ^ q := Nat.mul_le_mul_right _ hc
  rw [Nat.pow_add]
  rw [Nat.add_mul, Nat.one_mul] at h1
  omega
theorem gw_cell {c w q : Nat} (hq : q < 32) (hw : w < 2 ^ q) (h : c * 2 ^ q < 2 ^ 32) : (nI c <<< (nI q &&& 31)) ||| nI w = nI (c * 2 ^ q + w) := by
  rw [pk_shlN (nI q &&& 31) q (s_l q hq) h, gw_nor, Nat.mul_comm c, Nat.two_pow_add_eq_or_of_lt hw]
theorem gw_cdiv {c w Q : Nat} (hw : w < Q) : (c * Q + w) / Q = c ∧ (c * Q + w) % Q = w := by
  have h0 : 0 < Q := by omega
  constructor
  · rw [Nat.add_comm, Nat.add_mul_div_right _ _ h0, Nat.div_eq_of_lt hw, Nat.zero_add]
  · rw [Nat.add_comm, Nat.add_mul_mod_self_right, Nat.mod_eq_of_lt hw]
def gw_E (K X Y Z F : Nat → Int32) (m Q c d : Nat) : Prop := ∃ w, w < Q ∧ gw_stp K X Y Z F m w c = d
/-- how many inputs -/
def gw_q (K : Nat → Int32) (m : Nat) : Nat := gw_cnt (gw_ik K) m
theorem gw_srq {K : Nat → Int32} {m s r : Nat} (hs : s = gw_cnt (gw_sk K) m) (hr : r = gw_cnt (gw_rk K) m) : s = r + gw_q K m := by
  rw [hs, hr]; exact gw_cnt_sri K m
theorem gw_E_lt {K X Y Z F : Nat → Int32} {m Q c d : Nat} (h : gw_E K X Y Z F m Q c d) : d < 2 ^ gw_cnt (gw_rk K) m := by
  obtain ⟨w, _, rfl⟩ := h
  exact gw_stp_lt K X Y Z F m w c
section
variable {m s r : Nat} {tl pe : Int32} {K X Y Z F H xO xN xC xS xL xE xG xW xM xP : Nat → Int32}
theorem gx_inp (hs : s = gw_cnt (gw_sk K) m) (hr : r = gw_cnt (gw_rk K) m) : nI s - nI r = nI (gw_q K m) := by
  have e := gw_srq hs hr
  rw [pk_sub (by omega), show s - r = gw_q K m by omega]
theorem gw_cell10 {c w : Nat} (hs : s = gw_cnt (gw_sk K) m) (hr : r = gw_cnt (gw_rk K) m) (h10 : s ≤ 10) (hc : c < 2 ^ r) (hw : w < 2 ^ gw_q K m) : (nI c <<< (nI (gw_q K m) &&& 31)) ||| nI w = nI (c * 2 ^ gw_q K m + w) ∧ c * 2 ^ gw_q K m + w < 2 ^ s ∧ c * 2 ^ gw_q K m + w < 1024 := by
  have e := gw_srq hs hr
  have h1 := gw_cell_lt hc hw
  rw [← e] at h1
  have h2 := gw_p10 h10
  exact ⟨gw_cell (by omega) hw (by omega), h1, by omega⟩
theorem gx_cell {post : Int32 → Prop} {a : Nat} (hm : m ≤ 32) (hs : s = gw_cnt (gw_sk K) m) (hr : r = gw_cnt (gw_rk K) m) (h10 : s ≤ 10) (h : post (nI (gw_co K m a * 2 ^ gw_q K m + gw_of K m a))) : wpX_cellOf post (nI m, nI s, nI r, tl, pe, K, X, Y, Z, F, H, xO, xN, xC, xS, xL, xE, xG, xW, xM, xP) (nI a) := by
  unfold wpX_cellOf
  dsimp only
  refine nm_r (gx_inp hs hr) (gx_conf hm (gx_offs hm ?_))
  rw [(gw_cell10 hs hr h10 (by rw [hr]; exact gw_co_lt K m a) (gw_of_lt K m a)).1]
  exact h
theorem gw_fill {A : Nat → Int32} {f : Nat → Nat → Int32} (h : ∀ a, a < 2 ^ gw_cnt (gw_sk K) m → A (gw_co K m a * 2 ^ gw_q K m + gw_of K m a) = f (gw_of K m a) (gw_co K m a)) {c w : Nat} (hc : c < 2 ^ gw_cnt (gw_rk K) m) (hw : w < 2 ^ gw_q K m) : A (c * 2 ^ gw_q K m + w) = f w c := by
  have g := h (gw_jn K m w c) (gw_jn_lt K m w c)
  rw [gw_co_j hc, gw_of_j hw] at g
  exact g
theorem gw_fill_s {A : Nat → Int32} {f : Nat → Nat → Int32} {a : Nat} (h : ∀ b, b < a → A (gw_co K m b * 2 ^ gw_q K m + gw_of K m b) = f (gw_of K m b) (gw_co K m b)) : ∀ b, b < a + 1 → upd A (gw_co K m a * 2 ^ gw_q K m + gw_of K m a) (f (gw_of K m a) (gw_co K m a)) (gw_co K m b * 2 ^ gw_q K m + gw_of K m b) = f (gw_of K m b) (gw_co K m b) := by
  intro b hb
  by_cases e : gw_co K m b * 2 ^ gw_q K m + gw_of K m b = gw_co K m a * 2 ^ gw_q K m + gw_of K m a
  · have h1 := gw_cdiv (c := gw_co K m b) (gw_of_lt K m b)
    have h2 := gw_cdiv (c := gw_co K m a) (gw_of_lt K m a)
    unfold gw_q at e
    rw [e] at h1
    have e1 : gw_co K m b = gw_co K m a := h1.1.symm.trans h2.1
    have e2 : gw_of K m b = gw_of K m a := h1.2.symm.trans h2.2
    rw [e1, e2, pk_us]
  · rw [pk_un e]
    refine h b ?_
    apply Nat.lt_of_le_of_ne (by omega)
    intro e2
    rw [e2] at e
    exact e rfl
theorem gx_goes_l {post : SX → Prop} {N : Nat} (hm : m ≤ 32) (hW : gw_W K X Y Z F m) (hs : s = gw_cnt (gw_sk K) m) (hr : r = gw_cnt (gw_rk K) m) (h10 : s ≤ 10) (hN : N = 2 ^ s) (h : ∀ G, (∀ c w, c < 2 ^ r → w < 2 ^ gw_q K m → G (c * 2 ^ gw_q K m + w) = nI (gw_stp K X Y Z F m w c)) → post (nI m, nI s, nI r, tl, pe, K, X, Y, Z, F, H, xO, xN, xC, xS, xL, xE, G, xW, xM, xP)) : ∀ d a g G, a + d = N → d < g → (∀ b, b < a → G (gw_co K m b * 2 ^ gw_q K m + gw_of K m b) = nI (gw_stp K X Y Z F m (gw_of K m b) (gw_co K m b))) → wX_fillGoes_9 post (nI N) (nI m) (nI s) (nI r) tl pe g (nI a) K X Y Z F H xO xN xC xS xL xE G xW xM xP := by
  have hN2 : N ≤ 1024 := by rw [hN]; exact gw_p10 h10
  intro d
  induction d with
  | zero =>
    intro a g G h1 h2 hG
    obtain ⟨g, rfl⟩ := gw_fz h2
    rw [wX_fillGoes_9]
    refine br_t (nI_le (by omega) (by omega)) (h G (fun c w hc hw => ?_))
    rw [hr] at hc
    exact gw_fill (f := fun w c => nI (gw_stp K X Y Z F m w c)) (fun b hb => hG b (by rw [← hs, ← hN] at hb; omega)) hc hw
  | succ d ih =>
    intro a g G h1 h2 hG
    obtain ⟨g, rfl⟩ := gw_fz h2
    have hc := (gw_cell10 hs hr h10 (c := gw_co K m a) (w := gw_of K m a) (by rw [hr]; exact gw_co_lt K m a) (gw_of_lt K m a)).2.2
    have cc : (nI (gw_co K m a * 2 ^ gw_q K m + gw_of K m a)).toNatClampNeg = gw_co K m a * 2 ^ gw_q K m + gw_of K m a := nI_clamp (by omega)
    rw [wX_fillGoes_9]
    refine br_f (nI_ge (by omega) (by omega)) (gx_cell hm hs hr h10 (gx_aft hm hW (gx_conf hm ⟨vp_in_nI hc (by omega), ?_⟩)))
    rw [cc, gw_co_j (gw_stp_lt K X Y Z F m _ _)]
    exact nm_e (nm_r (nI_1 a) (ih (a + 1) g _ (by omega) (by omega) (gw_fill_s (f := fun w c => nI (gw_stp K X Y Z F m w c)) hG)))
theorem gx_goes {post : SX → Prop} (hm : m ≤ 32) (hW : gw_W K X Y Z F m) (hs : s = gw_cnt (gw_sk K) m) (hr : r = gw_cnt (gw_rk K) m) (h10 : s ≤ 10) (h : ∀ G, (∀ c w, c < 2 ^ r → w < 2 ^ gw_q K m → G (c * 2 ^ gw_q K m + w) = nI (gw_stp K X Y Z F m w c)) → post (nI m, nI s, nI r, tl, pe, K, X, Y, Z, F, H, xO, xN, xC, xS, xL, xE, G, xW, xM, xP)) : wpX_fillGoes post (nI m, nI s, nI r, tl, pe, K, X, Y, Z, F, H, xO, xN, xC, xS, xL, xE, xG, xW, xM, xP) := by
  unfold wpX_fillGoes
  dsimp only
  exact nm_r (gw_pow (by omega)) ⟨2 ^ s + 1, gx_goes_l hm hW hs hr h10 rfl h (2 ^ s) 0 (2 ^ s + 1) xG (by omega) (by omega) (fun b hb => absurd hb (Nat.not_lt_zero _))⟩
theorem gx_shows_l {post : SX → Prop} {N net : Nat} (hm : m ≤ 32) (hW : gw_W K X Y Z F m) (hn : net < m) (hs : s = gw_cnt (gw_sk K) m) (hr : r = gw_cnt (gw_rk K) m) (h10 : s ≤ 10) (hN : N = 2 ^ s) (h : ∀ G, (∀ c w, c < 2 ^ r → w < 2 ^ gw_q K m → G (c * 2 ^ gw_q K m + w) = gw_b (gw_sh K X Y Z m net w c)) → post (nI m, nI s, nI r, tl, pe, K, X, Y, Z, F, H, xO, xN, xC, xS, xL, xE, xG, G, xM, xP)) : ∀ d a g G, a + d = N → d < g → (∀ b, b < a → G (gw_co K m b * 2 ^ gw_q K m + gw_of K m b) = gw_b (gw_sh K X Y Z m net (gw_of K m b) (gw_co K m b))) → wX_fillShows_9 post (nI net) (nI N) (nI m) (nI s) (nI r) tl pe g (nI a) K X Y Z F H xO xN xC xS xL xE xG G xM xP := by
  have hN2 : N ≤ 1024 := by rw [hN]; exact gw_p10 h10
  intro d
  induction d with
  | zero =>
    intro a g G h1 h2 hG
    obtain ⟨g, rfl⟩ := gw_fz h2
    rw [wX_fillShows_9]
    refine br_t (nI_le (by omega) (by omega)) (h G (fun c w hc hw => ?_))
    rw [hr] at hc
    exact gw_fill (f := fun w c => gw_b (gw_sh K X Y Z m net w c)) (fun b hb => hG b (by rw [← hs, ← hN] at hb; omega)) hc hw
  | succ d ih =>
    intro a g G h1 h2 hG
    obtain ⟨g, rfl⟩ := gw_fz h2
    have hc := (gw_cell10 hs hr h10 (c := gw_co K m a) (w := gw_of K m a) (by rw [hr]; exact gw_co_lt K m a) (gw_of_lt K m a)).2.2
    have cc : (nI (gw_co K m a * 2 ^ gw_q K m + gw_of K m a)).toNatClampNeg = gw_co K m a * 2 ^ gw_q K m + gw_of K m a := nI_clamp (by omega)
    rw [wX_fillShows_9]
    refine br_f (nI_ge (by omega) (by omega)) (gx_cell hm hs hr h10 (gx_v hm hW (fun v hv => gx_bit (by omega) ⟨vp_in_nI hc (by omega), ?_⟩)))
    rw [cc, hv net (by omega), ← gw_sh_a]
    exact nm_e (nm_r (nI_1 a) (ih (a + 1) g _ (by omega) (by omega) (gw_fill_s (f := fun w c => gw_b (gw_sh K X Y Z m net w c)) hG)))
theorem gx_shows {post : SX → Prop} {net : Nat} (hm : m ≤ 32) (hW : gw_W K X Y Z F m) (hn : net < m) (hs : s = gw_cnt (gw_sk K) m) (hr : r = gw_cnt (gw_rk K) m) (h10 : s ≤ 10) (h : ∀ G, (∀ c w, c < 2 ^ r → w < 2 ^ gw_q K m → G (c * 2 ^ gw_q K m + w) = gw_b (gw_sh K X Y Z m net w c)) → post (nI m, nI s, nI r, tl, pe, K, X, Y, Z, F, H, xO, xN, xC, xS, xL, xE, xG, G, xM, xP)) : wpX_fillShows post (nI m, nI s, nI r, tl, pe, K, X, Y, Z, F, H, xO, xN, xC, xS, xL, xE, xG, xW, xM, xP) (nI net) := by
  unfold wpX_fillShows
  dsimp only
  exact nm_r (gw_pow (by omega)) ⟨2 ^ s + 1, gx_shows_l hm hW hn hs hr h10 rfl h (2 ^ s) 0 (2 ^ s + 1) xW (by omega) (by omega) (fun b hb => absurd hb (Nat.not_lt_zero _))⟩
theorem gx_mark_l {post : SX → Prop} {Q R c t : Nat} {E P : Nat → Nat → Prop} (hs : s = gw_cnt (gw_sk K) m) (hr : r = gw_cnt (gw_rk K) m) (h10 : s ≤ 10) (h6 : r ≤ 6) (hQ : Q = 2 ^ gw_q K m) (hRR : R = 2 ^ r) (hc : c < R) (ht : t < R) (hG : ∀ c w, c < 2 ^ r → w < 2 ^ gw_q K m → xG (c * 2 ^ gw_q K m + w) = nI (gw_stp K X Y Z F m w c)) (h : ∀ M, gw_RS E R t (fun x y => P x y ∨ (x = c ∧ ∃ w, w < Q ∧ gw_stp K X Y Z F m w c = y)) M → post (nI m, nI s, nI r, tl, pe, K, X, Y, Z, F, H, xO, xN, xC, xS, xL, xE, xG, xW, M, xP)) : ∀ d w g M, w + d = Q → d < g → M c = nI t → gw_RS E R t (fun x y => P x y ∨ (x = c ∧ ∃ w', w' < w ∧ gw_stp K X Y Z F m w' c = y)) M → wX_markComing_18 post (nI c) (nI (t + 1)) (nI (gw_q K m)) (nI Q) (nI m) (nI s) (nI r) tl pe g (nI w) K X Y Z F H xO xN xC xS xL xE xG xW M xP := by
  have e := gw_srq hs hr
  have hQ2 : Q ≤ 1024 := by rw [hQ]; exact gw_p10 (by omega)
  have hR2 : R ≤ 64 := by rw [hRR]; exact gw_p6 h6
  intro d
  induction d with
  | zero =>
    intro w g M h1 h2 hMc hM
    obtain ⟨g, rfl⟩ := gw_fz h2
    have e : w = Q := by omega
    subst e
    rw [wX_markComing_18]
    exact br_t (nI_le (by omega) (by omega)) (h M hM)
  | succ d ih =>
    intro w g M h1 h2 hMc hM
    obtain ⟨g, rfl⟩ := gw_fz h2
    obtain ⟨e1, e2, e3⟩ := gw_cell10 (K := K) (m := m) hs hr h10 (c := c) (w := w) (by omega) (by omega)
    have cc : (nI (c * 2 ^ gw_q K m + w)).toNatClampNeg = c * 2 ^ gw_q K m + w := nI_clamp (by omega)
    have hd : gw_stp K X Y Z F m w c < R := by rw [hRR, hr]; exact gw_stp_lt K X Y Z F m w c
    have cd : (nI (gw_stp K X Y Z F m w c)).toNatClampNeg = gw_stp K X Y Z F m w c := nI_clamp (by omega)
    have hcg : ∀ x y, (P x y ∨ (x = c ∧ ∃ w', w' < w ∧ gw_stp K X Y Z F m w' c = y)) ∨ (x = c ∧ y = gw_stp K X Y Z F m w c) ↔ P x y ∨ (x = c ∧ ∃ w', w' < w + 1 ∧ gw_stp K X Y Z F m w' c = y) := by
      intro x y
      constructor
      · rintro ((p | ⟨p, w', h3, h4⟩) | ⟨p, q⟩)
        · exact Or.inl p
        · exact Or.inr ⟨p, w', by omega, h4⟩
        · exact Or.inr ⟨p, w, by omega, q.symm⟩
      · rintro (p | ⟨p, w', h3, h4⟩)
        · exact Or.inl (Or.inl p)
        · rcases Nat.lt_or_ge w' w with q | q
          · exact Or.inl (Or.inr ⟨p, w', q, h4⟩)
          · rw [show w' = w by omega] at h4
            exact Or.inr ⟨p, h4.symm⟩
    rw [wX_markComing_18]
    refine br_f (nI_ge (by omega) (by omega)) ?_
    rw [e1, cc, hG c w (by omega) (by omega)]
    refine ⟨vp_in_nI (by omega) (by omega), nm_e ⟨vp_in_nI (by omega) (by omega), ?_⟩⟩
    rw [cd]
    refine br_c (fun q => ⟨vp_in_nI (by omega) (by omega), nm_e (nm_r (nI_1 w) (ih (w + 1) g _ (by omega) (by omega) ?_ ?_))⟩) (fun q => nm_r (nI_1 w) (ih (w + 1) g M (by omega) (by omega) hMc ?_))
    · rw [pk_un (fun e4 => ?_)]
      · exact hMc
      · rw [← e4, hMc] at q
        exact gw_m1 (by omega) q
    · exact gw_RS_congr (gw_RS_mark hM (by omega) hc hd hMc q) (fun x y p => (hcg x y).mp p) (fun x y _ _ p => (hcg x y).mpr p)
    · exact gw_RS_congr (gw_RS_have (c := c) hM q) (fun x y p => (hcg x y).mp p) (fun x y _ _ p => (hcg x y).mpr p)
theorem gx_come43_l {post : SX → Prop} {J : Int32 → Int32 → Int32 → Int32 → Int32 → Int32 → (Nat → Int32) → (Nat → Int32) → (Nat → Int32) → (Nat → Int32) → (Nat → Int32) → (Nat → Int32) → (Nat → Int32) → (Nat → Int32) → (Nat → Int32) → (Nat → Int32) → (Nat → Int32) → (Nat → Int32) → (Nat → Int32) → (Nat → Int32) → (Nat → Int32) → (Nat → Int32) → Prop} {Q R t : Nat} (hs : s = gw_cnt (gw_sk K) m) (hr : r = gw_cnt (gw_rk K) m) (h10 : s ≤ 10) (h6 : r ≤ 6) (hQ : Q = 2 ^ gw_q K m) (hRR : R = 2 ^ r) (ht : t < R) (hG : ∀ c w, c < 2 ^ r → w < 2 ^ gw_q K m → xG (c * 2 ^ gw_q K m + w) = nI (gw_stp K X Y Z F m w c)) (h : ∀ M, gw_RS (gw_E K X Y Z F m Q) R (t + 1) (fun _ _ => False) M → J (nI (t + 1)) (nI m) (nI s) (nI r) tl pe K X Y Z F H xO xN xC xS xL xE xG xW M xP) : ∀ d c g M, c + d = R → d < g → gw_RS (gw_E K X Y Z F m Q) R t (fun x y => x < c ∧ gw_E K X Y Z F m Q x y) M → wX_findComing_43 post J (nI R) (nI t) g (nI c) (nI m) (nI s) (nI r) tl pe K X Y Z F H xO xN xC xS xL xE xG xW M xP := by
  have e := gw_srq hs hr
  have hR2 : R ≤ 64 := by rw [hRR]; exact gw_p6 h6
  have hR0 : 0 < R := by omega
  intro d
  induction d with
  | zero =>
    intro c g M h1 h2 hM
    obtain ⟨g, rfl⟩ := gw_fz h2
    rw [wX_findComing_43]
    refine br_t (nI_le (by omega) (by omega)) (nm_r (nI_1 t) (h M (gw_RS_next (gw_RS_congr hM (fun x y p => p.2) (fun x y hy hd p => ⟨?_, p⟩)))))
    have := gw_R_in (N := R) hR0 (fun c d hh => by rw [hRR, hr]; exact gw_E_lt hh) t x hd.1
    omega
  | succ d ih =>
    intro c g M h1 h2 hM
    obtain ⟨g, rfl⟩ := gw_fz h2
    have cc : (nI c).toNatClampNeg = c := nI_clamp (by omega)
    rw [wX_findComing_43]
    refine br_f (nI_ge (by omega) (by omega)) ⟨vp_in_nI (by omega) (by omega), ?_⟩
    rw [cc]
    refine br_c (fun q => ?_) (fun q => nm_r (nI_1 c) (ih (c + 1) g M (by omega) (by omega) ?_))
    · rw [nI_1 t]
      unfold wpX_markComing
      dsimp only
      refine nm_r (gx_inp hs hr) (nm_r (e' := nI Q) (by rw [gw_pow (by omega), hQ]) ⟨Q + 1, ?_⟩)
      refine gx_mark_l (E := gw_E K X Y Z F m Q) (P := fun x y => x < c ∧ gw_E K X Y Z F m Q x y) hs hr h10 h6 hQ hRR (by omega) ht hG (fun M' hM' => ?_) Q 0 (Q + 1) M (by omega) (by omega) q (gw_RS_congr hM (fun x y p => Or.inl p) (fun x y _ _ p => ?_))
      · refine nm_r (nI_1 c) (ih (c + 1) g M' (by omega) (by omega) (gw_RS_congr hM' (fun x y p => ?_) (fun x y _ _ p => ?_)))
        · rcases p with p | ⟨p, w, h3, h4⟩
          · exact ⟨by omega, p.2⟩
          · exact ⟨by omega, by rw [p]; exact ⟨w, h3, h4⟩⟩
        · rcases Nat.lt_or_ge x c with l | l
          · exact Or.inl ⟨l, p.2⟩
          · have ex : x = c := by omega
            subst ex
            obtain ⟨w, h3, h4⟩ := p.2
            exact Or.inr ⟨rfl, w, h3, h4⟩
      · rcases p with p | ⟨_, w, h3, _⟩
        · exact p
        · exact absurd h3 (Nat.not_lt_zero _)
    · refine gw_RS_more hM (fun x y p => ⟨by omega, p.2⟩) (fun x y hy p hd => ?_)
      rcases Nat.lt_or_ge x c with l | l
      · exact Or.inl ⟨l, p.2⟩
      · have ex : x = c := by omega
        subst ex
        exact absurd ((hM x (by omega)).1 t (Nat.le_refl _) hd) q
theorem gx_come36_l {post : SX → Prop} {Q R : Nat} (hs : s = gw_cnt (gw_sk K) m) (hr : r = gw_cnt (gw_rk K) m) (h10 : s ≤ 10) (h6 : r ≤ 6) (hQ : Q = 2 ^ gw_q K m) (hRR : R = 2 ^ r) (hG : ∀ c w, c < 2 ^ r → w < 2 ^ gw_q K m → xG (c * 2 ^ gw_q K m + w) = nI (gw_stp K X Y Z F m w c)) (h : ∀ M, gw_Fin (gw_E K X Y Z F m Q) R M → post (nI m, nI s, nI r, tl, pe, K, X, Y, Z, F, H, xO, xN, xC, xS, xL, xE, xG, xW, M, xP)) : ∀ d t g M, t + d = R → d < g → gw_RS (gw_E K X Y Z F m Q) R t (fun _ _ => False) M → wX_findComing_36 post (nI R) g (nI t) (nI m) (nI s) (nI r) tl pe K X Y Z F H xO xN xC xS xL xE xG xW M xP := by
  have hR2 : R ≤ 64 := by rw [hRR]; exact gw_p6 h6
  have hR0 : 0 < R := by rw [hRR]; exact Nat.two_pow_pos r
  intro d
  induction d with
  | zero =>
    intro t g M h1 h2 hM
    obtain ⟨g, rfl⟩ := gw_fz h2
    rw [wX_findComing_36]
    exact br_t (nI_le (by omega) (by omega)) (h M (gw_Fin_N hR0 (fun c d hh => by rw [hRR, hr]; exact gw_E_lt hh) (by omega) hM))
  | succ d ih =>
    intro t g M h1 h2 hM
    obtain ⟨g, rfl⟩ := gw_fz h2
    rw [wX_findComing_36]
    refine br_f (nI_ge (by omega) (by omega)) ⟨R + 1, gx_come43_l hs hr h10 h6 hQ hRR (by omega) hG (fun M' hM' => ih (t + 1) g M' (by omega) (by omega) hM') R 0 (R + 1) M (by omega) (by omega) (gw_RS_congr hM (fun _ _ p => p.elim) (fun x y _ _ p => absurd p.1 (Nat.not_lt_zero _)))⟩
theorem gx_come9_l {post : SX → Prop} {Q R : Nat} (hs : s = gw_cnt (gw_sk K) m) (hr : r = gw_cnt (gw_rk K) m) (h10 : s ≤ 10) (h6 : r ≤ 6) (hQ : Q = 2 ^ gw_q K m) (hRR : R = 2 ^ r) (hG : ∀ c w, c < 2 ^ r → w < 2 ^ gw_q K m → xG (c * 2 ^ gw_q K m + w) = nI (gw_stp K X Y Z F m w c)) (h : ∀ M, gw_Fin (gw_E K X Y Z F m Q) R M → post (nI m, nI s, nI r, tl, pe, K, X, Y, Z, F, H, xO, xN, xC, xS, xL, xE, xG, xW, M, xP)) : ∀ d c g M, c + d = R → d < g → (∀ x, x < c → M x = -1) → wX_findComing_9 post (nI R) (nI m) (nI s) (nI r) tl pe g (nI c) K X Y Z F H xO xN xC xS xL xE xG xW M xP := by
  have hR2 : R ≤ 64 := by rw [hRR]; exact gw_p6 h6
  intro d
  induction d with
  | zero =>
    intro c g M h1 h2 hM
    obtain ⟨g, rfl⟩ := gw_fz h2
    rw [wX_findComing_9]
    refine br_t (nI_le (by omega) (by omega)) (nm_e ⟨R + 1, gx_come36_l hs hr h10 h6 hQ hRR hG h R 0 (R + 1) _ (by omega) (by omega) (gw_RS_0 pk_us (fun x hx h0 => ?_))⟩)
    rw [pk_un h0]
    exact hM x (by omega)
  | succ d ih =>
    intro c g M h1 h2 hM
    obtain ⟨g, rfl⟩ := gw_fz h2
    have cc : (nI c).toNatClampNeg = c := nI_clamp (by omega)
    rw [wX_findComing_9]
    refine br_f (nI_ge (by omega) (by omega)) ⟨vp_in_nI (by omega) (by omega), nm_r (e' := upd M c (-1)) (by rw [cc]) (nm_r (nI_1 c) (ih (c + 1) g _ (by omega) (by omega) (fun x hx => ?_)))⟩
    by_cases e : x = c
    · subst e; exact pk_us
    · rw [pk_un e]; exact hM x (by omega)
theorem gx_come {post : SX → Prop} (hs : s = gw_cnt (gw_sk K) m) (hr : r = gw_cnt (gw_rk K) m) (h10 : s ≤ 10) (h6 : r ≤ 6) (hG : ∀ c w, c < 2 ^ r → w < 2 ^ gw_q K m → xG (c * 2 ^ gw_q K m + w) = nI (gw_stp K X Y Z F m w c)) (h : ∀ M, gw_Fin (gw_E K X Y Z F m (2 ^ gw_q K m)) (2 ^ r) M → post (nI m, nI s, nI r, tl, pe, K, X, Y, Z, F, H, xO, xN, xC, xS, xL, xE, xG, xW, M, xP)) : wpX_findComing post (nI m, nI s, nI r, tl, pe, K, X, Y, Z, F, H, xO, xN, xC, xS, xL, xE, xG, xW, xM, xP) := by
  unfold wpX_findComing
  dsimp only
  exact nm_r (gw_pow (by omega)) ⟨2 ^ r + 1, gx_come9_l hs hr h10 h6 rfl rfl hG h (2 ^ r) 0 (2 ^ r + 1) xM (by omega) (by omega) (fun x hx => absurd hx (Nat.not_lt_zero _))⟩
end
end
section
/-! which configurations come, in the reference -/
theorem gw_RS_val {E P : Nat → Nat → Prop} {N t c : Nat} {a : Nat → Int32} (h : gw_RS E N t P a) (hc : c < N) : a c = -1 ∨ ∃ k, k ≤ t + 1 ∧ a c = nI k := by
  obtain ⟨h1, h2⟩ := h c hc
  by_cases g : ∃ s, s ≤ t ∧ gw_D E c s
  · obtain ⟨s, hs, hd⟩ := g
    exact Or.inr ⟨s, by omega, h1 s hs hd⟩
  · have h3 := h2 (fun s hs hd => g ⟨s, hs, hd⟩)
    by_cases g2 : ∃ c', gw_D E c' t ∧ P c' c
    · exact Or.inr ⟨t + 1, Nat.le_refl _, h3.1 g2⟩
    · exact Or.inl (h3.2 g2)
theorem gw_RS_neg {E P : Nat → Nat → Prop} {N t c : Nat} {a : Nat → Int32} (h : gw_RS E N t P a) (ht : t + 1 < 2 ^ 31) (hc : c < N) : a c < 0 ↔ a c = -1 := by
  rcases gw_RS_val h hc with e | ⟨k, hk, e⟩
  · rw [e]; decide
  · rw [e]
    exact ⟨fun q => absurd q (nI_pos (by omega)), fun q => absurd q (gw_m1 (by omega))⟩
theorem gw_RS_no {E : Nat → Nat → Prop} {N t c : Nat} {a : Nat → Int32} (h : gw_RS E N t (fun _ _ => False) a) (ht : t + 1 < 2 ^ 31) (hc : c < N) : a c ≠ nI (t + 1) := by
  obtain ⟨h1, h2⟩ := h c hc
  by_cases g : ∃ s, s ≤ t ∧ gw_D E c s
  · obtain ⟨s, hs, hd⟩ := g
    rw [h1 s hs hd]
    intro q
    rw [nI_eq (by omega) (by omega)] at q
    omega
  · have h3 := h2 (fun s hs hd => g ⟨s, hs, hd⟩)
    rw [h3.2 (fun ⟨_, _, f⟩ => f)]
    exact fun q => gw_m1 ht q.symm
/-- a mark of the round is a configuration that comes then -/
theorem gw_RS_now {E : Nat → Nat → Prop} {N t c : Nat} {a : Nat → Int32} (h : gw_RS E N t E a) (ht : t + 1 < 2 ^ 31) (hc : c < N) (e : a c = nI (t + 1)) : gw_D E c (t + 1) := by
  have h1 := gw_RS_next h
  obtain ⟨g1, g2⟩ := h1 c hc
  by_cases g : ∃ s, s ≤ t + 1 ∧ gw_D E c s
  · obtain ⟨s, hs, hd⟩ := g
    have := g1 s hs hd
    rw [e, nI_eq (by omega) (by omega)] at this
    rw [this]; exact hd
  · have h3 := (g2 (fun s hs hd => g ⟨s, hs, hd⟩)).2 (fun ⟨_, _, f⟩ => f)
    rw [e] at h3
    exact absurd h3 (gw_m1 ht)
section
variable {m s r : Nat} {K X Y Z F H yA yO yS yR yL yN yD yT yM yF yW yP : Nat → Int32}
theorem gy_cof_l {post : Int32 → Prop} {a : Nat} (hm : m ≤ 32) (ha : a < 2 ^ 31) (hs : s = gw_cnt (gw_sk K) m) (h10 : s ≤ 10) (hE : gw_En (gw_sk K) yS m) (h : post (nI (gw_pk (fun j => gw_rk K (yS j).toNatClampNeg) (fun j => a.testBit j) s))) : ∀ d i g, i + d = s → d < g → wY_configurationOf_7 post (nI a) (nI m) (nI s) (nI r) K X Y Z F H yA yO yS yR yL yN yD yT yM yF yW yP g (nI (gw_pk (fun j => gw_rk K (yS j).toNatClampNeg) (fun j => a.testBit j) i)) (nI (gw_cnt (fun j => gw_rk K (yS j).toNatClampNeg) i)) (nI i) := by
  intro d
  induction d with
  | zero =>
    intro i g h1 h2
    obtain ⟨g, rfl⟩ := gw_fz h2
    have e : i = s := by omega
    rw [wY_configurationOf_7]
    refine br_t (nI_le (by omega) (by omega)) ?_
    rw [e]
    exact h
  | succ d ih =>
    intro i g h1 h2
    obtain ⟨g, rfl⟩ := gw_fz h2
    have ci : (nI i).toNatClampNeg = i := nI_clamp (by omega)
    obtain ⟨n, hn, hq, hc, e⟩ := gw_En_at hE (show i < gw_cnt (gw_sk K) m by omega)
    have cn : (nI n).toNatClampNeg = n := nI_clamp (by omega)
    have hle := gw_cnt_le (fun j => gw_rk K (yS j).toNatClampNeg) i
    have ihn := ih (i + 1) g (by omega) (by omega)
    rw [wY_configurationOf_7]
    refine br_f (nI_ge (by omega) (by omega)) ⟨vp_in_nI (by omega) (by omega), ?_⟩
    rw [ci, e, cn]
    refine ⟨vp_in_nI (by omega) (by omega), br_c (fun q => ?_) (fun q => ?_)⟩
    · have hqi : gw_rk K (yS i).toNatClampNeg = true := by rw [e, cn]; exact gw_rk_t.mpr q
      rw [gw_pk_t (q := fun j => gw_rk K (yS j).toNatClampNeg) hqi, gw_cnt_t (q := fun j => gw_rk K (yS j).toNatClampNeg) hqi] at ihn
      refine nm_r ?_ (nm_r (nI_1 _) (nm_r (nI_1 i) ihn))
      rw [gw_sbit ha (by omega), gw_or _ _ (by omega)]
    · have hqi : gw_rk K (yS i).toNatClampNeg = false := by rw [e, cn]; exact gw_rk_f.mpr q
      rw [gw_pk_f (q := fun j => gw_rk K (yS j).toNatClampNeg) hqi, gw_cnt_f (q := fun j => gw_rk K (yS j).toNatClampNeg) hqi] at ihn
      exact nm_r (nI_1 i) ihn
theorem gy_cof {post : Int32 → Prop} {a : Nat} (hm : m ≤ 32) (ha : a < 2 ^ 31) (hs : s = gw_cnt (gw_sk K) m) (h10 : s ≤ 10) (hE : gw_En (gw_sk K) yS m) (h : post (nI (gw_co K m a))) : wpY_configurationOf post (nI m, nI s, nI r, K, X, Y, Z, F, H, yA, yO, yS, yR, yL, yN, yD, yT, yM, yF, yW, yP) (nI a) := by
  refine ⟨s + 1, gy_cof_l hm ha hs h10 hE ?_ s 0 (s + 1) (by omega) (by omega)⟩
  have e : gw_pk (fun j => gw_rk K (yS j).toNatClampNeg) (fun j => a.testBit j) s = gw_co K m a := by
    rw [hs]
    refine gw_pk_comp (p := gw_sk K) (q := gw_rk K) (fun n hn hq => ?_) (fun n _ hq => gw_rk_sk hq) (fun n hn hq => rfl)
    show gw_rk K (yS (gw_cnt (gw_sk K) n)).toNatClampNeg = gw_rk K n
    rw [hE n hn hq, nI_clamp (by omega)]
  rw [e]
  exact h
/-- what is shown: nothing for no net -/
def gw_sv (K X Y Z : Nat → Int32) (m : Nat) (x : Int32) (V : Nat → Bool) : Prop := (x < 0 ∧ ∀ b, V b = false) ∨ ∃ net, net < m ∧ x = nI net ∧ ∀ b, V b = gw_T K X Y Z m net b
theorem gy_sp22_l {post : SY → Prop} {J : Int32 → Int32 → Int32 → Int32 → (Nat → Int32) → (Nat → Int32) → (Nat → Int32) → (Nat → Int32) → (Nat → Int32) → (Nat → Int32) → (Nat → Int32) → (Nat → Int32) → (Nat → Int32) → (Nat → Int32) → (Nat → Int32) → (Nat → Int32) → (Nat → Int32) → (Nat → Int32) → (Nat → Int32) → (Nat → Int32) → (Nat → Int32) → (Nat → Int32) → Prop} {a : Nat} {x : Int32} {V : Nat → Bool} (hm : m ≤ 32) (hW : gw_W K X Y Z F m) (ha : a < 1024) (hr : r = gw_cnt (gw_rk K) m) (h6 : r ≤ 6) (hE : gw_En (gw_rk K) yR m) (hx : gw_sv K X Y Z m x V) (hA : ∀ j, j < m → yA j = gw_b (gw_v K X Y Z m (gw_sa K a) j)) (h : J (nI (a + 1)) (nI m) (nI s) (nI r) K X Y Z F H yA yO yS yR yL yN yD yT yM (upd yF a (nI (gw_tk K X Y Z F m (gw_sa K a)))) (upd yW a (gw_b (V a))) yP) : ∀ d i g, i + d = r → d < g → wY_spread_22 post J x (nI a) (nI m) (nI s) (nI r) K X Y Z F H yA yO yS yR yL yN yD yT yM yF yW yP g (nI (gw_pk (fun _ => true) (fun i => gw_v K X Y Z m (gw_sa K a) (F (yR i).toNatClampNeg).toNatClampNeg) i)) (nI i) := by
  have ca : (nI a).toNatClampNeg = a := nI_clamp (by omega)
  have va : vp_in (nI a) 1024 := vp_in_nI (by omega) (by omega)
  intro d
  induction d with
  | zero =>
    intro i g h1 h2
    obtain ⟨g, rfl⟩ := gw_fz h2
    have e : gw_pk (fun _ => true) (fun i => gw_v K X Y Z m (gw_sa K a) (F (yR i).toNatClampNeg).toNatClampNeg) i = gw_tk K X Y Z F m (gw_sa K a) := by
      rw [show i = gw_cnt (gw_rk K) m by omega]
      refine gw_pk_comp (p := gw_rk K) (q := gw_rk K) (fun n _ hq => hq.symm) (fun n _ hq => hq) (fun n hn hq => ?_)
      show gw_v K X Y Z m (gw_sa K a) (F (yR (gw_cnt (gw_rk K) n)).toNatClampNeg).toNatClampNeg = gw_v K X Y Z m (gw_sa K a) (F n).toNatClampNeg
      rw [hE n hn hq, nI_clamp (by omega)]
    rw [wY_spread_22, ca, e]
    refine br_t (nI_le (by omega) (by omega)) ⟨va, nm_e ?_⟩
    rcases hx with ⟨hx, hV⟩ | ⟨net, hn, hx, hV⟩
    · refine br_t hx ⟨va, nm_r ?_ (nm_r (nI_1 a) h)⟩
      rw [hV a]; rfl
    · have cn : (nI net).toNatClampNeg = net := nI_clamp (by omega)
      subst hx
      rw [cn, hA net hn]
      refine br_f (nI_pos (by omega)) ⟨vp_in_nI (by omega) (by omega), ?_⟩
      cases hb : gw_v K X Y Z m (gw_sa K a) net with
      | true =>
        refine br_f (by decide) ⟨va, nm_r ?_ (nm_r (nI_1 a) h)⟩
        rw [hV a, show gw_T K X Y Z m net a = true from hb]; rfl
      | false =>
        refine br_t rfl ⟨va, nm_r ?_ (nm_r (nI_1 a) h)⟩
        rw [hV a, show gw_T K X Y Z m net a = false from hb]; rfl
  | succ d ih =>
    intro i g h1 h2
    obtain ⟨g, rfl⟩ := gw_fz h2
    have ci : (nI i).toNatClampNeg = i := nI_clamp (by omega)
    obtain ⟨n, hn, hq, hcn, e⟩ := gw_En_at hE (show i < gw_cnt (gw_rk K) m by omega)
    have cn : (nI n).toNatClampNeg = n := nI_clamp (by omega)
    obtain ⟨p, hp, ep⟩ := (hW n hn).2.1 (gw_rk_t.mp hq)
    have cp : (nI p).toNatClampNeg = p := nI_clamp (by omega)
    have ihn := ih (i + 1) g (by omega) (by omega)
    rw [gw_pk_t (q := fun _ => true) rfl, gw_cnt_all, e, cn, ep, cp] at ihn
    rw [wY_spread_22]
    refine br_f (nI_ge (by omega) (by omega)) ⟨vp_in_nI (by omega) (by omega), ?_⟩
    rw [ci, e, cn, ep, cp, hA p hp]
    refine ⟨vp_in_nI (by omega) (by omega), vp_in_nI (by omega) (by omega), ?_⟩
    cases hb : gw_v K X Y Z m (gw_sa K a) p with
    | true =>
      rw [hb] at ihn
      exact br_f (by decide) (nm_r (gw_or _ true (by omega)) (nm_r (nI_1 i) ihn))
    | false =>
      rw [hb] at ihn
      exact br_t rfl (nm_r (gw_or _ false (by omega)) (nm_r (nI_1 i) ihn))
theorem gy_sp_l {post : SY → Prop} {N : Nat} {x : Int32} {V : Nat → Bool} (hm : m ≤ 32) (hW : gw_W K X Y Z F m) (hs : s = gw_cnt (gw_sk K) m) (h10 : s ≤ 10) (hS : gw_En (gw_sk K) yS m) (hr : r = gw_cnt (gw_rk K) m) (h6 : r ≤ 6) (hE : gw_En (gw_rk K) yR m) (hx : gw_sv K X Y Z m x V) (hN : N = 2 ^ s) (h : ∀ A B C, (∀ b, b < N → B b = nI (gw_tk K X Y Z F m (gw_sa K b))) → (∀ b, b < N → C b = gw_b (V b)) → post (nI m, nI s, nI r, K, X, Y, Z, F, H, A, yO, yS, yR, yL, yN, yD, yT, yM, B, C, yP)) : ∀ d a g A B C, a + d = N → d < g → (∀ b, b < a → B b = nI (gw_tk K X Y Z F m (gw_sa K b))) → (∀ b, b < a → C b = gw_b (V b)) → wY_spread_2 post x g (nI a) (nI m) (nI s) (nI r) K X Y Z F H A yO yS yR yL yN yD yT yM B C yP := by
  have hN2 : N ≤ 1024 := by rw [hN]; exact gw_p10 h10
  intro d
  induction d with
  | zero =>
    intro a g A B C h1 h2 hB hC
    obtain ⟨g, rfl⟩ := gw_fz h2
    have e : a = N := by omega
    subst e
    rw [wY_spread_2]
    dsimp only
    rw [gw_pow (by omega), ← hN]
    exact br_t (nI_le (by omega) (by omega)) (h A B C hB hC)
  | succ d ih =>
    intro a g A B C h1 h2 hB hC
    obtain ⟨g, rfl⟩ := gw_fz h2
    rw [wY_spread_2]
    dsimp only
    rw [gw_pow (by omega), ← hN]
    refine br_f (nI_ge (by omega) (by omega)) (gy_assign (by omega) hm hW hs h10 hS (fun A' hA => ⟨r + 1, ?_⟩))
    refine gy_sp22_l hm hW (by omega) hr h6 hE hx hA ?_ r 0 (r + 1) (by omega) (by omega)
    refine ih (a + 1) g A' _ _ (by omega) (by omega) (fun b hb => ?_) (fun b hb => ?_)
    · by_cases e : b = a
      · subst e; exact pk_us
      · rw [pk_un e]; exact hB b (by omega)
    · by_cases e : b = a
      · subst e; exact pk_us
      · rw [pk_un e]; exact hC b (by omega)
theorem gy_spread {post : SY → Prop} {x : Int32} {V : Nat → Bool} (hm : m ≤ 32) (hW : gw_W K X Y Z F m) (hs : s = gw_cnt (gw_sk K) m) (h10 : s ≤ 10) (hS : gw_En (gw_sk K) yS m) (hr : r = gw_cnt (gw_rk K) m) (h6 : r ≤ 6) (hE : gw_En (gw_rk K) yR m) (hx : gw_sv K X Y Z m x V) (h : ∀ A B C, (∀ b, b < 2 ^ s → B b = nI (gw_tk K X Y Z F m (gw_sa K b))) → (∀ b, b < 2 ^ s → C b = gw_b (V b)) → post (nI m, nI s, nI r, K, X, Y, Z, F, H, A, yO, yS, yR, yL, yN, yD, yT, yM, B, C, yP)) : wpY_spread post (nI m, nI s, nI r, K, X, Y, Z, F, H, yA, yO, yS, yR, yL, yN, yD, yT, yM, yF, yW, yP) x :=
  ⟨2 ^ s + 1, gy_sp_l hm hW hs h10 hS hr h6 hE hx rfl h (2 ^ s) 0 (2 ^ s + 1) yA yF yW (by omega) (by omega) (fun b hb => absurd hb (Nat.not_lt_zero _)) (fun b hb => absurd hb (Nat.not_lt_zero _))⟩
/-- the edges of the assignments below a -/
def gw_EA (K X Y Z F : Nat → Int32) (m a x y : Nat) : Prop := ∃ b, b < a ∧ gw_co K m b = x ∧ gw_tk K X Y Z F m (gw_sa K b) = y
theorem gw_EA_E {x y : Nat} (hx : x < 2 ^ gw_cnt (gw_rk K) m) : gw_EA K X Y Z F m (2 ^ gw_cnt (gw_sk K) m) x y ↔ gw_E K X Y Z F m (2 ^ gw_q K m) x y := by
  constructor
  · rintro ⟨b, hb, h1, h2⟩
    refine ⟨gw_of K m b, gw_of_lt K m b, ?_⟩
    rw [← h1, gw_stp_a]
    exact h2
  · rintro ⟨w, hw, h1⟩
    refine ⟨gw_jn K m w x, gw_jn_lt K m w x, gw_co_j hx, ?_⟩
    rw [← gw_stp_a, gw_co_j hx, gw_of_j hw]
    exact h1
theorem gw_EA_s {a x y : Nat} : gw_EA K X Y Z F m (a + 1) x y ↔ gw_EA K X Y Z F m a x y ∨ (x = gw_co K m a ∧ y = gw_tk K X Y Z F m (gw_sa K a)) := by
  constructor
  · rintro ⟨b, hb, h1, h2⟩
    rcases Nat.lt_or_ge b a with l | l
    · exact Or.inl ⟨b, l, h1, h2⟩
    · have e : b = a := by omega
      subst e
      exact Or.inr ⟨h1.symm, h2.symm⟩
  · rintro (⟨b, hb, h1, h2⟩ | ⟨h1, h2⟩)
    · exact ⟨b, by omega, h1, h2⟩
    · exact ⟨a, by omega, h1.symm, h2.symm⟩
theorem gy_ex47_l {post : SY → Prop} {J : Int32 → Int32 → (Nat → Int32) → (Nat → Int32) → (Nat → Int32) → (Nat → Int32) → (Nat → Int32) → (Nat → Int32) → (Nat → Int32) → (Nat → Int32) → (Nat → Int32) → (Nat → Int32) → (Nat → Int32) → (Nat → Int32) → (Nat → Int32) → (Nat → Int32) → (Nat → Int32) → (Nat → Int32) → (Nat → Int32) → (Nat → Int32) → Prop} {N Q R t : Nat} (hm : m ≤ 32) (hs : s = gw_cnt (gw_sk K) m) (h10 : s ≤ 10) (hS : gw_En (gw_sk K) yS m) (hr : r = gw_cnt (gw_rk K) m) (h6 : r ≤ 6) (hN : N = 2 ^ s) (hQ : Q = 2 ^ gw_q K m) (hRR : R = 2 ^ r) (ht : t < R) (hB : ∀ b, b < N → yF b = nI (gw_tk K X Y Z F m (gw_sa K b))) (h0 : ∀ M, gw_Fin (gw_E K X Y Z F m Q) R M → (∀ c, R ≤ c → c < 64 → M c = -1) → J 0 (nI (t + 1)) K X Y Z F H yA yO yS yR yL M yD yT yM yF yW yP) (h1 : ∀ M, t + 1 < R → gw_RS (gw_E K X Y Z F m Q) R (t + 1) (fun _ _ => False) M → (∀ c, R ≤ c → c < 64 → M c = -1) → J 1 (nI (t + 1)) K X Y Z F H yA yO yS yR yL M yD yT yM yF yW yP) : ∀ d a g z M, a + d = N → d < g → gw_RS (gw_E K X Y Z F m Q) R t (gw_EA K X Y Z F m a) M → (∀ c, R ≤ c → c < 64 → M c = -1) → ((z = 0 ∧ ∀ c, c < R → M c ≠ nI (t + 1)) ∨ (z = 1 ∧ ∃ c, c < R ∧ M c = nI (t + 1))) → wY_explore_47 post J (nI t) (nI m) (nI s) (nI r) g z (nI a) K X Y Z F H yA yO yS yR yL M yD yT yM yF yW yP := by
  have hN2 : N ≤ 1024 := by rw [hN]; exact gw_p10 h10
  have hR2 : R ≤ 64 := by rw [hRR]; exact gw_p6 h6
  have hElt : ∀ c d, gw_E K X Y Z F m Q c d → d < R := fun c d hh => by rw [hRR, hr]; exact gw_E_lt hh
  intro d
  induction d with
  | zero =>
    intro a g z M e1 e2 hM hhi hz
    obtain ⟨g, rfl⟩ := gw_fz e2
    have e : a = N := by omega
    have hM' : gw_RS (gw_E K X Y Z F m Q) R t (gw_E K X Y Z F m Q) M := by
      rw [e, hN, hs] at hM
      have inR : ∀ x, gw_D (gw_E K X Y Z F m Q) x t → x < 2 ^ gw_cnt (gw_rk K) m := fun x hd => by
        have := gw_R_in (N := R) (by omega) hElt t x hd.1
        rw [hRR, hr] at this
        exact this
      refine gw_RS_congr hM (fun x y p => ?_) (fun x y _ hd p => ?_)
      · obtain ⟨b, hb, h3, h4⟩ := p
        rw [hQ]
        exact (gw_EA_E (by rw [← h3]; exact gw_co_lt K m b)).mp ⟨b, hb, h3, h4⟩
      · rw [hQ] at p
        exact (gw_EA_E (inR x hd)).mpr p
    rw [wY_explore_47]
    rw [gw_pow (by omega), ← hN]
    refine br_t (nI_le (by omega) (by omega)) (nm_r (nI_1 t) ?_)
    rcases hz with ⟨hz, hno⟩ | ⟨hz, c, hc, hc2⟩
    · rw [hz]
      exact h0 M (gw_Fin_stop (by omega) hElt (by omega) hM' hno) hhi
    · rw [hz]
      exact h1 M (gw_D_lt (by omega) hElt (gw_RS_now hM' (by omega) hc hc2)) (gw_RS_next hM') hhi
  | succ d ih =>
    intro a g z M e1 e2 hM hhi hz
    obtain ⟨g, rfl⟩ := gw_fz e2
    have hco : gw_co K m a < R := by rw [hRR, hr]; exact gw_co_lt K m a
    have htk : gw_tk K X Y Z F m (gw_sa K a) < R := by rw [hRR, hr]; exact gw_pk_lt _ _ _
    have cc : (nI (gw_co K m a)).toNatClampNeg = gw_co K m a := nI_clamp (by omega)
    have ck : (nI (gw_tk K X Y Z F m (gw_sa K a))).toNatClampNeg = gw_tk K X Y Z F m (gw_sa K a) := nI_clamp (by omega)
    have ca : (nI a).toNatClampNeg = a := nI_clamp (by omega)
    have vk : vp_in (nI (gw_tk K X Y Z F m (gw_sa K a))) 64 := vp_in_nI (by omega) (by omega)
    have va : vp_in (nI a) 1024 := vp_in_nI (by omega) (by omega)
    rw [wY_explore_47]
    rw [gw_pow (by omega), ← hN]
    refine br_f (nI_ge (by omega) (by omega)) (gy_cof hm (by omega) hs h10 hS ⟨vp_in_nI (by omega) (by omega), ?_⟩)
    rw [cc, ca, hB a (by omega), ck]
    refine br_c (fun q => ⟨va, vk, br_c (fun q2 => ⟨va, vk, ?_⟩) (fun q2 => nm_r (nI_1 a) (ih (a + 1) g z M (by omega) (by omega) ?_ hhi hz))⟩) (fun q => nm_r (nI_1 a) (ih (a + 1) g z M (by omega) (by omega) ?_ hhi hz))
    · rw [gw_RS_neg hM (by omega) htk] at q2
      rw [nI_1 t]
      refine nm_e (nm_r (nI_1 a) (ih (a + 1) g 1 _ (by omega) (by omega) ?_ (fun c hc hc2 => ?_) (Or.inr ⟨rfl, _, htk, pk_us⟩)))
      · exact gw_RS_congr (gw_RS_mark hM (by omega) hco htk q q2) (fun x y p => gw_EA_s.mpr p) (fun x y _ _ p => gw_EA_s.mp p)
      · rw [pk_un (by omega)]; exact hhi c hc hc2
    · rw [gw_RS_neg hM (by omega) htk] at q2
      exact gw_RS_congr (gw_RS_have (c := gw_co K m a) hM q2) (fun x y p => gw_EA_s.mpr p) (fun x y _ _ p => gw_EA_s.mp p)
    · exact gw_RS_congr (gw_RS_skip (d := gw_tk K X Y Z F m (gw_sa K a)) hM hco q) (fun x y p => gw_EA_s.mpr p) (fun x y _ _ p => gw_EA_s.mp p)
theorem gy_ex38_l {post : SY → Prop} {N Q R : Nat} (hm : m ≤ 32) (hs : s = gw_cnt (gw_sk K) m) (h10 : s ≤ 10) (hS : gw_En (gw_sk K) yS m) (hr : r = gw_cnt (gw_rk K) m) (h6 : r ≤ 6) (hN : N = 2 ^ s) (hQ : Q = 2 ^ gw_q K m) (hRR : R = 2 ^ r) (hB : ∀ b, b < N → yF b = nI (gw_tk K X Y Z F m (gw_sa K b))) (h : ∀ M, gw_Fin (gw_E K X Y Z F m Q) R M → (∀ c, R ≤ c → c < 64 → M c = -1) → post (nI m, nI s, nI r, K, X, Y, Z, F, H, yA, yO, yS, yR, yL, M, yD, yT, yM, yF, yW, yP)) : ∀ d t g M, t + d + 1 = R → d + 1 < g → gw_RS (gw_E K X Y Z F m Q) R t (fun _ _ => False) M → (∀ c, R ≤ c → c < 64 → M c = -1) → wY_explore_38 post (nI m) (nI s) (nI r) g 1 (nI t) K X Y Z F H yA yO yS yR yL M yD yT yM yF yW yP := by
  have hN2 : N ≤ 1024 := by rw [hN]; exact gw_p10 h10
  have hR2 : R ≤ 64 := by rw [hRR]; exact gw_p6 h6
  intro d
  induction d with
  | zero =>
    intro t g M e1 e2 hM hhi
    obtain ⟨g, rfl⟩ := gw_fz e2
    obtain ⟨g, rfl⟩ := gw_fz (show 0 < g by omega)
    rw [wY_explore_38]
    refine br_f gw_n10 ⟨N + 1, gy_ex47_l hm hs h10 hS hr h6 hN hQ hRR (by omega) hB (fun M' hF hhi' => ?_) (fun M' hlt => ?_) N 0 (N + 1) 0 M (by omega) (by omega) (gw_RS_congr hM (fun _ _ p => p.elim) (fun x y _ _ p => ?_)) hhi (Or.inl ⟨rfl, fun c hc => gw_RS_no hM (by omega) hc⟩)⟩
    · rw [wY_explore_38]
      exact br_t rfl (h M' hF hhi')
    · omega
    · obtain ⟨b, hb, _⟩ := p
      exact absurd hb (Nat.not_lt_zero _)
  | succ d ih =>
    intro t g M e1 e2 hM hhi
    obtain ⟨g, rfl⟩ := gw_fz e2
    obtain ⟨g, rfl⟩ := gw_fz (show 0 < g by omega)
    rw [wY_explore_38]
    refine br_f gw_n10 ⟨N + 1, gy_ex47_l hm hs h10 hS hr h6 hN hQ hRR (by omega) hB (fun M' hF hhi' => ?_) (fun M' hlt hM' hhi' => ih (t + 1) (g + 1) M' (by omega) (by omega) hM' hhi') N 0 (N + 1) 0 M (by omega) (by omega) (gw_RS_congr hM (fun _ _ p => p.elim) (fun x y _ _ p => ?_)) hhi (Or.inl ⟨rfl, fun c hc => gw_RS_no hM (by omega) hc⟩)⟩
    · rw [wY_explore_38]
      exact br_t rfl (h M' hF hhi')
    · obtain ⟨b, hb, _⟩ := p
      exact absurd hb (Nat.not_lt_zero _)
theorem gy_ex7_l {post : SY → Prop} {N Q R : Nat} (hm : m ≤ 32) (hs : s = gw_cnt (gw_sk K) m) (h10 : s ≤ 10) (hS : gw_En (gw_sk K) yS m) (hr : r = gw_cnt (gw_rk K) m) (h6 : r ≤ 6) (hN : N = 2 ^ s) (hQ : Q = 2 ^ gw_q K m) (hRR : R = 2 ^ r) (hB : ∀ b, b < N → yF b = nI (gw_tk K X Y Z F m (gw_sa K b))) (h : ∀ M, gw_Fin (gw_E K X Y Z F m Q) R M → (∀ c, R ≤ c → c < 64 → M c = -1) → post (nI m, nI s, nI r, K, X, Y, Z, F, H, yA, yO, yS, yR, yL, M, yD, yT, yM, yF, yW, yP)) : ∀ d c g M, c + d = 64 → d < g → (∀ x, x < c → M x = if x = 0 then 0 else -1) → wY_explore_7 post (nI m) (nI s) (nI r) g (nI c) K X Y Z F H yA yO yS yR yL M yD yT yM yF yW yP := by
  have hR2 : R ≤ 64 := by rw [hRR]; exact gw_p6 h6
  have hR0 : 0 < R := by rw [hRR]; exact Nat.two_pow_pos r
  intro d
  induction d with
  | zero =>
    intro c g M e1 e2 hM
    obtain ⟨g, rfl⟩ := gw_fz e2
    rw [wY_explore_7]
    refine br_t (nI_le (a := 64) (by omega) (by omega)) ⟨R + 1, gy_ex38_l hm hs h10 hS hr h6 hN hQ hRR hB h (R - 1) 0 (R + 1) M (by omega) (by omega) (gw_RS_0 ?_ (fun x hx h0 => ?_)) (fun x h1 h2 => ?_)⟩
    · rw [hM 0 (by omega), if_pos rfl]
    · rw [hM x (by omega), if_neg h0]
    · rw [hM x (by omega), if_neg (by omega)]
  | succ d ih =>
    intro c g M e1 e2 hM
    obtain ⟨g, rfl⟩ := gw_fz e2
    have cc : (nI c).toNatClampNeg = c := nI_clamp (by omega)
    have vc : vp_in (nI c) 64 := vp_in_nI (by omega) (by omega)
    have next : ∀ z : Int32, z = (if c = 0 then 0 else -1) → wY_explore_7 post (nI m) (nI s) (nI r) g (nI (c + 1)) K X Y Z F H yA yO yS yR yL (upd M c z) yD yT yM yF yW yP := by
      intro z hz
      refine ih (c + 1) g _ (by omega) (by omega) (fun x hx => ?_)
      by_cases e : x = c
      · subst e; rw [pk_us, hz]
      · rw [pk_un e]; exact hM x (by omega)
    rw [wY_explore_7]
    refine br_f (nI_ge (b := 64) (by omega) (by decide)) ?_
    rw [cc]
    by_cases c0 : c = 0
    · exact br_t (by rw [c0]; rfl) ⟨vc, nm_e (nm_r (nI_1 c) (next 0 (by rw [if_pos c0])))⟩
    · exact br_f (fun q => c0 ((nI_eq (b := 0) (by omega) (by decide)).mp q)) ⟨vc, nm_e (nm_r (nI_1 c) (next (-1) (by rw [if_neg c0])))⟩
theorem gy_explore {post : SY → Prop} {x : Int32} {V : Nat → Bool} (hm : m ≤ 32) (hW : gw_W K X Y Z F m) (hs : s = gw_cnt (gw_sk K) m) (h10 : s ≤ 10) (hS : gw_En (gw_sk K) yS m) (hr : r = gw_cnt (gw_rk K) m) (h6 : r ≤ 6) (hE : gw_En (gw_rk K) yR m) (hx : gw_sv K X Y Z m x V) (h : ∀ A B C M, (∀ b, b < 2 ^ s → C b = gw_b (V b)) → gw_Fin (gw_E K X Y Z F m (2 ^ gw_q K m)) (2 ^ r) M → (∀ c, 2 ^ r ≤ c → c < 64 → M c = -1) → post (nI m, nI s, nI r, K, X, Y, Z, F, H, A, yO, yS, yR, yL, M, yD, yT, yM, B, C, yP)) : wpY_explore post (nI m, nI s, nI r, K, X, Y, Z, F, H, yA, yO, yS, yR, yL, yN, yD, yT, yM, yF, yW, yP) x := by
  unfold wpY_explore
  dsimp only
  refine gy_spread hm hW hs h10 hS hr h6 hE hx (fun A B C hB hC => ⟨65, ?_⟩)
  exact gy_ex7_l hm hs h10 hS hr h6 rfl rfl rfl hB (fun M hM hhi => h A B C M hC hM hhi) 64 0 65 yN (by omega) (by omega) (fun x hx => absurd hx (Nat.not_lt_zero _))
end
end
section
/-! configurations, soonest, alarm -/
theorem gw_Fin_ne {E : Nat → Nat → Prop} {N c : Nat} {a : Nat → Int32} (h0 : 0 < N) (hE : ∀ c c', E c c' → c' < N) (hN : N < 2 ^ 31) (h : gw_Fin E N a) (hc : c < N) : a c = -1 ↔ ¬ ∃ t, gw_D E c t := by
  obtain ⟨a1, a2⟩ := h c hc
  constructor
  · rintro e ⟨t, ht⟩
    rw [a1 t ht] at e
    exact gw_m1 (by have := gw_D_lt h0 hE ht; omega) e
  · exact fun g => a2 (fun s hs => g ⟨s, hs⟩)
theorem gw_Fin_lt {E : Nat → Nat → Prop} {N c : Nat} {a : Nat → Int32} (h0 : 0 < N) (hE : ∀ c c', E c c' → c' < N) (hN : N < 2 ^ 31) (h : gw_Fin E N a) (hc : c < N) : a c < 0 ↔ a c = -1 := by
  rcases gw_Fin_v h0 hE h hc with e | ⟨k, hk, e⟩
  · rw [e]; decide
  · rw [e]
    exact ⟨fun q => absurd q (nI_pos (by omega)), fun q => absurd q (gw_m1 (by omega))⟩
/-- the times at which the net can be shown, among cells below n, and among assignments below n -/
def gw_GX (K X Y Z F : Nat → Int32) (m net Q n t : Nat) : Prop := ∃ x, x < n ∧ gw_sh K X Y Z m net (x % Q) (x / Q) = true ∧ gw_D (gw_E K X Y Z F m Q) (x / Q) t
def gw_GY (K X Y Z F : Nat → Int32) (m Q : Nat) (V : Nat → Bool) (n t : Nat) : Prop := ∃ b, b < n ∧ V b = true ∧ gw_D (gw_E K X Y Z F m Q) (gw_co K m b) t
theorem gw_GXY {K X Y Z F : Nat → Int32} {m net t : Nat} : gw_GX K X Y Z F m net (2 ^ gw_q K m) (2 ^ gw_cnt (gw_sk K) m) t ↔ gw_GY K X Y Z F m (2 ^ gw_q K m) (gw_T K X Y Z m net) (2 ^ gw_cnt (gw_sk K) m) t := by
  constructor
  · rintro ⟨x, hx, h1, h2⟩
    have hq : 0 < 2 ^ gw_q K m := Nat.two_pow_pos _
    have hw : x % 2 ^ gw_q K m < 2 ^ gw_q K m := Nat.mod_lt _ hq
    have hc : x / 2 ^ gw_q K m < 2 ^ gw_cnt (gw_rk K) m := by
      rw [Nat.div_lt_iff_lt_mul hq, ← Nat.pow_add]
      have e := gw_cnt_sri K m
      unfold gw_q
      rw [← e]
      exact hx
    refine ⟨gw_jn K m (x % 2 ^ gw_q K m) (x / 2 ^ gw_q K m), gw_jn_lt K m _ _, ?_, ?_⟩
    · unfold gw_T
      rw [← gw_sh_a, gw_co_j hc, gw_of_j hw]
      exact h1
    · rw [gw_co_j hc]
      exact h2
  · rintro ⟨b, hb, h1, h2⟩
    have hd := gw_cdiv (c := gw_co K m b) (gw_of_lt K m b)
    refine ⟨gw_co K m b * 2 ^ gw_q K m + gw_of K m b, ?_, ?_, ?_⟩
    · have h3 := gw_cell_lt (gw_co_lt K m b) (gw_of_lt K m b)
      rw [← gw_cnt_sri] at h3
      exact h3
    · unfold gw_q
      rw [hd.1, hd.2, gw_sh_a]
      exact h1
    · have e : (gw_co K m b * 2 ^ gw_q K m + gw_of K m b) / 2 ^ gw_q K m = gw_co K m b := hd.1
      rw [e]
      exact h2
section
variable {m s r : Nat} {tl pe : Int32} {K X Y Z F H xO xN xC xS xL xE xG xW xM xP : Nat → Int32}
theorem gx_confs_l {post : Int32 → SX → Prop} {R : Nat} {P : Nat → Prop} (hR : R ≤ 64) (hM : ∀ c, c < R → (xM c = -1 ↔ ¬ P c)) (h : post (nI (gw_cnt (gw_dc P) R)) (nI m, nI s, nI r, tl, pe, K, X, Y, Z, F, H, xO, xN, xC, xS, xL, xE, xG, xW, xM, xP)) : ∀ d c g, c + d = R → d < g → wX_configurations_19 post (nI R) (nI m) (nI s) (nI r) tl pe K X Y Z F H xO xN xC xS xL xE xG xW xM xP g (nI (gw_cnt (gw_dc P) c)) (nI c) := by
  intro d
  induction d with
  | zero =>
    intro c g h1 h2
    obtain ⟨g, rfl⟩ := gw_fz h2
    have e : c = R := by omega
    rw [wX_configurations_19]
    refine br_t (nI_le (by omega) (by omega)) ?_
    rw [e]
    exact h
  | succ d ih =>
    intro c g h1 h2
    obtain ⟨g, rfl⟩ := gw_fz h2
    have cc : (nI c).toNatClampNeg = c := nI_clamp (by omega)
    have ihn := ih (c + 1) g (by omega) (by omega)
    rw [wX_configurations_19]
    refine br_f (nI_ge (by omega) (by omega)) ⟨vp_in_nI (by omega) (by omega), ?_⟩
    rw [cc]
    refine br_c (fun q => nm_r (nI_1 c) ?_) (fun q => nm_r (nI_1 _) (nm_r (nI_1 c) ?_))
    · rw [gw_dc_sf ((hM c (by omega)).mp q)] at ihn
      exact ihn
    · rw [gw_dc_st (Classical.byContradiction (fun n => q ((hM c (by omega)).mpr n)))] at ihn
      exact ihn
theorem gx_confs {post : Int32 → SX → Prop} (hm : m ≤ 32) (hW : gw_W K X Y Z F m) (hs : s = gw_cnt (gw_sk K) m) (hr : r = gw_cnt (gw_rk K) m) (h10 : s ≤ 10) (h6 : r ≤ 6) (h : ∀ G M, post (nI (gw_cnt (gw_dc (fun c => ∃ t, gw_D (gw_E K X Y Z F m (2 ^ gw_q K m)) c t)) (2 ^ r))) (nI m, nI s, nI r, tl, pe, K, X, Y, Z, F, H, xO, xN, xC, xS, xL, xE, G, xW, M, xP)) : wpX_configurations post (nI m, nI s, nI r, tl, pe, K, X, Y, Z, F, H, xO, xN, xC, xS, xL, xE, xG, xW, xM, xP) := by
  unfold wpX_configurations
  dsimp only
  refine gx_goes hm hW hs hr h10 (fun G hG => gx_come hs hr h10 h6 hG (fun M hM => nm_r (gw_pow (by omega)) ⟨2 ^ r + 1, ?_⟩))
  have hp := gw_p6 h6
  exact gx_confs_l hp (fun c hc => gw_Fin_ne (Nat.two_pow_pos r) (fun c d hh => by rw [hr]; exact gw_E_lt hh) (by omega) hM hc) (h G M) (2 ^ r) 0 (2 ^ r + 1) (by omega) (by omega)
theorem gx_isconf {post : Int32 → Prop} {p : Int32} (h6 : r ≤ 6) (h1 : gw_bl p (2 ^ r) → post 1) (h0 : ¬ gw_bl p (2 ^ r) → post 0) : wpX_isConfiguration post (nI m, nI s, nI r, tl, pe, K, X, Y, Z, F, H, xO, xN, xC, xS, xL, xE, xG, xW, xM, xP) p := by
  unfold wpX_isConfiguration
  dsimp only
  rw [gw_pow (by omega)]
  exact gw_blc (by have := gw_p6 h6; omega) h1 h0
theorem gx_soon {post : Int32 → SX → Prop} {c : Nat} (hm : m ≤ 32) (hW : gw_W K X Y Z F m) (hs : s = gw_cnt (gw_sk K) m) (hr : r = gw_cnt (gw_rk K) m) (h10 : s ≤ 10) (h6 : r ≤ 6) (hc : c < 2 ^ r) (h : ∀ G M, gw_Fin (gw_E K X Y Z F m (2 ^ gw_q K m)) (2 ^ r) M → post (M c) (nI m, nI s, nI r, tl, pe, K, X, Y, Z, F, H, xO, xN, xC, xS, xL, xE, G, xW, M, xP)) : wpX_soonest post (nI m, nI s, nI r, tl, pe, K, X, Y, Z, F, H, xO, xN, xC, xS, xL, xE, xG, xW, xM, xP) (nI c) := by
  have hp := gw_p6 h6
  have cc : (nI c).toNatClampNeg = c := nI_clamp (by omega)
  unfold wpX_soonest
  dsimp only
  refine gx_isconf h6 (fun _ => br_f gw_n10 (gx_goes hm hW hs hr h10 (fun G hG => gx_come hs hr h10 h6 hG (fun M hM => ?_)))) (fun q => absurd ⟨c, hc, rfl⟩ q)
  dsimp only
  rw [cc]
  exact ⟨vp_in_nI (by omega) (by omega), h G M hM⟩
theorem gx_alarm_l {post : Int32 → SX → Prop} {N Q R net : Nat} (hs : s = gw_cnt (gw_sk K) m) (hr : r = gw_cnt (gw_rk K) m) (h10 : s ≤ 10) (h6 : r ≤ 6) (hN : N = 2 ^ s) (hQ : Q = 2 ^ gw_q K m) (hRR : R = 2 ^ r) (hF : gw_Fin (gw_E K X Y Z F m Q) R xM) (hV : ∀ c w, c < 2 ^ r → w < 2 ^ gw_q K m → xW (c * 2 ^ gw_q K m + w) = gw_b (gw_sh K X Y Z m net w c)) (h : ∀ L, gw_Mn (gw_GX K X Y Z F m net Q N) L → post L (nI m, nI s, nI r, tl, pe, K, X, Y, Z, F, H, xO, xN, xC, xS, xL, xE, xG, xW, xM, xP)) : ∀ d x g L, x + d = N → d < g → gw_Mn (gw_GX K X Y Z F m net Q x) L → wX_alarm_46 post (nI (gw_q K m)) (nI N) (nI m) (nI s) (nI r) tl pe K X Y Z F H xO xN xC xS xL xE xG xW xM xP g L (nI x) := by
  have es := gw_srq hs hr
  have hN2 : N ≤ 1024 := by rw [hN]; exact gw_p10 h10
  have hR2 : R ≤ 64 := by rw [hRR]; exact gw_p6 h6
  have hR0 : 0 < R := by rw [hRR]; exact Nat.two_pow_pos r
  have hQ0 : 0 < Q := by rw [hQ]; exact Nat.two_pow_pos _
  have hE : ∀ c d, gw_E K X Y Z F m Q c d → d < R := fun c d hh => by rw [hRR, hr]; exact gw_E_lt hh
  intro d
  induction d with
  | zero =>
    intro x g L h1 h2 hL
    obtain ⟨g, rfl⟩ := gw_fz h2
    have e : x = N := by omega
    subst e
    rw [wX_alarm_46]
    exact br_t (nI_le (by omega) (by omega)) (h L hL)
  | succ d ih =>
    intro x g L h1 h2 hL
    obtain ⟨g, rfl⟩ := gw_fz h2
    have hc : x / Q < R := by
      rw [Nat.div_lt_iff_lt_mul hQ0, hRR, hQ, ← Nat.pow_add, ← es, ← hN]
      omega
    have hw : x % Q < Q := Nat.mod_lt _ hQ0
    have hx : x / Q * Q + x % Q = x := Nat.div_add_mod' x Q
    have cx : (nI x).toNatClampNeg = x := nI_clamp (by omega)
    have cd : (nI (x / Q)).toNatClampNeg = x / Q := nI_clamp (by omega)
    have vx : vp_in (nI x) 1024 := vp_in_nI (by omega) (by omega)
    have hsh : xW x = gw_b (gw_sh K X Y Z m net (x % Q) (x / Q)) := by
      have g := hV (x / Q) (x % Q) (by omega) (by omega)
      rw [← hQ, hx] at g
      exact g
    have skip : (∀ t, gw_D (gw_E K X Y Z F m Q) (x / Q) t → gw_sh K X Y Z m net (x % Q) (x / Q) = true → False) → gw_Mn (gw_GX K X Y Z F m net Q (x + 1)) L := by
      intro hno
      refine gw_Mn_e hL (fun t => ⟨fun ⟨y, h3, h4, h5⟩ => ⟨y, by omega, h4, h5⟩, fun ⟨y, h3, h4, h5⟩ => ?_⟩)
      by_cases ey : y = x
      · subst ey; exact (hno t h5 h4).elim
      · exact ⟨y, by omega, h4, h5⟩
    have sh2 : nI x >>> (nI (gw_q K m) &&& 31) = nI (x / Q) := by
      rw [pk_shrN (by omega) (nI (gw_q K m) &&& 31) (gw_q K m) (s_l _ (by omega)), hQ]
    rw [wX_alarm_46]
    refine br_f (nI_ge (by omega) (by omega)) ?_
    rw [sh2, cd, cx, hsh]
    refine ⟨vp_in_nI (by omega) (by omega), nm_e ⟨vx, ?_⟩⟩
    cases hb : gw_sh K X Y Z m net (x % Q) (x / Q) with
    | false => exact br_f (by decide) (nm_r (nI_1 x) (ih (x + 1) g L (by omega) (by omega) (skip (fun t _ q => by rw [hb] at q; exact absurd q Bool.false_ne_true))))
    | true =>
      refine br_t rfl ?_
      rcases gw_Fin_v hR0 hE hF hc with e | ⟨k, hk, e⟩
      · rw [e]
        refine br_t rfl (nm_r (nI_1 x) (ih (x + 1) g L (by omega) (by omega) (skip (fun t q _ => ?_))))
        exact (gw_Fin_ne hR0 hE (by omega) hF hc).mp e ⟨t, q⟩
      · have hD : ∀ t, gw_D (gw_E K X Y Z F m Q) (x / Q) t ↔ t = k := by
          intro t
          have hex : ∃ t, gw_D (gw_E K X Y Z F m Q) (x / Q) t := Classical.byContradiction (fun n => by
            have := (gw_Fin_ne hR0 hE (by omega) hF hc).mpr n
            rw [e] at this
            exact gw_m1 (by omega) this)
          obtain ⟨t', ht'⟩ := hex
          have := (hF (x / Q) hc).1 t' ht'
          rw [e, nI_eq (by omega) (by have := gw_D_lt hR0 hE ht'; omega)] at this
          subst this
          exact ⟨fun q => gw_D_u q ht', fun q => by rw [q]; exact ht'⟩
        have hG : ∀ t, (gw_GX K X Y Z F m net Q x t ∨ t = k) ↔ gw_GX K X Y Z F m net Q (x + 1) t := by
          intro t
          constructor
          · rintro (⟨y, h3, h4, h5⟩ | q)
            · exact ⟨y, by omega, h4, h5⟩
            · exact ⟨x, by omega, hb, (hD t).mpr q⟩
          · rintro ⟨y, h3, h4, h5⟩
            by_cases ey : y = x
            · subst ey; exact Or.inr ((hD t).mp h5)
            · exact Or.inl ⟨y, by omega, h4, h5⟩
        rw [e]
        refine br_f (gw_m1 (by omega)) (br_c (fun q => nm_r (nI_1 x) (ih (x + 1) g _ (by omega) (by omega) (gw_Mn_e (gw_Mn_take hL (by omega) (Or.inl q)) hG))) (fun q => br_c (fun q2 => nm_r (nI_1 x) (ih (x + 1) g _ (by omega) (by omega) (gw_Mn_e (gw_Mn_keep hL (by omega) q (Int32.not_lt.mpr q2)) hG))) (fun q2 => nm_r (nI_1 x) (ih (x + 1) g _ (by omega) (by omega) (gw_Mn_e (gw_Mn_take hL (by omega) (Or.inr (Int32.not_le.mp q2))) hG)))))
theorem gx_alarm {post : Int32 → SX → Prop} {net : Nat} (hm : m ≤ 32) (hW : gw_W K X Y Z F m) (hn : net < m) (hs : s = gw_cnt (gw_sk K) m) (hr : r = gw_cnt (gw_rk K) m) (h10 : s ≤ 10) (h6 : r ≤ 6) (h : ∀ G M W L, gw_Mn (gw_GX K X Y Z F m net (2 ^ gw_q K m) (2 ^ s)) L → post L (nI m, nI s, nI r, tl, pe, K, X, Y, Z, F, H, xO, xN, xC, xS, xL, xE, G, W, M, xP)) : wpX_alarm post (nI m, nI s, nI r, tl, pe, K, X, Y, Z, F, H, xO, xN, xC, xS, xL, xE, xG, xW, xM, xP) (nI net) := by
  unfold wpX_alarm
  dsimp only
  refine gx_net hm hn (br_f gw_n10 (gx_goes hm hW hs hr h10 (fun G hG => gx_come hs hr h10 h6 hG (fun M hM => gx_shows hm hW hn hs hr h10 (fun W hV => ?_)))))
  refine nm_r (gx_inp hs hr) (nm_r (gw_pow (by omega)) ⟨2 ^ s + 1, ?_⟩)
  exact gx_alarm_l hs hr h10 h6 rfl rfl rfl hM hV (fun L hL => h G M W L hL) (2 ^ s) 0 (2 ^ s + 1) (-1) (by omega) (by omega) (gw_Mn_0 (fun t ⟨y, hy, _⟩ => absurd hy (Nat.not_lt_zero _)))
end
section
variable {m s r : Nat} {K X Y Z F H yA yO yS yR yL yN yD yT yM yF yW yP : Nat → Int32}
theorem gy_confs_l {post : Int32 → SY → Prop} {P : Nat → Prop} (hM : ∀ c, c < 64 → (yN c < 0 ↔ ¬ P c)) (h : post (nI (gw_cnt (gw_dc P) 64)) (nI m, nI s, nI r, K, X, Y, Z, F, H, yA, yO, yS, yR, yL, yN, yD, yT, yM, yF, yW, yP)) : ∀ d c g, c + d = 64 → d < g → wY_configurations_9 post (nI m) (nI s) (nI r) K X Y Z F H yA yO yS yR yL yN yD yT yM yF yW yP g (nI (gw_cnt (gw_dc P) c)) (nI c) := by
  intro d
  induction d with
  | zero =>
    intro c g h1 h2
    obtain ⟨g, rfl⟩ := gw_fz h2
    have e : c = 64 := by omega
    subst e
    rw [wY_configurations_9]
    exact br_t (nI_le (a := 64) (by omega) (by omega)) h
  | succ d ih =>
    intro c g h1 h2
    obtain ⟨g, rfl⟩ := gw_fz h2
    have cc : (nI c).toNatClampNeg = c := nI_clamp (by omega)
    have ihn := ih (c + 1) g (by omega) (by omega)
    rw [wY_configurations_9]
    refine br_f (nI_ge (b := 64) (by omega) (by decide)) ⟨vp_in_nI (by omega) (by omega), ?_⟩
    rw [cc]
    refine br_c (fun q => nm_r (nI_1 c) ?_) (fun q => nm_r (nI_1 _) (nm_r (nI_1 c) ?_))
    · rw [gw_dc_sf ((hM c (by omega)).mp q)] at ihn
      exact ihn
    · rw [gw_dc_st (Classical.byContradiction (fun n => q ((hM c (by omega)).mpr n)))] at ihn
      exact ihn
theorem gy_confs {post : Int32 → SY → Prop} (hm : m ≤ 32) (hW : gw_W K X Y Z F m) (hs : s = gw_cnt (gw_sk K) m) (h10 : s ≤ 10) (hS : gw_En (gw_sk K) yS m) (hr : r = gw_cnt (gw_rk K) m) (h6 : r ≤ 6) (hR : gw_En (gw_rk K) yR m) (h : ∀ A B C M, post (nI (gw_cnt (gw_dc (fun c => ∃ t, gw_D (gw_E K X Y Z F m (2 ^ gw_q K m)) c t)) (2 ^ r))) (nI m, nI s, nI r, K, X, Y, Z, F, H, A, yO, yS, yR, yL, M, yD, yT, yM, B, C, yP)) : wpY_configurations post (nI m, nI s, nI r, K, X, Y, Z, F, H, yA, yO, yS, yR, yL, yN, yD, yT, yM, yF, yW, yP) := by
  unfold wpY_configurations
  dsimp only
  refine gy_explore (V := fun _ => false) hm hW hs h10 hS hr h6 hR (Or.inl ⟨by decide, fun _ => rfl⟩) (fun A B C M hC hM hhi => ⟨65, ?_⟩)
  have hp := gw_p6 h6
  have hE : ∀ c d, gw_E K X Y Z F m (2 ^ gw_q K m) c d → d < 2 ^ r := fun c d hh => by rw [hr]; exact gw_E_lt hh
  have noD : ∀ c, 2 ^ r ≤ c → ¬ ∃ t, gw_D (gw_E K X Y Z F m (2 ^ gw_q K m)) c t := by
    rintro c hc ⟨t, ht⟩
    have := gw_R_in (Nat.two_pow_pos r) hE t c ht.1
    omega
  have e := gw_dc_up (P := fun c => ∃ t, gw_D (gw_E K X Y Z F m (2 ^ gw_q K m)) c t) hp (fun j h1 h2 => noD j h1)
  refine gy_confs_l (P := fun c => ∃ t, gw_D (gw_E K X Y Z F m (2 ^ gw_q K m)) c t) (fun c hc => ?_) ?_ 64 0 65 (by omega) (by omega)
  · show M c < 0 ↔ ¬ ∃ t, gw_D (gw_E K X Y Z F m (2 ^ gw_q K m)) c t
    rcases Nat.lt_or_ge c (2 ^ r) with l | l
    · rw [gw_Fin_lt (Nat.two_pow_pos r) hE (by omega) hM l]
      exact gw_Fin_ne (Nat.two_pow_pos r) hE (by omega) hM l
    · rw [hhi c l hc]
      exact ⟨fun _ => noD c l, fun _ => by decide⟩
  · rw [e]
    exact h A B C M
theorem gy_soon {post : Int32 → SY → Prop} {c : Nat} (hm : m ≤ 32) (hW : gw_W K X Y Z F m) (hs : s = gw_cnt (gw_sk K) m) (h10 : s ≤ 10) (hS : gw_En (gw_sk K) yS m) (hr : r = gw_cnt (gw_rk K) m) (h6 : r ≤ 6) (hR : gw_En (gw_rk K) yR m) (hc : c < 2 ^ r) (h : ∀ A B C M, gw_Fin (gw_E K X Y Z F m (2 ^ gw_q K m)) (2 ^ r) M → post (M c) (nI m, nI s, nI r, K, X, Y, Z, F, H, A, yO, yS, yR, yL, M, yD, yT, yM, B, C, yP)) : wpY_soonest post (nI m, nI s, nI r, K, X, Y, Z, F, H, yA, yO, yS, yR, yL, yN, yD, yT, yM, yF, yW, yP) (nI c) := by
  have hp := gw_p6 h6
  have cc : (nI c).toNatClampNeg = c := nI_clamp (by omega)
  unfold wpY_soonest
  dsimp only
  rw [gw_pow (by omega)]
  refine gy_bl (by omega) (fun _ => br_f gw_n10 (gy_explore (V := fun _ => false) hm hW hs h10 hS hr h6 hR (Or.inl ⟨by decide, fun _ => rfl⟩) (fun A B C M hC hM hhi => ?_))) (fun q => absurd ⟨c, hc, rfl⟩ q)
  dsimp only
  rw [cc]
  exact ⟨vp_in_nI (by omega) (by omega), h A B C M hM⟩
theorem gy_alarm_l {post : Int32 → SY → Prop} {N Q R : Nat} {V : Nat → Bool} (hm : m ≤ 32) (hs : s = gw_cnt (gw_sk K) m) (h10 : s ≤ 10) (hS : gw_En (gw_sk K) yS m) (hr : r = gw_cnt (gw_rk K) m) (h6 : r ≤ 6) (hN : N = 2 ^ s) (hQ : Q = 2 ^ gw_q K m) (hRR : R = 2 ^ r) (hF : gw_Fin (gw_E K X Y Z F m Q) R yN) (hV : ∀ b, b < N → yW b = gw_b (V b)) (h : ∀ L, gw_Mn (gw_GY K X Y Z F m Q V N) L → post L (nI m, nI s, nI r, K, X, Y, Z, F, H, yA, yO, yS, yR, yL, yN, yD, yT, yM, yF, yW, yP)) : ∀ d x g L, x + d = N → d < g → gw_Mn (gw_GY K X Y Z F m Q V x) L → wY_alarm_19 post (nI m) (nI s) (nI r) K X Y Z F H yA yO yS yR yL yN yD yT yM yF yW yP g L (nI x) := by
  have hN2 : N ≤ 1024 := by rw [hN]; exact gw_p10 h10
  have hR2 : R ≤ 64 := by rw [hRR]; exact gw_p6 h6
  have hR0 : 0 < R := by rw [hRR]; exact Nat.two_pow_pos r
  have hE : ∀ c d, gw_E K X Y Z F m Q c d → d < R := fun c d hh => by rw [hRR, hr]; exact gw_E_lt hh
  intro d
  induction d with
  | zero =>
    intro x g L h1 h2 hL
    obtain ⟨g, rfl⟩ := gw_fz h2
    have e : x = N := by omega
    subst e
    rw [wY_alarm_19, gw_pow (by omega), ← hN]
    exact br_t (nI_le (by omega) (by omega)) (h L hL)
  | succ d ih =>
    intro x g L h1 h2 hL
    obtain ⟨g, rfl⟩ := gw_fz h2
    have hc : gw_co K m x < R := by rw [hRR, hr]; exact gw_co_lt K m x
    have cx : (nI x).toNatClampNeg = x := nI_clamp (by omega)
    have cd : (nI (gw_co K m x)).toNatClampNeg = gw_co K m x := nI_clamp (by omega)
    have vx : vp_in (nI x) 1024 := vp_in_nI (by omega) (by omega)
    have skip : (∀ t, gw_D (gw_E K X Y Z F m Q) (gw_co K m x) t → V x = true → False) → gw_Mn (gw_GY K X Y Z F m Q V (x + 1)) L := by
      intro hno
      refine gw_Mn_e hL (fun t => ⟨fun ⟨y, h3, h4, h5⟩ => ⟨y, by omega, h4, h5⟩, fun ⟨y, h3, h4, h5⟩ => ?_⟩)
      by_cases ey : y = x
      · subst ey; exact (hno t h5 h4).elim
      · exact ⟨y, by omega, h4, h5⟩
    rw [wY_alarm_19, gw_pow (by omega), ← hN]
    refine br_f (nI_ge (by omega) (by omega)) (gy_cof hm (by omega) hs h10 hS ?_)
    rw [cd, cx, hV x (by omega)]
    refine ⟨vp_in_nI (by omega) (by omega), nm_e ⟨vx, ?_⟩⟩
    cases hb : V x with
    | false => exact br_t rfl (nm_r (nI_1 x) (ih (x + 1) g L (by omega) (by omega) (skip (fun t _ q => by rw [hb] at q; exact absurd q Bool.false_ne_true))))
    | true =>
      refine br_f (by decide) ?_
      rcases gw_Fin_v hR0 hE hF hc with e | ⟨k, hk, e⟩
      · rw [e]
        refine br_t (by decide) (nm_r (nI_1 x) (ih (x + 1) g L (by omega) (by omega) (skip (fun t q _ => ?_))))
        exact (gw_Fin_ne hR0 hE (by omega) hF hc).mp e ⟨t, q⟩
      · have hD : ∀ t, gw_D (gw_E K X Y Z F m Q) (gw_co K m x) t ↔ t = k := by
          intro t
          have hex : ∃ t, gw_D (gw_E K X Y Z F m Q) (gw_co K m x) t := Classical.byContradiction (fun n => by
            have := (gw_Fin_ne hR0 hE (by omega) hF hc).mpr n
            rw [e] at this
            exact gw_m1 (by omega) this)
          obtain ⟨t', ht'⟩ := hex
          have := (hF (gw_co K m x) hc).1 t' ht'
          rw [e, nI_eq (by omega) (by have := gw_D_lt hR0 hE ht'; omega)] at this
          subst this
          exact ⟨fun q => gw_D_u q ht', fun q => by rw [q]; exact ht'⟩
        have hG : ∀ t, (gw_GY K X Y Z F m Q V x t ∨ t = k) ↔ gw_GY K X Y Z F m Q V (x + 1) t := by
          intro t
          constructor
          · rintro (⟨y, h3, h4, h5⟩ | q)
            · exact ⟨y, by omega, h4, h5⟩
            · exact ⟨x, by omega, hb, (hD t).mpr q⟩
          · rintro ⟨y, h3, h4, h5⟩
            by_cases ey : y = x
            · subst ey; exact Or.inr ((hD t).mp h5)
            · exact Or.inl ⟨y, by omega, h4, h5⟩
        rw [e]
        refine br_f (nI_pos (by omega)) (br_c (fun q => nm_r (nI_1 x) (ih (x + 1) g _ (by omega) (by omega) (gw_Mn_e (gw_Mn_take hL (by omega) (Or.inl ((gw_Mn_neg hL).mp q))) hG))) (fun q => br_c (fun q2 => nm_r (nI_1 x) (ih (x + 1) g _ (by omega) (by omega) (gw_Mn_e (gw_Mn_keep hL (by omega) (fun q3 => q ((gw_Mn_neg hL).mpr q3)) (Int32.not_lt.mpr q2)) hG))) (fun q2 => nm_r (nI_1 x) (ih (x + 1) g _ (by omega) (by omega) (gw_Mn_e (gw_Mn_take hL (by omega) (Or.inr (Int32.not_le.mp q2))) hG)))))
theorem gy_alarm {post : Int32 → SY → Prop} {net : Nat} (hm : m ≤ 32) (hW : gw_W K X Y Z F m) (hn : net < m) (hs : s = gw_cnt (gw_sk K) m) (h10 : s ≤ 10) (hS : gw_En (gw_sk K) yS m) (hr : r = gw_cnt (gw_rk K) m) (h6 : r ≤ 6) (hR : gw_En (gw_rk K) yR m) (h : ∀ A B C M L, gw_Mn (gw_GY K X Y Z F m (2 ^ gw_q K m) (gw_T K X Y Z m net) (2 ^ s)) L → post L (nI m, nI s, nI r, K, X, Y, Z, F, H, A, yO, yS, yR, yL, M, yD, yT, yM, B, C, yP)) : wpY_alarm post (nI m, nI s, nI r, K, X, Y, Z, F, H, yA, yO, yS, yR, yL, yN, yD, yT, yM, yF, yW, yP) (nI net) := by
  unfold wpY_alarm
  dsimp only
  refine gy_net hm hn (br_f gw_n10 (gy_explore (V := gw_T K X Y Z m net) hm hW hs h10 hS hr h6 hR (Or.inr ⟨net, hn, rfl, fun _ => rfl⟩) (fun A B C M hC hM hhi => ⟨2 ^ s + 1, ?_⟩)))
  exact gy_alarm_l hm hs h10 hS hr h6 rfl rfl rfl hM hC (fun L hL => h A B C M L hL) (2 ^ s) 0 (2 ^ s + 1) (-1) (by omega) (by omega) (gw_Mn_0 (fun t ⟨y, hy, _⟩ => absurd hy (Nat.not_lt_zero _)))
end
theorem i_vc_configurations {k : Nat} {u : SX} {v : SY} (I : i_Rel k u v) (hk : k + 6 ≤ 3072) : wpX_configurations (fun r u' => wpY_configurations (fun r' v' => r' = r ∧ i_Rel (k + 6) u' v') v) u := by
  have J : i_Rel (k + 6) u v := I
  obtain ⟨m, K, X, Y, Z, F, H, ⟨hm, hW, h01, h10, h6⟩, ⟨tl, pe, xO, xN, xC, xS, xL, xE, xG, xW, xM, xP, rfl⟩, ⟨yA, yO, yS, yR, yL, yN, yD, yT, yM, yF, yW, yP, rfl, hS, hR⟩⟩ := I
  exact gx_confs hm hW rfl rfl h10 h6 (fun G M => gy_confs hm hW rfl h10 hS rfl h6 hR (fun A B C M' => ⟨rfl, gw_rel ⟨hm, hW, h01, h10, h6⟩ hS hR⟩))
theorem i_vc_soonest {k : Nat} {u : SX} {v : SY} (I : i_Rel k u v) (hk : k + 6 ≤ 3072) (v1 : Int32) : wpX_soonest (fun r u' => wpY_soonest (fun r' v' => r' = r ∧ i_Rel (k + 6) u' v') v v1) u v1 := by
  have J : i_Rel (k + 6) u v := I
  obtain ⟨m, K, X, Y, Z, F, H, ⟨hm, hW, h01, h10, h6⟩, ⟨tl, pe, xO, xN, xC, xS, xL, xE, xG, xW, xM, xP, rfl⟩, ⟨yA, yO, yS, yR, yL, yN, yD, yT, yM, yF, yW, yP, rfl, hS, hR⟩⟩ := I
  have hp := gw_p6 h6
  by_cases c : gw_bl v1 (2 ^ gw_cnt (gw_rk K) m)
  · obtain ⟨c, hc, rfl⟩ := c
    exact gx_soon hm hW rfl rfl h10 h6 hc (fun G M hM => gy_soon hm hW rfl h10 hS rfl h6 hR hc (fun A B C M' hM' => ⟨gw_Fin_u hM' hM hc, gw_rel ⟨hm, hW, h01, h10, h6⟩ hS hR⟩))
  · unfold wpX_soonest wpY_soonest
    dsimp only
    refine gx_isconf h6 (fun q => absurd q c) (fun _ => br_t rfl ?_)
    rw [gw_pow (by omega)]
    exact gy_bl (by omega) (fun q => absurd q c) (fun _ => br_t rfl ⟨rfl, J⟩)
theorem i_vc_alarm {k : Nat} {u : SX} {v : SY} (I : i_Rel k u v) (hk : k + 6 ≤ 3072) (v1 : Int32) : wpX_alarm (fun r u' => wpY_alarm (fun r' v' => r' = r ∧ i_Rel (k + 6) u' v') v v1) u v1 := by
  have J : i_Rel (k + 6) u v := I
  obtain ⟨m, K, X, Y, Z, F, H, ⟨hm, hW, h01, h10, h6⟩, ⟨tl, pe, xO, xN, xC, xS, xL, xE, xG, xW, xM, xP, rfl⟩, ⟨yA, yO, yS, yR, yL, yN, yD, yT, yM, yF, yW, yP, rfl, hS, hR⟩⟩ := I
  rcases gw_net (x := v1) (m := m) (by omega) with ⟨n, hn, rfl⟩ | hx
  · exact gx_alarm hm hW hn rfl rfl h10 h6 (fun G M W L hL => gy_alarm hm hW hn rfl h10 hS rfl h6 hR (fun A B C M' L' hL' => ⟨gw_Mn_u hL' hL (fun t => gw_GXY.symm), gw_rel ⟨hm, hW, h01, h10, h6⟩ hS hR⟩))
  · unfold wpX_alarm wpY_alarm
    dsimp only
    exact gx_nonet hx (br_t rfl (gy_nonet hm hx (br_t rfl ⟨rfl, J⟩)))
end
section
/-! how soon two configurations are apart, in the component -/
theorem gw_pr64 (a b : Nat) : (nI a * 64 : Int32) + nI b = nI (a * 64 + b) := by
  rw [← nI_add, ← pk_mul]; rfl
theorem gw_pl64 (a b : Nat) : ((64 : Int32) * nI a) + nI b = nI (a * 64 + b) := by
  rw [Nat.mul_comm a 64, ← nI_add, ← pk_mul]; rfl
theorem gw_pr_lt {c d : Nat} (hc : c < 64) (hd : d < 64) : c * 64 + d < 4096 := by omega
/-- the table is told for both orders -/
def gw_Sy (N : Nat) (a : Nat → Int32) : Prop := ∀ x y, x < N → y < N → a (x * 64 + y) = gw_rd a x y
theorem gw_Sy_mark {N c d : Nat} {a : Nat → Int32} {v : Int32} (hN : N ≤ 64) (h : gw_Sy N a) (hd : d < c) (hc : c < N) : gw_Sy N (upd (upd a (c * 64 + d) v) (d * 64 + c) v) := by
  intro x y hx hy
  have hxy := h x y hx hy
  unfold gw_rd at hxy ⊢
  rcases Nat.lt_trichotomy x y with g | g | g
  · rw [if_neg (by omega), if_pos g] at hxy ⊢
    by_cases e : x = d ∧ y = c
    · obtain ⟨rfl, rfl⟩ := e
      rw [pk_us, pk_un (by omega), pk_us]
    · have n1 : x * 64 + y ≠ d * 64 + c := fun q => e (gw_pair (by omega) (by omega) q)
      have n2 : x * 64 + y ≠ c * 64 + d := fun q => by
        have := gw_pair (by omega) (by omega) q
        omega
      have n3 : y * 64 + x ≠ d * 64 + c := fun q => by
        have := gw_pair (by omega) (by omega) q
        omega
      have n4 : y * 64 + x ≠ c * 64 + d := fun q => by
        have := gw_pair (by omega) (by omega) q
        exact e ⟨this.2, this.1⟩
      rw [pk_un n1, pk_un n2, pk_un n3, pk_un n4]
      exact hxy
  · subst g
    rw [if_neg (by omega), if_neg (by omega)] at hxy ⊢
    have n1 : x * 64 + x ≠ d * 64 + c := fun q => by
      have := gw_pair (by omega) (by omega) q
      omega
    have n2 : x * 64 + x ≠ c * 64 + d := fun q => by
      have := gw_pair (by omega) (by omega) q
      omega
    rw [pk_un n1, pk_un n2]
    exact hxy
  · rw [if_pos g]
section
variable {L : Nat} {stp : Nat → Nat → Nat} {sh : Nat → Nat → Bool}
theorem gw_AS_upper {N t c d : Nat} {P : Nat → Nat → Prop} {a : Nat → Int32} {v : Int32} (hN : N ≤ 64) (h : gw_AS L stp sh N t P a) (hd : d < c) (hc : c < N) : gw_AS L stp sh N t P (upd a (d * 64 + c) v) := by
  intro x y hx hy
  have n1 : x * 64 + y ≠ d * 64 + c := fun q => by
    have := gw_pair (by omega) (by omega) q
    omega
  rw [pk_un n1]
  exact h x y hx hy
/-- what the first pass writes of a pair -/
def gw_I0 (L : Nat) (stp : Nat → Nat → Nat) (sh : Nat → Nat → Bool) (a : Nat → Int32) (x y : Nat) : Prop := (gw_A L stp sh 0 x y ∧ a (x * 64 + y) = 0) ∨ (¬ gw_A L stp sh 0 x y ∧ a (x * 64 + y) = -1)
theorem gw_I0_AS {N : Nat} {a : Nat → Int32} (h : ∀ x y, x < N → y < N → gw_I0 L stp sh a x y) : gw_AS L stp sh N 1 (fun _ _ => False) a := by
  intro x y hx hy
  refine ⟨fun s hs hb => ?_, fun hn => ⟨fun f => f.elim, fun _ => ?_⟩⟩
  · have e : s = 0 := by omega
    subst e
    rcases h x y hy (by omega) with ⟨_, e⟩ | ⟨n, _⟩
    · rw [e]; rfl
    · exact absurd hb.1 n
  · rcases h x y hy (by omega) with ⟨p, _⟩ | ⟨_, e⟩
    · exact absurd (gw_B_0.mpr p) (hn 0 (by omega))
    · exact e
theorem gw_I0_Sy {N : Nat} {a : Nat → Int32} (h : ∀ x y, x < N → y < N → gw_I0 L stp sh a x y) : gw_Sy N a := by
  intro x y hx hy
  unfold gw_rd
  rcases Nat.lt_trichotomy x y with g | g | g
  · rw [if_neg (by omega), if_pos g]
    rcases h x y hx hy with ⟨p, e⟩ | ⟨p, e⟩ <;> rcases h y x hy hx with ⟨p', e'⟩ | ⟨p', e'⟩
    · rw [e, e']
    · exact absurd (gw_A_sym _ _ _ p) p'
    · exact absurd (gw_A_sym _ _ _ p') p
    · rw [e, e']
  · subst g
    rw [if_neg (by omega), if_neg (by omega)]
    rcases h x x hx hx with ⟨p, _⟩ | ⟨_, e⟩
    · exact absurd p (gw_A_irr 0 x)
    · exact e
  · rw [if_pos g]
end
section
variable {m s r : Nat} {tl pe : Int32} {K X Y Z F H xO xN xC xS xL xE xG xW xM xP : Nat → Int32}
theorem gx_sd_l {post : Int32 → Prop} {Q c e net : Nat} (hs : s = gw_cnt (gw_sk K) m) (hr : r = gw_cnt (gw_rk K) m) (h10 : s ≤ 10) (hQ : Q = 2 ^ gw_q K m) (hc : c < 2 ^ r) (he : e < 2 ^ r) (hV : ∀ c w, c < 2 ^ r → w < 2 ^ gw_q K m → xW (c * 2 ^ gw_q K m + w) = gw_b (gw_sh K X Y Z m net w c)) (h : ∀ z, gw_tv (∃ w, w < Q ∧ gw_sh K X Y Z m net w c ≠ gw_sh K X Y Z m net w e) z → post z) : ∀ d w g, w + d = Q → d < g → (∀ w', w' < w → gw_sh K X Y Z m net w' c = gw_sh K X Y Z m net w' e) → wX_showsDiffer_18 post (nI c) (nI e) (nI (gw_q K m)) (nI Q) (nI m) (nI s) (nI r) tl pe K X Y Z F H xO xN xC xS xL xE xG xW xM xP g (nI w) := by
  have es := gw_srq hs hr
  have hQ2 : Q ≤ 1024 := by rw [hQ]; exact gw_p10 (by omega)
  intro d
  induction d with
  | zero =>
    intro w g h1 h2 h3
    obtain ⟨g, rfl⟩ := gw_fz h2
    rw [wX_showsDiffer_18]
    refine br_t (nI_le (by omega) (by omega)) (h 0 (gw_tv_f ?_))
    rintro ⟨w', h4, h5⟩
    exact h5 (h3 w' (by omega))
  | succ d ih =>
    intro w g h1 h2 h3
    obtain ⟨g, rfl⟩ := gw_fz h2
    obtain ⟨e1, e2, e3⟩ := gw_cell10 (K := K) (m := m) hs hr h10 (c := c) (w := w) hc (by omega)
    obtain ⟨f1, f2, f3⟩ := gw_cell10 (K := K) (m := m) hs hr h10 (c := e) (w := w) he (by omega)
    have cc : (nI (c * 2 ^ gw_q K m + w)).toNatClampNeg = c * 2 ^ gw_q K m + w := nI_clamp (by omega)
    have ce : (nI (e * 2 ^ gw_q K m + w)).toNatClampNeg = e * 2 ^ gw_q K m + w := nI_clamp (by omega)
    rw [wX_showsDiffer_18]
    dsimp only
    rw [e1, f1, cc, ce, hV c w hc (by omega), hV e w he (by omega), gw_b_inj]
    exact br_f (nI_ge (by omega) (by omega)) ⟨vp_in_nI (by omega) (by omega), vp_in_nI (by omega) (by omega), br_c (fun q => nm_r (nI_1 w) (ih (w + 1) g (by omega) (by omega) (lt_s h3 q))) (fun q => h 1 (gw_tv_t ⟨w, by omega, q⟩))⟩
theorem gx_sd {post : Int32 → Prop} {c e net : Nat} (hs : s = gw_cnt (gw_sk K) m) (hr : r = gw_cnt (gw_rk K) m) (h10 : s ≤ 10) (hc : c < 2 ^ r) (he : e < 2 ^ r) (hV : ∀ c w, c < 2 ^ r → w < 2 ^ gw_q K m → xW (c * 2 ^ gw_q K m + w) = gw_b (gw_sh K X Y Z m net w c)) (h : ∀ z, gw_tv (∃ w, w < 2 ^ gw_q K m ∧ gw_sh K X Y Z m net w c ≠ gw_sh K X Y Z m net w e) z → post z) : wpX_showsDiffer post (nI m, nI s, nI r, tl, pe, K, X, Y, Z, F, H, xO, xN, xC, xS, xL, xE, xG, xW, xM, xP) (nI c) (nI e) := by
  have es := gw_srq hs hr
  unfold wpX_showsDiffer
  dsimp only
  exact nm_r (gx_inp hs hr) (nm_r (gw_pow (by omega)) ⟨2 ^ gw_q K m + 1, gx_sd_l hs hr h10 rfl hc he hV h (2 ^ gw_q K m) 0 _ (by omega) (by omega) (fun w hw => absurd hw (Nat.not_lt_zero _))⟩)
theorem gx_la_l {post : Int32 → Prop} {Q c e : Nat} {v : Int32} (hs : s = gw_cnt (gw_sk K) m) (hr : r = gw_cnt (gw_rk K) m) (h10 : s ≤ 10) (h6 : r ≤ 6) (hQ : Q = 2 ^ gw_q K m) (hc : c < 2 ^ r) (he : e < 2 ^ r) (hG : ∀ c w, c < 2 ^ r → w < 2 ^ gw_q K m → xG (c * 2 ^ gw_q K m + w) = nI (gw_stp K X Y Z F m w c)) (h : ∀ z, gw_tv (∃ w, w < Q ∧ xP (gw_stp K X Y Z F m w c * 64 + gw_stp K X Y Z F m w e) = v) z → post z) : ∀ d w g, w + d = Q → d < g → (∀ w', w' < w → xP (gw_stp K X Y Z F m w' c * 64 + gw_stp K X Y Z F m w' e) ≠ v) → wX_leadsApart_20 post (nI c) (nI e) v (nI (gw_q K m)) (nI Q) (nI m) (nI s) (nI r) tl pe K X Y Z F H xO xN xC xS xL xE xG xW xM xP g (nI w) := by
  have es := gw_srq hs hr
  have hQ2 : Q ≤ 1024 := by rw [hQ]; exact gw_p10 (by omega)
  have hR2 := gw_p6 h6
  intro d
  induction d with
  | zero =>
    intro w g h1 h2 h3
    obtain ⟨g, rfl⟩ := gw_fz h2
    rw [wX_leadsApart_20]
    refine br_t (nI_le (by omega) (by omega)) (h 0 (gw_tv_f ?_))
    rintro ⟨w', h4, h5⟩
    exact h3 w' (by omega) h5
  | succ d ih =>
    intro w g h1 h2 h3
    obtain ⟨g, rfl⟩ := gw_fz h2
    obtain ⟨e1, e2, e3⟩ := gw_cell10 (K := K) (m := m) hs hr h10 (c := c) (w := w) hc (by omega)
    obtain ⟨f1, f2, f3⟩ := gw_cell10 (K := K) (m := m) hs hr h10 (c := e) (w := w) he (by omega)
    have cc : (nI (c * 2 ^ gw_q K m + w)).toNatClampNeg = c * 2 ^ gw_q K m + w := nI_clamp (by omega)
    have ce : (nI (e * 2 ^ gw_q K m + w)).toNatClampNeg = e * 2 ^ gw_q K m + w := nI_clamp (by omega)
    have l1 : gw_stp K X Y Z F m w c < 64 := Nat.lt_of_lt_of_le (gw_stp_lt K X Y Z F m w c) (by rw [← hr]; exact hR2)
    have l2 : gw_stp K X Y Z F m w e < 64 := Nat.lt_of_lt_of_le (gw_stp_lt K X Y Z F m w e) (by rw [← hr]; exact hR2)
    have cp : (nI (gw_stp K X Y Z F m w c * 64 + gw_stp K X Y Z F m w e)).toNatClampNeg = gw_stp K X Y Z F m w c * 64 + gw_stp K X Y Z F m w e := nI_clamp (by omega)
    rw [wX_leadsApart_20]
    dsimp only
    rw [e1, f1, cc, ce, hG c w hc (by omega), hG e w he (by omega)]
    refine br_f (nI_ge (by omega) (by omega)) ⟨vp_in_nI (by omega) (by omega), nm_e ⟨vp_in_nI (by omega) (by omega), nm_e ?_⟩⟩
    unfold wpX_pairOf
    rw [gw_pr64]
    dsimp only
    rw [cp]
    exact ⟨vp_in_nI (by omega) (by omega), br_c (fun q => h 1 (gw_tv_t ⟨w, by omega, q⟩)) (fun q => nm_r (nI_1 w) (ih (w + 1) g (by omega) (by omega) (lt_s h3 q)))⟩
theorem gx_la {post : Int32 → Prop} {c e : Nat} {v : Int32} (hs : s = gw_cnt (gw_sk K) m) (hr : r = gw_cnt (gw_rk K) m) (h10 : s ≤ 10) (h6 : r ≤ 6) (hc : c < 2 ^ r) (he : e < 2 ^ r) (hG : ∀ c w, c < 2 ^ r → w < 2 ^ gw_q K m → xG (c * 2 ^ gw_q K m + w) = nI (gw_stp K X Y Z F m w c)) (h : ∀ z, gw_tv (∃ w, w < 2 ^ gw_q K m ∧ xP (gw_stp K X Y Z F m w c * 64 + gw_stp K X Y Z F m w e) = v) z → post z) : wpX_leadsApart post (nI m, nI s, nI r, tl, pe, K, X, Y, Z, F, H, xO, xN, xC, xS, xL, xE, xG, xW, xM, xP) (nI c) (nI e) v := by
  have es := gw_srq hs hr
  unfold wpX_leadsApart
  dsimp only
  exact nm_r (gx_inp hs hr) (nm_r (gw_pow (by omega)) ⟨2 ^ gw_q K m + 1, gx_la_l hs hr h10 h6 rfl hc he hG h (2 ^ gw_q K m) 0 _ (by omega) (by omega) (fun w hw => absurd hw (Nat.not_lt_zero _))⟩)
/-- whether one of the pairs visited is apart at t -/
def gw_any (L : Nat) (stp : Nat → Nat → Nat) (sh : Nat → Nat → Bool) (N t c e : Nat) : Prop := ∃ x y, y < x ∧ x < N ∧ (x < c ∨ (x = c ∧ y < e)) ∧ gw_B L stp sh x y t
theorem gx_ma21_l {post : Int32 → SX → Prop} {J : Int32 → Int32 → (Nat → Int32) → (Nat → Int32) → (Nat → Int32) → (Nat → Int32) → (Nat → Int32) → (Nat → Int32) → (Nat → Int32) → (Nat → Int32) → (Nat → Int32) → (Nat → Int32) → (Nat → Int32) → (Nat → Int32) → (Nat → Int32) → (Nat → Int32) → (Nat → Int32) → (Nat → Int32) → Prop} {R t c net : Nat} (hs : s = gw_cnt (gw_sk K) m) (hr : r = gw_cnt (gw_rk K) m) (h10 : s ≤ 10) (h6 : r ≤ 6) (hRR : R = 2 ^ r) (hc : c < R) (ht : t ≤ 1000) (hG : ∀ c w, c < 2 ^ r → w < 2 ^ gw_q K m → xG (c * 2 ^ gw_q K m + w) = nI (gw_stp K X Y Z F m w c)) (h : ∀ A z, gw_AS (2 ^ gw_q K m) (gw_stp K X Y Z F m) (gw_sh K X Y Z m net) R (t + 1) (fun x y => x < c + 1) A → gw_Sy R A → gw_tv (gw_any (2 ^ gw_q K m) (gw_stp K X Y Z F m) (gw_sh K X Y Z m net) R (t + 1) (c + 1) 0) z → J z (nI (c + 1)) K X Y Z F H xO xN xC xS xL xE xG xW xM A) : ∀ d e g z A, e + d = c → d < g → gw_AS (2 ^ gw_q K m) (gw_stp K X Y Z F m) (gw_sh K X Y Z m net) R (t + 1) (fun x y => x < c ∨ (x = c ∧ y < e)) A → gw_Sy R A → gw_tv (gw_any (2 ^ gw_q K m) (gw_stp K X Y Z F m) (gw_sh K X Y Z m net) R (t + 1) c e) z → wX_markApart_21 post J (nI (t + 1)) (nI R) (nI c) (nI m) (nI s) (nI r) tl pe g z (nI e) K X Y Z F H xO xN xC xS xL xE xG xW xM A := by
  have hR2 : R ≤ 64 := by rw [hRR]; exact gw_p6 h6
  have hstp : ∀ w x, w < 2 ^ gw_q K m → x < R → gw_stp K X Y Z F m w x < R := fun w x _ _ => by rw [hRR, hr]; exact gw_stp_lt K X Y Z F m w x
  intro d
  induction d with
  | zero =>
    intro e g z A h1 h2 hA hSy hz
    obtain ⟨g, rfl⟩ := gw_fz h2
    rw [wX_markApart_21]
    refine br_t (nI_le (by omega) (by omega)) (nm_r (nI_1 c) (h A z (gw_AS_congr hA (fun x y hx hy => ?_)) hSy (gw_tv_iff hz ?_)))
    · constructor
      · rintro (q | q) <;> omega
      · intro q; omega
    · constructor
      · rintro ⟨x, y, q1, q2, q3, q4⟩
        exact ⟨x, y, q1, q2, by omega, q4⟩
      · rintro ⟨x, y, q1, q2, q3, q4⟩
        exact ⟨x, y, q1, q2, by omega, q4⟩
  | succ d ih =>
    intro e g z A h1 h2 hA hSy hz
    obtain ⟨g, rfl⟩ := gw_fz h2
    have cp : (nI (c * 64 + e)).toNatClampNeg = c * 64 + e := nI_clamp (by omega)
    have cp2 : (nI (e * 64 + c)).toNatClampNeg = e * 64 + c := nI_clamp (by omega)
    have vp : vp_in (nI (c * 64 + e)) 4096 := vp_in_nI (by omega) (by omega)
    have vp2 : vp_in (nI (e * 64 + c)) 4096 := vp_in_nI (by omega) (by omega)
    have pc : ∀ x y, y < x → x < R → ((x < c ∨ (x = c ∧ y < e)) ∨ (x = c ∧ y = e) ↔ (x < c ∨ (x = c ∧ y < e + 1))) := by
      intro x y _ _
      constructor
      · rintro ((q | q) | q) <;> omega
      · intro q; omega
    have anyno : ¬ gw_B (2 ^ gw_q K m) (gw_stp K X Y Z F m) (gw_sh K X Y Z m net) c e (t + 1) → gw_tv (gw_any (2 ^ gw_q K m) (gw_stp K X Y Z F m) (gw_sh K X Y Z m net) R (t + 1) c (e + 1)) z := by
      intro nb
      refine gw_tv_iff hz ⟨?_, ?_⟩
      · rintro ⟨x, y, q1, q2, q3, q4⟩
        exact ⟨x, y, q1, q2, by omega, q4⟩
      · rintro ⟨x, y, q1, q2, q3, q4⟩
        by_cases q5 : x = c ∧ y = e
        · obtain ⟨rfl, rfl⟩ := q5
          exact absurd q4 nb
        · exact ⟨x, y, q1, q2, by omega, q4⟩
    rw [wX_markApart_21]
    refine br_f (nI_ge (by omega) (by omega)) ?_
    unfold wpX_pairOf
    rw [gw_pr64, gw_pr64]
    dsimp only
    rw [cp, cp2, nI_pred]
    refine ⟨vp, br_c (fun q => ?_) (fun q => nm_r (nI_1 e) (ih (e + 1) g z A (by omega) (by omega) (gw_AS_congr (gw_AS_skip hA (by omega) hc (Or.inl q)) pc) hSy (anyno ?_)))⟩
    · obtain ⟨n1, n2⟩ := gw_AS_neg hA (by omega) (by omega) hc q
      have test := gw_AS_test hstp hA (by omega) (show e < c by omega) hc n1
      refine gx_la hs hr h10 h6 (by omega) (by omega) hG (fun z10 hz10 => ?_)
      have hz2 : gw_tv (gw_B (2 ^ gw_q K m) (gw_stp K X Y Z F m) (gw_sh K X Y Z m net) c e (t + 1)) z10 := by
        refine gw_tv_iff hz10 (Iff.trans ?_ test)
        constructor
        · rintro ⟨w, hw, q2⟩
          exact ⟨w, hw, by rw [← hSy _ _ (hstp w c hw hc) (hstp w e hw (by omega))]; exact q2⟩
        · rintro ⟨w, hw, q2⟩
          exact ⟨w, hw, by rw [← hSy _ _ (hstp w c hw hc) (hstp w e hw (by omega))] at q2; exact q2⟩
      rcases hz2 with ⟨hB, e10⟩ | ⟨nB, e10⟩
      · rw [e10]
        refine br_f gw_n10 ⟨vp, nm_e ⟨vp2, nm_e (nm_r (nI_1 e) (ih (e + 1) g 1 _ (by omega) (by omega) (gw_AS_upper hR2 (gw_AS_congr (gw_AS_mark hR2 hA (by omega) (by omega) hc q hB) pc) (by omega) hc) (gw_Sy_mark hR2 hSy (by omega) hc) (gw_tv_t ⟨c, e, by omega, hc, by omega, hB⟩)))⟩⟩
      · rw [e10]
        exact br_t rfl (nm_r (nI_1 e) (ih (e + 1) g z A (by omega) (by omega) (gw_AS_congr (gw_AS_skip hA (by omega) hc (Or.inr nB)) pc) hSy (anyno nB)))
    · intro hB
      rcases gw_AS_cases hA (show e < c by omega) hc with ⟨s', hs', hb', _⟩ | ⟨hp, _, _⟩ | ⟨_, _, q2⟩
      · have := gw_B_u hB hb'
        omega
      · omega
      · exact q q2
theorem gx_ma12_l {post : Int32 → SX → Prop} {R t net : Nat} (hs : s = gw_cnt (gw_sk K) m) (hr : r = gw_cnt (gw_rk K) m) (h10 : s ≤ 10) (h6 : r ≤ 6) (hRR : R = 2 ^ r) (ht : t ≤ 1000) (hG : ∀ c w, c < 2 ^ r → w < 2 ^ gw_q K m → xG (c * 2 ^ gw_q K m + w) = nI (gw_stp K X Y Z F m w c)) (h : ∀ A z, gw_AS (2 ^ gw_q K m) (gw_stp K X Y Z F m) (gw_sh K X Y Z m net) R (t + 1) (fun x y => x < R) A → gw_Sy R A → gw_tv (gw_any (2 ^ gw_q K m) (gw_stp K X Y Z F m) (gw_sh K X Y Z m net) R (t + 1) R 0) z → post z (nI m, nI s, nI r, tl, pe, K, X, Y, Z, F, H, xO, xN, xC, xS, xL, xE, xG, xW, xM, A)) : ∀ d c g z A, c + d = R → d < g → gw_AS (2 ^ gw_q K m) (gw_stp K X Y Z F m) (gw_sh K X Y Z m net) R (t + 1) (fun x y => x < c) A → gw_Sy R A → gw_tv (gw_any (2 ^ gw_q K m) (gw_stp K X Y Z F m) (gw_sh K X Y Z m net) R (t + 1) c 0) z → wX_markApart_12 post (nI (t + 1)) (nI R) (nI m) (nI s) (nI r) tl pe g z (nI c) K X Y Z F H xO xN xC xS xL xE xG xW xM A := by
  have hR2 : R ≤ 64 := by rw [hRR]; exact gw_p6 h6
  intro d
  induction d with
  | zero =>
    intro c g z A h1 h2 hA hSy hz
    obtain ⟨g, rfl⟩ := gw_fz h2
    have e : c = R := by omega
    subst e
    rw [wX_markApart_12]
    exact br_t (nI_le (by omega) (by omega)) ⟨gw_nb (gw_tv_01 hz), h A z hA hSy hz⟩
  | succ d ih =>
    intro c g z A h1 h2 hA hSy hz
    obtain ⟨g, rfl⟩ := gw_fz h2
    rw [wX_markApart_12]
    refine br_f (nI_ge (by omega) (by omega)) ⟨c + 1, gx_ma21_l hs hr h10 h6 hRR (by omega) ht hG (fun A' z' hA' hSy' hz' => ih (c + 1) g z' A' (by omega) (by omega) hA' hSy' hz') c 0 (c + 1) z A (by omega) (by omega) (gw_AS_congr hA (fun x y _ _ => ?_)) hSy hz⟩
    constructor
    · intro q; omega
    · rintro (q | q) <;> omega
theorem gx_ma {post : Int32 → SX → Prop} {t net : Nat} (hs : s = gw_cnt (gw_sk K) m) (hr : r = gw_cnt (gw_rk K) m) (h10 : s ≤ 10) (h6 : r ≤ 6) (ht : t ≤ 1000) (hG : ∀ c w, c < 2 ^ r → w < 2 ^ gw_q K m → xG (c * 2 ^ gw_q K m + w) = nI (gw_stp K X Y Z F m w c)) (hA : gw_AS (2 ^ gw_q K m) (gw_stp K X Y Z F m) (gw_sh K X Y Z m net) (2 ^ r) (t + 1) (fun _ _ => False) xP) (hSy : gw_Sy (2 ^ r) xP) (h : ∀ A z, gw_AS (2 ^ gw_q K m) (gw_stp K X Y Z F m) (gw_sh K X Y Z m net) (2 ^ r) (t + 1) (fun x y => x < 2 ^ r) A → gw_Sy (2 ^ r) A → gw_tv (gw_any (2 ^ gw_q K m) (gw_stp K X Y Z F m) (gw_sh K X Y Z m net) (2 ^ r) (t + 1) (2 ^ r) 0) z → post z (nI m, nI s, nI r, tl, pe, K, X, Y, Z, F, H, xO, xN, xC, xS, xL, xE, xG, xW, xM, A)) : wpX_markApart post (nI m, nI s, nI r, tl, pe, K, X, Y, Z, F, H, xO, xN, xC, xS, xL, xE, xG, xW, xM, xP) (nI (t + 1)) := by
  unfold wpX_markApart
  dsimp only
  refine nm_r (gw_pow (by omega)) ⟨2 ^ r + 1, gx_ma12_l hs hr h10 h6 rfl ht hG h (2 ^ r) 0 (2 ^ r + 1) 0 xP (by omega) (by omega) (gw_AS_congr hA (fun x y _ _ => ⟨fun q => q.elim, fun q => absurd q (Nat.not_lt_zero _)⟩)) hSy (gw_tv_f ?_)⟩
  rintro ⟨x, y, q1, q2, q3, q4⟩
  omega
theorem gx_fa61_l {post : SX → Prop} {R net : Nat} (hs : s = gw_cnt (gw_sk K) m) (hr : r = gw_cnt (gw_rk K) m) (h10 : s ≤ 10) (h6 : r ≤ 6) (hRR : R = 2 ^ r) (hG : ∀ c w, c < 2 ^ r → w < 2 ^ gw_q K m → xG (c * 2 ^ gw_q K m + w) = nI (gw_stp K X Y Z F m w c)) (h : ∀ A, gw_AF (2 ^ gw_q K m) (gw_stp K X Y Z F m) (gw_sh K X Y Z m net) R A → gw_Sy R A → post (nI m, nI s, nI r, tl, pe, K, X, Y, Z, F, H, xO, xN, xC, xS, xL, xE, xG, xW, xM, A)) : ∀ d t g A, t + d = R → d + 1 < g → gw_AS (2 ^ gw_q K m) (gw_stp K X Y Z F m) (gw_sh K X Y Z m net) R (t + 1) (fun _ _ => False) A → gw_Sy R A → wX_findApart_61 post (nI R) g 1 (nI (t + 1)) (nI m) (nI s) (nI r) tl pe K X Y Z F H xO xN xC xS xL xE xG xW xM A := by
  have hR2 : R ≤ 64 := by rw [hRR]; exact gw_p6 h6
  have hstp : ∀ w x, w < 2 ^ gw_q K m → x < R → gw_stp K X Y Z F m w x < R := fun w x _ _ => by rw [hRR, hr]; exact gw_stp_lt K X Y Z F m w x
  intro d
  induction d with
  | zero =>
    intro t g A h1 h2 hA hSy
    obtain ⟨g, rfl⟩ := gw_fz h2
    rw [wX_findApart_61]
    exact br_t (nI_lt (by omega) (by omega)) (h A (gw_AF_N hstp (by omega) hA) hSy)
  | succ d ih =>
    intro t g A h1 h2 hA hSy
    obtain ⟨g, rfl⟩ := gw_fz h2
    obtain ⟨g, rfl⟩ := gw_fz (show 0 < g by omega)
    rw [wX_findApart_61]
    refine br_f (nI_nlt (by omega) (by omega)) (br_f gw_n10 ?_)
    subst hRR
    refine gx_ma (net := net) hs hr h10 h6 (by omega) hG hA hSy (fun A' z hA' hSy' hz => nm_r (nI_1 (t + 1)) ?_)
    rcases hz with ⟨_, e⟩ | ⟨hn, e⟩
    · rw [e]
      exact ih (t + 1) (g + 1) A' (by omega) (by omega) (gw_AS_next hA' (fun c d _ hc => hc)) hSy'
    · rw [e, wX_findApart_61]
      have hF : gw_AF (2 ^ gw_q K m) (gw_stp K X Y Z F m) (gw_sh K X Y Z m net) (2 ^ r) A' := gw_AF_stop hstp hA' (fun c d _ hc => hc) (fun c d h3 h4 hb => hn ⟨c, d, h3, h4, Or.inl h4, hb⟩)
      exact br_c (fun _ => h A' hF hSy') (fun _ => br_t rfl (h A' hF hSy'))
theorem gx_fa16_l {post : SX → Prop} {J : Int32 → (Nat → Int32) → (Nat → Int32) → (Nat → Int32) → (Nat → Int32) → (Nat → Int32) → (Nat → Int32) → (Nat → Int32) → (Nat → Int32) → (Nat → Int32) → (Nat → Int32) → (Nat → Int32) → (Nat → Int32) → (Nat → Int32) → (Nat → Int32) → (Nat → Int32) → (Nat → Int32) → Prop} {R c net : Nat} (hs : s = gw_cnt (gw_sk K) m) (hr : r = gw_cnt (gw_rk K) m) (h10 : s ≤ 10) (h6 : r ≤ 6) (hRR : R = 2 ^ r) (hc : c < R) (hV : ∀ c w, c < 2 ^ r → w < 2 ^ gw_q K m → xW (c * 2 ^ gw_q K m + w) = gw_b (gw_sh K X Y Z m net w c)) (h : ∀ A, (∀ x y, x < c + 1 → y < R → gw_I0 (2 ^ gw_q K m) (gw_stp K X Y Z F m) (gw_sh K X Y Z m net) A x y) → J (nI (c + 1)) K X Y Z F H xO xN xC xS xL xE xG xW xM A) : ∀ d e g A, e + d = R → d < g → (∀ x y, x < R → y < R → (x < c ∨ (x = c ∧ y < e)) → gw_I0 (2 ^ gw_q K m) (gw_stp K X Y Z F m) (gw_sh K X Y Z m net) A x y) → wX_findApart_16 post J (nI R) (nI c) (nI m) (nI s) (nI r) tl pe g (nI e) K X Y Z F H xO xN xC xS xL xE xG xW xM A := by
  have hR2 : R ≤ 64 := by rw [hRR]; exact gw_p6 h6
  intro d
  induction d with
  | zero =>
    intro e g A h1 h2 hA
    obtain ⟨g, rfl⟩ := gw_fz h2
    rw [wX_findApart_16]
    exact br_t (nI_le (by omega) (by omega)) (nm_r (nI_1 c) (h A (fun x y hx hy => hA x y (by omega) hy (by omega))))
  | succ d ih =>
    intro e g A h1 h2 hA
    obtain ⟨g, rfl⟩ := gw_fz h2
    have cp : (nI (c * 64 + e)).toNatClampNeg = c * 64 + e := nI_clamp (by omega)
    have vp : vp_in (nI (c * 64 + e)) 4096 := vp_in_nI (by omega) (by omega)
    have next : ∀ v : Int32, (gw_A (2 ^ gw_q K m) (gw_stp K X Y Z F m) (gw_sh K X Y Z m net) 0 c e ∧ v = 0) ∨ (¬ gw_A (2 ^ gw_q K m) (gw_stp K X Y Z F m) (gw_sh K X Y Z m net) 0 c e ∧ v = -1) → wX_findApart_16 post J (nI R) (nI c) (nI m) (nI s) (nI r) tl pe g (nI (e + 1)) K X Y Z F H xO xN xC xS xL xE xG xW xM (upd A (c * 64 + e) v) := by
      intro v hv
      refine ih (e + 1) g _ (by omega) (by omega) (fun x y hx hy hxy => ?_)
      by_cases q : x = c ∧ y = e
      · obtain ⟨rfl, rfl⟩ := q
        unfold gw_I0
        rw [pk_us]
        exact hv
      · unfold gw_I0
        rw [pk_un (fun q2 => q (gw_pair (by omega) (by omega) q2))]
        exact hA x y hx hy (by omega)
    rw [wX_findApart_16]
    refine br_f (nI_ge (by omega) (by omega)) ?_
    unfold wpX_pairOf
    rw [gw_pr64]
    dsimp only
    rw [cp]
    refine gx_sd hs hr h10 (by omega) (by omega) hV (fun z hz => ?_)
    rcases hz with ⟨p, e0⟩ | ⟨p, e0⟩
    · rw [e0]
      exact br_f gw_n10 ⟨vp, nm_e (nm_r (nI_1 e) (next 0 (Or.inl ⟨p, rfl⟩)))⟩
    · rw [e0]
      exact br_t rfl ⟨vp, nm_e (nm_r (nI_1 e) (next (-1) (Or.inr ⟨p, rfl⟩)))⟩
theorem gx_fa9_l {post : SX → Prop} {R net : Nat} (hs : s = gw_cnt (gw_sk K) m) (hr : r = gw_cnt (gw_rk K) m) (h10 : s ≤ 10) (h6 : r ≤ 6) (hRR : R = 2 ^ r) (hG : ∀ c w, c < 2 ^ r → w < 2 ^ gw_q K m → xG (c * 2 ^ gw_q K m + w) = nI (gw_stp K X Y Z F m w c)) (hV : ∀ c w, c < 2 ^ r → w < 2 ^ gw_q K m → xW (c * 2 ^ gw_q K m + w) = gw_b (gw_sh K X Y Z m net w c)) (h : ∀ A, gw_AF (2 ^ gw_q K m) (gw_stp K X Y Z F m) (gw_sh K X Y Z m net) R A → gw_Sy R A → post (nI m, nI s, nI r, tl, pe, K, X, Y, Z, F, H, xO, xN, xC, xS, xL, xE, xG, xW, xM, A)) : ∀ d c g A, c + d = R → d < g → (∀ x y, x < c → y < R → gw_I0 (2 ^ gw_q K m) (gw_stp K X Y Z F m) (gw_sh K X Y Z m net) A x y) → wX_findApart_9 post (nI R) (nI m) (nI s) (nI r) tl pe g (nI c) K X Y Z F H xO xN xC xS xL xE xG xW xM A := by
  have hR2 : R ≤ 64 := by rw [hRR]; exact gw_p6 h6
  intro d
  induction d with
  | zero =>
    intro c g A h1 h2 hA
    obtain ⟨g, rfl⟩ := gw_fz h2
    have e : c = R := by omega
    subst e
    rw [wX_findApart_9]
    exact br_t (nI_le (by omega) (by omega)) ⟨c + 2, gx_fa61_l hs hr h10 h6 hRR hG h c 0 (c + 2) A (by omega) (by omega) (gw_I0_AS hA) (gw_I0_Sy hA)⟩
  | succ d ih =>
    intro c g A h1 h2 hA
    obtain ⟨g, rfl⟩ := gw_fz h2
    rw [wX_findApart_9]
    exact br_f (nI_ge (by omega) (by omega)) ⟨R + 1, gx_fa16_l hs hr h10 h6 hRR (by omega) hV (fun A' hA' => ih (c + 1) g A' (by omega) (by omega) hA') R 0 (R + 1) A (by omega) (by omega) (fun x y hx hy hxy => hA x y (by omega) hy)⟩
theorem gx_fa {post : SX → Prop} {net : Nat} (hs : s = gw_cnt (gw_sk K) m) (hr : r = gw_cnt (gw_rk K) m) (h10 : s ≤ 10) (h6 : r ≤ 6) (hG : ∀ c w, c < 2 ^ r → w < 2 ^ gw_q K m → xG (c * 2 ^ gw_q K m + w) = nI (gw_stp K X Y Z F m w c)) (hV : ∀ c w, c < 2 ^ r → w < 2 ^ gw_q K m → xW (c * 2 ^ gw_q K m + w) = gw_b (gw_sh K X Y Z m net w c)) (h : ∀ A, gw_AF (2 ^ gw_q K m) (gw_stp K X Y Z F m) (gw_sh K X Y Z m net) (2 ^ r) A → gw_Sy (2 ^ r) A → post (nI m, nI s, nI r, tl, pe, K, X, Y, Z, F, H, xO, xN, xC, xS, xL, xE, xG, xW, xM, A)) : wpX_findApart post (nI m, nI s, nI r, tl, pe, K, X, Y, Z, F, H, xO, xN, xC, xS, xL, xE, xG, xW, xM, xP) := by
  unfold wpX_findApart
  dsimp only
  exact nm_r (gw_pow (by omega)) ⟨2 ^ r + 1, gx_fa9_l hs hr h10 h6 rfl hG hV h (2 ^ r) 0 (2 ^ r + 1) xP (by omega) (by omega) (fun x y hx => absurd hx (Nat.not_lt_zero _))⟩
end
end
section
/-! how soon two configurations are apart, in the reference -/
section
variable {m s r : Nat} {K X Y Z F H yA yO yS yR yL yN yD yT yM yF yW yP : Nat → Int32}
theorem gy_inp_l {post : Int32 → Prop} (hm : m ≤ 32) (hs : s = gw_cnt (gw_sk K) m) (h10 : s ≤ 10) (hE : gw_En (gw_sk K) yS m) (h : post (nI (gw_pk (fun _ => true) (fun j => gw_ik K (yS j).toNatClampNeg) s))) : ∀ d i g, i + d = s → d < g → wY_inputs_4 post (nI m) (nI s) (nI r) K X Y Z F H yA yO yS yR yL yN yD yT yM yF yW yP g (nI (gw_pk (fun _ => true) (fun j => gw_ik K (yS j).toNatClampNeg) i)) (nI i) := by
  intro d
  induction d with
  | zero =>
    intro i g h1 h2
    obtain ⟨g, rfl⟩ := gw_fz h2
    have e : i = s := by omega
    rw [wY_inputs_4]
    refine br_t (nI_le (by omega) (by omega)) ?_
    rw [e]
    exact h
  | succ d ih =>
    intro i g h1 h2
    obtain ⟨g, rfl⟩ := gw_fz h2
    have ci : (nI i).toNatClampNeg = i := nI_clamp (by omega)
    obtain ⟨n, hn, hq, hc, e⟩ := gw_En_at hE (show i < gw_cnt (gw_sk K) m by omega)
    have cn : (nI n).toNatClampNeg = n := nI_clamp (by omega)
    have ihn := ih (i + 1) g (by omega) (by omega)
    rw [gw_pk_t (q := fun _ => true) rfl, gw_cnt_all, e, cn] at ihn
    rw [wY_inputs_4]
    refine br_f (nI_ge (by omega) (by omega)) ⟨vp_in_nI (by omega) (by omega), ?_⟩
    rw [ci, e, cn]
    refine ⟨vp_in_nI (by omega) (by omega), br_c (fun q => ?_) (fun q => ?_)⟩
    · rw [gw_ik_t.mpr q] at ihn
      exact nm_r (gw_or _ true (by omega)) (nm_r (nI_1 i) ihn)
    · rw [gw_ik_f.mpr q, show Bool.toNat false = 0 from rfl, Nat.zero_shiftLeft, Nat.or_zero] at ihn
      exact nm_r (nI_1 i) ihn
theorem gy_inp {post : Int32 → Prop} (hm : m ≤ 32) (hs : s = gw_cnt (gw_sk K) m) (h10 : s ≤ 10) (hE : gw_En (gw_sk K) yS m) (h : post (nI (gw_msk K m))) : wpY_inputs post (nI m, nI s, nI r, K, X, Y, Z, F, H, yA, yO, yS, yR, yL, yN, yD, yT, yM, yF, yW, yP) := by
  refine ⟨s + 1, gy_inp_l hm hs h10 hE ?_ s 0 (s + 1) (by omega) (by omega)⟩
  have e : gw_pk (fun _ => true) (fun j => gw_ik K (yS j).toNatClampNeg) s = gw_msk K m := by
    rw [hs]
    refine gw_pk_comp (p := gw_sk K) (q := gw_sk K) (fun n _ hq => hq.symm) (fun n _ hq => hq) (fun n hn hq => ?_)
    show gw_ik K (yS (gw_cnt (gw_sk K) n)).toNatClampNeg = gw_ik K n
    rw [hE n hn hq, nI_clamp (by omega)]
  rw [e]
  exact h
theorem gy_join_l {post : Int32 → Prop} {c b : Nat} (hm : m ≤ 32) (hc : c < 2 ^ 31) (hs : s = gw_cnt (gw_sk K) m) (h10 : s ≤ 10) (hE : gw_En (gw_sk K) yS m) (h : ∀ a : Nat, (∀ i, a.testBit i = (b.testBit i || (decide (i < s) && (gw_rk K (yS i).toNatClampNeg && c.testBit (gw_cnt (fun j => gw_rk K (yS j).toNatClampNeg) i))))) → post (nI a)) : ∀ d j g (a : Nat), j + d = s → d < g → (∀ i, a.testBit i = (b.testBit i || (decide (i < j) && (gw_rk K (yS i).toNatClampNeg && c.testBit (gw_cnt (fun j => gw_rk K (yS j).toNatClampNeg) i))))) → wY_join_8 post (nI c) (nI m) (nI s) (nI r) K X Y Z F H yA yO yS yR yL yN yD yT yM yF yW yP g (nI a) (nI (gw_cnt (fun j => gw_rk K (yS j).toNatClampNeg) j)) (nI j) := by
  intro d
  induction d with
  | zero =>
    intro j g a h1 h2 ha
    obtain ⟨g, rfl⟩ := gw_fz h2
    have e : j = s := by omega
    subst e
    rw [wY_join_8]
    exact br_t (nI_le (by omega) (by omega)) (h a ha)
  | succ d ih =>
    intro j g a h1 h2 ha
    obtain ⟨g, rfl⟩ := gw_fz h2
    have cj : (nI j).toNatClampNeg = j := nI_clamp (by omega)
    obtain ⟨n, hn, hq, hcn, e⟩ := gw_En_at hE (show j < gw_cnt (gw_sk K) m by omega)
    have cn : (nI n).toNatClampNeg = n := nI_clamp (by omega)
    have hle := gw_cnt_le (fun j => gw_rk K (yS j).toNatClampNeg) j
    rw [wY_join_8]
    refine br_f (nI_ge (by omega) (by omega)) ⟨vp_in_nI (by omega) (by omega), ?_⟩
    rw [cj, e, cn]
    refine ⟨vp_in_nI (by omega) (by omega), br_c (fun q => ?_) (fun q => ?_)⟩
    · have hqj : gw_rk K (yS j).toNatClampNeg = true := by rw [e, cn]; exact gw_rk_t.mpr q
      have ihn := ih (j + 1) g (a ||| ((c.testBit (gw_cnt (fun j => gw_rk K (yS j).toNatClampNeg) j)).toNat <<< j)) (by omega) (by omega) (fun i => by
        rw [Nat.testBit_or, gw_sh_bit, ha i]
        rcases Nat.lt_trichotomy i j with l | l | l
        · rw [decide_eq_true l, decide_eq_true (show i < j + 1 by omega), decide_eq_false (show ¬ i = j by omega), Bool.false_and, Bool.or_false]
        · subst l
          rw [decide_eq_false (show ¬ i < i by omega), decide_eq_true (show i < i + 1 by omega), decide_eq_true rfl, hqj]
          simp
        · rw [decide_eq_false (show ¬ i < j by omega), decide_eq_false (show ¬ i < j + 1 by omega), decide_eq_false (show ¬ i = j by omega)]
          simp)
      rw [gw_cnt_t (q := fun j => gw_rk K (yS j).toNatClampNeg) hqj] at ihn
      refine nm_r ?_ (nm_r (nI_1 _) (nm_r (nI_1 j) ihn))
      rw [gw_sbit hc (by omega), gw_or _ _ (by omega)]
    · have hqj : gw_rk K (yS j).toNatClampNeg = false := by rw [e, cn]; exact gw_rk_f.mpr q
      have ihn := ih (j + 1) g a (by omega) (by omega) (fun i => by
        rw [ha i]
        rcases Nat.lt_trichotomy i j with l | l | l
        · rw [decide_eq_true l, decide_eq_true (show i < j + 1 by omega)]
        · subst l
          rw [hqj]
          simp
        · rw [decide_eq_false (show ¬ i < j by omega), decide_eq_false (show ¬ i < j + 1 by omega)])
      rw [gw_cnt_f (q := fun j => gw_rk K (yS j).toNatClampNeg) hqj] at ihn
      exact nm_r (nI_1 j) ihn
theorem gy_join {post : Int32 → Prop} {c b : Nat} (hm : m ≤ 32) (hc : c < 2 ^ 31) (hs : s = gw_cnt (gw_sk K) m) (h10 : s ≤ 10) (hE : gw_En (gw_sk K) yS m) (hb : b &&& gw_msk K m = b) (h : post (nI (gw_jn K m (gw_of K m b) c))) : wpY_join post (nI m, nI s, nI r, K, X, Y, Z, F, H, yA, yO, yS, yR, yL, yN, yD, yT, yM, yF, yW, yP) (nI c) (nI b) := by
  refine ⟨s + 1, gy_join_l hm hc hs h10 hE (fun a ha => ?_) s 0 (s + 1) b (by omega) (by omega) (fun i => by rw [decide_eq_false (Nat.not_lt_zero _), Bool.false_and, Bool.or_false])⟩
  have hbl := gw_msk_lt hb
  have e : a = gw_jn K m (gw_of K m b) c := by
    refine gw_join hb ?_ (fun n hn hk => ?_)
    · apply Nat.lt_pow_two_of_testBit
      intro i hi
      rw [ha i, decide_eq_false (show ¬ i < s by omega), Nat.testBit_lt_two_pow (Nat.lt_of_lt_of_le hbl (Nat.pow_le_pow_right (by omega) hi))]
      rfl
    · have hlt := gw_cnt_lt hk hn
      have e1 : gw_rk K (yS (gw_cnt (gw_sk K) n)).toNatClampNeg = gw_rk K n := by rw [hE n hn hk, nI_clamp (by omega)]
      have e2 : gw_cnt (fun j => gw_rk K (yS j).toNatClampNeg) (gw_cnt (gw_sk K) n) = gw_cnt (gw_rk K) n := by
        refine gw_cnt_comp (fun i hi hki => ?_) (fun i _ hki => gw_rk_sk hki)
        show gw_rk K (yS (gw_cnt (gw_sk K) i)).toNatClampNeg = gw_rk K i
        rw [hE i (by omega) hki, nI_clamp (by omega)]
      rw [ha, decide_eq_true (show gw_cnt (gw_sk K) n < s by omega), e1, e2, Bool.true_and]
  rw [← e] at h
  exact h
/-- the test of a round at offset w -/
def gw_dt (K X Y Z F A : Nat → Int32) (m net c e t w : Nat) : Prop := (t = 0 ∧ gw_sh K X Y Z m net w c ≠ gw_sh K X Y Z m net w e) ∨ ∃ t', t = t' + 1 ∧ gw_rd A (gw_stp K X Y Z F m w c) (gw_stp K X Y Z F m w e) = nI t'
theorem gy_diff_l {post : Int32 → Prop} {c e t net : Nat} (hm : m ≤ 32) (hs : s = gw_cnt (gw_sk K) m) (h10 : s ≤ 10) (hS : gw_En (gw_sk K) yS m) (hr : r = gw_cnt (gw_rk K) m) (h6 : r ≤ 6) (hc : c < 2 ^ r) (he : e < 2 ^ r) (ht : t ≤ 1000) (hB : ∀ b, b < 2 ^ s → yF b = nI (gw_tk K X Y Z F m (gw_sa K b))) (hV : ∀ b, b < 2 ^ s → yW b = gw_b (gw_T K X Y Z m net b)) (h : ∀ z, gw_tv (∃ w, w < 2 ^ gw_q K m ∧ gw_dt K X Y Z F yP m net c e t w) z → post z) : ∀ b g, b + 1 < g → b &&& gw_msk K m = b → (∀ b', b' &&& gw_msk K m = b' → b < b' → ¬ gw_dt K X Y Z F yP m net c e t (gw_of K m b')) → wY_differs_7 post (nI c) (nI e) (nI t) (nI (gw_msk K m)) (nI m) (nI s) (nI r) K X Y Z F H yA yO yS yR yL yN yD yT yM yF yW yP g (nI b) 0 := by
  have hR2 := gw_p6 h6
  have hN2 := gw_p10 h10
  intro b
  induction b using Nat.strongRecOn with
  | ind b ih =>
    intro g hg hb hno
    obtain ⟨g, rfl⟩ := gw_fz hg
    obtain ⟨g, rfl⟩ := gw_fz (show b < g by omega)
    have hbl := gw_msk_lt hb
    rw [← hs] at hbl
    have hcr : c < 2 ^ gw_cnt (gw_rk K) m := by rw [← hr]; exact hc
    have her : e < 2 ^ gw_cnt (gw_rk K) m := by rw [← hr]; exact he
    have hw : gw_of K m b < 2 ^ gw_q K m := gw_of_lt K m b
    have la : gw_jn K m (gw_of K m b) c < 2 ^ s := by rw [hs]; exact gw_jn_lt K m _ _
    have lb : gw_jn K m (gw_of K m b) e < 2 ^ s := by rw [hs]; exact gw_jn_lt K m _ _
    have fa : yF (gw_jn K m (gw_of K m b) c) = nI (gw_stp K X Y Z F m (gw_of K m b) c) := by
      rw [hB _ la, ← gw_stp_a, gw_co_j hcr, gw_of_j hw]
    have fb : yF (gw_jn K m (gw_of K m b) e) = nI (gw_stp K X Y Z F m (gw_of K m b) e) := by
      rw [hB _ lb, ← gw_stp_a, gw_co_j her, gw_of_j hw]
    have wa : yW (gw_jn K m (gw_of K m b) c) = gw_b (gw_sh K X Y Z m net (gw_of K m b) c) := by
      rw [hV _ la]
      unfold gw_T
      rw [← gw_sh_a, gw_co_j hcr, gw_of_j hw]
    have wb : yW (gw_jn K m (gw_of K m b) e) = gw_b (gw_sh K X Y Z m net (gw_of K m b) e) := by
      rw [hV _ lb]
      unfold gw_T
      rw [← gw_sh_a, gw_co_j her, gw_of_j hw]
    have ca : (nI (gw_jn K m (gw_of K m b) c)).toNatClampNeg = gw_jn K m (gw_of K m b) c := nI_clamp (by omega)
    have cb : (nI (gw_jn K m (gw_of K m b) e)).toNatClampNeg = gw_jn K m (gw_of K m b) e := nI_clamp (by omega)
    have va : vp_in (nI (gw_jn K m (gw_of K m b) c)) 1024 := vp_in_nI (by omega) (by omega)
    have vb : vp_in (nI (gw_jn K m (gw_of K m b) e)) 1024 := vp_in_nI (by omega) (by omega)
    have l1 : gw_stp K X Y Z F m (gw_of K m b) c < 64 := Nat.lt_of_lt_of_le (gw_stp_lt K X Y Z F m _ c) (by rw [← hr]; exact hR2)
    have l2 : gw_stp K X Y Z F m (gw_of K m b) e < 64 := Nat.lt_of_lt_of_le (gw_stp_lt K X Y Z F m _ e) (by rw [← hr]; exact hR2)
    have go : ¬ gw_dt K X Y Z F yP m net c e t (gw_of K m b) → wY_differs_154 post (wY_differs_7 post (nI c) (nI e) (nI t) (nI (gw_msk K m)) (nI m) (nI s) (nI r) K X Y Z F H yA yO yS yR yL yN yD yT yM yF yW yP (g + 1)) (nI c) (nI e) (nI t) (nI (gw_msk K m)) (nI b) (nI m) (nI s) (nI r) K X Y Z F H yA yO yS yR yL yN yD yT yM yF yW yP := by
      intro hn
      have hno2 : ∀ b', b' &&& gw_msk K m = b' → b ≤ b' → ¬ gw_dt K X Y Z F yP m net c e t (gw_of K m b') := fun b' h3 h4 => by
        rcases Nat.lt_or_ge b b' with l | l
        · exact hno b' h3 l
        · rw [show b' = b by omega]; exact hn
      by_cases b0 : b = 0
      · subst b0
        refine br_t rfl (nm_e ?_)
        rw [wY_differs_7]
        refine br_f gw_n10 (h 0 (gw_tv_f ?_))
        rintro ⟨w, h3, h4⟩
        have h5 := hno2 (gw_jn K m w 0) gw_msk_w (Nat.zero_le _)
        rw [gw_of_j h3] at h5
        exact h5 h4
      · refine br_f (nI_ne0 (by omega) (by omega)) (nm_r (e' := nI ((b - 1) &&& gw_msk K m)) ?_ (ih ((b - 1) &&& gw_msk K m) ?_ (g + 1) ?_ (gw_subm_in b _) (fun b' h3 h4 => ?_)))
        · obtain ⟨b1, rfl⟩ : ∃ b1, b = b1 + 1 := ⟨b - 1, by omega⟩
          rw [nI_pred, nx_and, Nat.add_sub_cancel]
        · exact Nat.lt_of_le_of_lt Nat.and_le_left (by omega)
        · have : (b - 1) &&& gw_msk K m ≤ b - 1 := Nat.and_le_left
          omega
        · refine hno2 b' h3 ?_
          apply Nat.le_of_not_lt
          intro l
          have := gw_subm b (gw_msk K m) b' hb h3 l
          omega
    have fin : ∀ p q : Nat, p < 64 → q < 64 → q ≤ p → ((gw_stp K X Y Z F m (gw_of K m b) c = p ∧ gw_stp K X Y Z F m (gw_of K m b) e = q) ∨ (gw_stp K X Y Z F m (gw_of K m b) c = q ∧ gw_stp K X Y Z F m (gw_of K m b) e = p)) → wY_differs_100 post (wY_differs_7 post (nI c) (nI e) (nI t) (nI (gw_msk K m)) (nI m) (nI s) (nI r) K X Y Z F H yA yO yS yR yL yN yD yT yM yF yW yP (g + 1)) (nI c) (nI e) (nI t) (nI (gw_msk K m)) (nI b) (nI (gw_jn K m (gw_of K m b) c)) (nI (gw_jn K m (gw_of K m b) e)) (nI p) (nI q) (nI m) (nI s) (nI r) K X Y Z F H yA yO yS yR yL yN yD yT yM yF yW yP := by
      intro p q hp hq hqp hpq
      unfold wY_differs_100
      rw [ca, cb, wa, wb, gw_b_inj]
      by_cases t0 : t = 0
      · refine br_t (by rw [t0]; rfl) ⟨va, vb, br_c (fun q2 => go ?_) (fun q2 => h 1 (gw_tv_t ⟨_, hw, Or.inl ⟨t0, q2⟩⟩))⟩
        rintro (⟨_, q3⟩ | ⟨t', q3, _⟩)
        · exact q3 q2
        · omega
      · obtain ⟨t', rfl⟩ : ∃ t', t = t' + 1 := ⟨t - 1, by omega⟩
        refine br_f (nI_ne0 (by omega) (by omega)) ?_
        have cp : (nI (p * 64 + q)).toNatClampNeg = p * 64 + q := nI_clamp (by omega)
        by_cases epq : p = q
        · subst epq
          refine br_t rfl (go ?_)
          rintro (⟨q3, _⟩ | ⟨t2, q3, q4⟩)
          · omega
          · have e1 : gw_stp K X Y Z F m (gw_of K m b) c = p := by rcases hpq with z | z <;> exact z.1
            have e2 : gw_stp K X Y Z F m (gw_of K m b) e = p := by rcases hpq with z | z <;> exact z.2
            rw [e1, e2] at q4
            unfold gw_rd at q4
            rw [if_neg (by omega), if_neg (by omega)] at q4
            exact gw_m1 (show t2 < 2 ^ 31 by omega) q4.symm
        · have erd : gw_rd yP (gw_stp K X Y Z F m (gw_of K m b) c) (gw_stp K X Y Z F m (gw_of K m b) e) = yP (p * 64 + q) := by
            unfold gw_rd
            rcases hpq with z | z
            · rw [z.1, z.2, if_pos (by omega)]
            · rw [z.1, z.2, if_neg (by omega), if_pos (by omega)]
          rw [gw_pl64, cp, nI_pred]
          refine br_f (fun q2 => epq ((nI_eq (by omega) (by omega)).mp q2)) ⟨vp_in_nI (by omega) (by omega), br_c (fun q2 => h 1 (gw_tv_t ⟨_, hw, Or.inr ⟨t', rfl, by rw [erd]; exact q2⟩⟩)) (fun q2 => go ?_)⟩
          rintro (⟨q3, _⟩ | ⟨t2, q3, q4⟩)
          · omega
          · have : t2 = t' := by omega
            subst this
            rw [erd] at q4
            exact q2 q4
    rw [wY_differs_7]
    refine br_t rfl (gy_join hm (by omega) hs h10 hS hb (gy_join hm (by omega) hs h10 hS hb ?_))
    rw [ca, cb, fa, fb]
    refine ⟨va, vb, ?_⟩
    rcases Nat.lt_or_ge (gw_stp K X Y Z F m (gw_of K m b) e) (gw_stp K X Y Z F m (gw_of K m b) c) with l | l
    · refine br_f (nI_ge l (by omega)) ⟨va, ?_⟩
      unfold wY_differs_64
      rw [ca, cb, fa, fb]
      exact ⟨va, vb, br_f (nI_ge l (by omega)) ⟨vb, fin _ _ l1 l2 (by omega) (Or.inl ⟨rfl, rfl⟩)⟩⟩
    · refine br_t (nI_le l (by omega)) ⟨vb, ?_⟩
      unfold wY_differs_64
      rw [ca, cb, fa, fb]
      exact ⟨va, vb, br_t (nI_le l (by omega)) ⟨va, fin _ _ l2 l1 l (Or.inr ⟨rfl, rfl⟩)⟩⟩
theorem gy_diff {post : Int32 → Prop} {c e t net : Nat} (hm : m ≤ 32) (hs : s = gw_cnt (gw_sk K) m) (h10 : s ≤ 10) (hS : gw_En (gw_sk K) yS m) (hr : r = gw_cnt (gw_rk K) m) (h6 : r ≤ 6) (hc : c < 2 ^ r) (he : e < 2 ^ r) (ht : t ≤ 1000) (hB : ∀ b, b < 2 ^ s → yF b = nI (gw_tk K X Y Z F m (gw_sa K b))) (hV : ∀ b, b < 2 ^ s → yW b = gw_b (gw_T K X Y Z m net b)) (h : ∀ z, gw_tv (∃ w, w < 2 ^ gw_q K m ∧ gw_dt K X Y Z F yP m net c e t w) z → post z) : wpY_differs post (nI m, nI s, nI r, K, X, Y, Z, F, H, yA, yO, yS, yR, yL, yN, yD, yT, yM, yF, yW, yP) (nI c) (nI e) (nI t) (nI (gw_msk K m)) :=
  ⟨gw_msk K m + 2, gy_diff_l hm hs h10 hS hr h6 hc he ht hB hV h (gw_msk K m) _ (by omega) (Nat.and_self _) (fun b' h1 h2 => absurd (gw_msk_le h1) (by omega))⟩
theorem gy_c60_l {post : SY → Prop} {J37 J : Int32 → Int32 → (Nat → Int32) → (Nat → Int32) → (Nat → Int32) → (Nat → Int32) → (Nat → Int32) → (Nat → Int32) → (Nat → Int32) → (Nat → Int32) → (Nat → Int32) → (Nat → Int32) → (Nat → Int32) → (Nat → Int32) → (Nat → Int32) → (Nat → Int32) → (Nat → Int32) → (Nat → Int32) → (Nat → Int32) → (Nat → Int32) → Prop} {R t c net : Nat} (hm : m ≤ 32) (hs : s = gw_cnt (gw_sk K) m) (h10 : s ≤ 10) (hS : gw_En (gw_sk K) yS m) (hr : r = gw_cnt (gw_rk K) m) (h6 : r ≤ 6) (hRR : R = 2 ^ r) (hc : c < R) (ht : t ≤ 1000) (hB : ∀ b, b < 2 ^ s → yF b = nI (gw_tk K X Y Z F m (gw_sa K b))) (hV : ∀ b, b < 2 ^ s → yW b = gw_b (gw_T K X Y Z m net b)) (h : ∀ A z, gw_AS (2 ^ gw_q K m) (gw_stp K X Y Z F m) (gw_sh K X Y Z m net) R t (fun x y => x < c + 1) A → gw_tv (gw_any (2 ^ gw_q K m) (gw_stp K X Y Z F m) (gw_sh K X Y Z m net) R t (c + 1) 0) z → J z (nI (c + 1)) K X Y Z F H yA yO yS yR yL yN yD yT yM yF yW A) : ∀ d e g z A, e + d = c → d < g → gw_AS (2 ^ gw_q K m) (gw_stp K X Y Z F m) (gw_sh K X Y Z m net) R t (fun x y => x < c ∨ (x = c ∧ y < e)) A → gw_tv (gw_any (2 ^ gw_q K m) (gw_stp K X Y Z F m) (gw_sh K X Y Z m net) R t c e) z → wY_compare_60 post J37 J (nI (gw_msk K m)) (nI t) (nI c) (nI m) (nI s) (nI r) g z (nI e) K X Y Z F H yA yO yS yR yL yN yD yT yM yF yW A := by
  have hR2 : R ≤ 64 := by rw [hRR]; exact gw_p6 h6
  have hstp : ∀ w x, w < 2 ^ gw_q K m → x < R → gw_stp K X Y Z F m w x < R := fun w x _ _ => by rw [hRR, hr]; exact gw_stp_lt K X Y Z F m w x
  intro d
  induction d with
  | zero =>
    intro e g z A h1 h2 hA hz
    obtain ⟨g, rfl⟩ := gw_fz h2
    rw [wY_compare_60]
    refine br_t (nI_le (by omega) (by omega)) (nm_r (nI_1 c) (h A z (gw_AS_congr hA (fun x y hx hy => ?_)) (gw_tv_iff hz ?_)))
    · constructor
      · rintro (q | q) <;> omega
      · intro q; omega
    · constructor
      · rintro ⟨x, y, q1, q2, q3, q4⟩
        exact ⟨x, y, q1, q2, by omega, q4⟩
      · rintro ⟨x, y, q1, q2, q3, q4⟩
        exact ⟨x, y, q1, q2, by omega, q4⟩
  | succ d ih =>
    intro e g z A h1 h2 hA hz
    obtain ⟨g, rfl⟩ := gw_fz h2
    have cp : (nI (c * 64 + e)).toNatClampNeg = c * 64 + e := nI_clamp (by omega)
    have vp : vp_in (nI (c * 64 + e)) 4096 := vp_in_nI (by omega) (by omega)
    have pc : ∀ x y, y < x → x < R → ((x < c ∨ (x = c ∧ y < e)) ∨ (x = c ∧ y = e) ↔ (x < c ∨ (x = c ∧ y < e + 1))) := by
      intro x y _ _
      constructor
      · rintro ((q | q) | q) <;> omega
      · intro q; omega
    have anyno : ¬ gw_B (2 ^ gw_q K m) (gw_stp K X Y Z F m) (gw_sh K X Y Z m net) c e t → gw_tv (gw_any (2 ^ gw_q K m) (gw_stp K X Y Z F m) (gw_sh K X Y Z m net) R t c (e + 1)) z := by
      intro nb
      refine gw_tv_iff hz ⟨?_, ?_⟩
      · rintro ⟨x, y, q1, q2, q3, q4⟩
        exact ⟨x, y, q1, q2, by omega, q4⟩
      · rintro ⟨x, y, q1, q2, q3, q4⟩
        by_cases q5 : x = c ∧ y = e
        · obtain ⟨rfl, rfl⟩ := q5
          exact absurd q4 nb
        · exact ⟨x, y, q1, q2, by omega, q4⟩
    rw [wY_compare_60]
    refine br_f (nI_ge (by omega) (by omega)) ?_
    rw [gw_pl64, cp]
    refine ⟨vp, ?_⟩
    rcases gw_AS_cases hA (show e < c by omega) hc with ⟨s', hs', hb', q⟩ | ⟨hp, _, _⟩ | ⟨n1, n2, q⟩
    · rw [q]
      refine br_t (nI_pos' (by omega)) (nm_r (nI_1 e) (ih (e + 1) g z A (by omega) (by omega) (gw_AS_congr (gw_AS_skip hA (by omega) hc (Or.inl ?_)) pc) (anyno (fun hb => ?_))))
      · rw [q]; exact gw_m1 (by omega)
      · have := gw_B_u hb hb'
        omega
    · omega
    · refine br_f (by rw [q]; decide) (gy_diff hm hs h10 hS hr h6 (by omega) (by omega) ht hB hV (fun z10 hz10 => ?_))
      have hz2 : gw_tv (gw_B (2 ^ gw_q K m) (gw_stp K X Y Z F m) (gw_sh K X Y Z m net) c e t) z10 := by
        refine gw_tv_iff hz10 ?_
        by_cases t0 : t = 0
        · subst t0
          rw [gw_B_0]
          constructor
          · rintro ⟨w, hw, ⟨_, q2⟩ | ⟨t', q2, _⟩⟩
            · exact ⟨w, hw, q2⟩
            · omega
          · rintro ⟨w, hw, q2⟩
            exact ⟨w, hw, Or.inl ⟨rfl, q2⟩⟩
        · obtain ⟨t', rfl⟩ : ∃ t', t = t' + 1 := ⟨t - 1, by omega⟩
          rw [← gw_AS_test hstp hA (by omega) (show e < c by omega) hc n1]
          constructor
          · rintro ⟨w, hw, ⟨q2, _⟩ | ⟨t2, q2, q3⟩⟩
            · omega
            · exact ⟨w, hw, by rw [show t' = t2 by omega]; exact q3⟩
          · rintro ⟨w, hw, q2⟩
            exact ⟨w, hw, Or.inr ⟨t', rfl, q2⟩⟩
      rcases hz2 with ⟨hb, e10⟩ | ⟨nb, e10⟩
      · rw [e10]
        exact br_f gw_n10 ⟨vp, nm_e (nm_r (nI_1 e) (ih (e + 1) g 1 _ (by omega) (by omega) (gw_AS_congr (gw_AS_mark hR2 hA (by omega) (by omega) hc q hb) pc) (gw_tv_t ⟨c, e, by omega, hc, by omega, hb⟩)))⟩
      · rw [e10]
        exact br_t rfl (nm_r (nI_1 e) (ih (e + 1) g z A (by omega) (by omega) (gw_AS_congr (gw_AS_skip hA (by omega) hc (Or.inr nb)) pc) (anyno nb)))
theorem gy_c46_l {post : SY → Prop} {J : Int32 → Int32 → (Nat → Int32) → (Nat → Int32) → (Nat → Int32) → (Nat → Int32) → (Nat → Int32) → (Nat → Int32) → (Nat → Int32) → (Nat → Int32) → (Nat → Int32) → (Nat → Int32) → (Nat → Int32) → (Nat → Int32) → (Nat → Int32) → (Nat → Int32) → (Nat → Int32) → (Nat → Int32) → (Nat → Int32) → (Nat → Int32) → Prop} {R t net : Nat} (hm : m ≤ 32) (hs : s = gw_cnt (gw_sk K) m) (h10 : s ≤ 10) (hS : gw_En (gw_sk K) yS m) (hr : r = gw_cnt (gw_rk K) m) (h6 : r ≤ 6) (hRR : R = 2 ^ r) (ht : t ≤ 1000) (hB : ∀ b, b < 2 ^ s → yF b = nI (gw_tk K X Y Z F m (gw_sa K b))) (hV : ∀ b, b < 2 ^ s → yW b = gw_b (gw_T K X Y Z m net b)) (h : ∀ A z, gw_AS (2 ^ gw_q K m) (gw_stp K X Y Z F m) (gw_sh K X Y Z m net) R t (fun x y => x < R) A → gw_tv (gw_any (2 ^ gw_q K m) (gw_stp K X Y Z F m) (gw_sh K X Y Z m net) R t R 0) z → J z (nI (t + 1)) K X Y Z F H yA yO yS yR yL yN yD yT yM yF yW A) : ∀ d c g z A, c + d = R → d < g → gw_AS (2 ^ gw_q K m) (gw_stp K X Y Z F m) (gw_sh K X Y Z m net) R t (fun x y => x < c) A → gw_tv (gw_any (2 ^ gw_q K m) (gw_stp K X Y Z F m) (gw_sh K X Y Z m net) R t c 0) z → wY_compare_46 post J (nI (gw_msk K m)) (nI t) (nI m) (nI s) (nI r) g z (nI c) K X Y Z F H yA yO yS yR yL yN yD yT yM yF yW A := by
  have hR2 : R ≤ 64 := by rw [hRR]; exact gw_p6 h6
  intro d
  induction d with
  | zero =>
    intro c g z A h1 h2 hA hz
    obtain ⟨g, rfl⟩ := gw_fz h2
    have e : c = R := by omega
    subst e
    rw [wY_compare_46, gw_pow (by omega), ← hRR]
    exact br_t (nI_le (by omega) (by omega)) (nm_r (nI_1 t) (h A z hA hz))
  | succ d ih =>
    intro c g z A h1 h2 hA hz
    obtain ⟨g, rfl⟩ := gw_fz h2
    rw [wY_compare_46, gw_pow (by omega), ← hRR]
    refine br_f (nI_ge (by omega) (by omega)) ⟨c + 1, gy_c60_l hm hs h10 hS hr h6 hRR (by omega) ht hB hV (fun A' z' hA' hz' => ih (c + 1) g z' A' (by omega) (by omega) hA' hz') c 0 (c + 1) z A (by omega) (by omega) (gw_AS_congr hA (fun x y _ _ => ?_)) hz⟩
    constructor
    · intro q; omega
    · rintro (q | q) <;> omega
theorem gy_c37_l {post : SY → Prop} {R net : Nat} (hm : m ≤ 32) (hs : s = gw_cnt (gw_sk K) m) (h10 : s ≤ 10) (hS : gw_En (gw_sk K) yS m) (hr : r = gw_cnt (gw_rk K) m) (h6 : r ≤ 6) (hRR : R = 2 ^ r) (hB : ∀ b, b < 2 ^ s → yF b = nI (gw_tk K X Y Z F m (gw_sa K b))) (hV : ∀ b, b < 2 ^ s → yW b = gw_b (gw_T K X Y Z m net b)) (h : ∀ A, gw_AF (2 ^ gw_q K m) (gw_stp K X Y Z F m) (gw_sh K X Y Z m net) R A → post (nI m, nI s, nI r, K, X, Y, Z, F, H, yA, yO, yS, yR, yL, yN, yD, yT, yM, yF, yW, A)) : ∀ d t g A, t + d = R → d + 1 < g → gw_AS (2 ^ gw_q K m) (gw_stp K X Y Z F m) (gw_sh K X Y Z m net) R t (fun _ _ => False) A → wY_compare_37 post (nI (gw_msk K m)) (nI m) (nI s) (nI r) g 1 (nI t) K X Y Z F H yA yO yS yR yL yN yD yT yM yF yW A := by
  have hR2 : R ≤ 64 := by rw [hRR]; exact gw_p6 h6
  have hstp : ∀ w x, w < 2 ^ gw_q K m → x < R → gw_stp K X Y Z F m w x < R := fun w x _ _ => by rw [hRR, hr]; exact gw_stp_lt K X Y Z F m w x
  have start : ∀ {t : Nat} {A : Nat → Int32}, gw_AS (2 ^ gw_q K m) (gw_stp K X Y Z F m) (gw_sh K X Y Z m net) R t (fun _ _ => False) A → gw_AS (2 ^ gw_q K m) (gw_stp K X Y Z F m) (gw_sh K X Y Z m net) R t (fun x y => x < 0) A := fun hA => gw_AS_congr hA (fun x y _ _ => ⟨fun q => q.elim, fun q => absurd q (Nat.not_lt_zero _)⟩)
  have none : ∀ t, gw_tv (gw_any (2 ^ gw_q K m) (gw_stp K X Y Z F m) (gw_sh K X Y Z m net) R t 0 0) 0 := fun t => gw_tv_f (by
    rintro ⟨x, y, q1, q2, q3, q4⟩
    omega)
  intro d
  induction d with
  | zero =>
    intro t g A h1 h2 hA
    obtain ⟨g, rfl⟩ := gw_fz h2
    obtain ⟨g, rfl⟩ := gw_fz (show 0 < g by omega)
    rw [wY_compare_37]
    refine br_f gw_n10 ⟨R + 1, gy_c46_l hm hs h10 hS hr h6 hRR (by omega) hB hV (fun A' z hA' hz => ?_) R 0 (R + 1) 0 A (by omega) (by omega) (start hA) (none t)⟩
    rcases hz with ⟨⟨x, y, q1, q2, _, q4⟩, e⟩ | ⟨hn, e⟩
    · have := gw_B_lt hstp q2 (by omega) q4
      omega
    · rw [e, wY_compare_37]
      exact br_t rfl (h A' (gw_AF_stop hstp hA' (fun c d _ hc => hc) (fun c d h3 h4 hb => hn ⟨c, d, h3, h4, Or.inl h4, hb⟩)))
  | succ d ih =>
    intro t g A h1 h2 hA
    obtain ⟨g, rfl⟩ := gw_fz h2
    obtain ⟨g, rfl⟩ := gw_fz (show 0 < g by omega)
    rw [wY_compare_37]
    refine br_f gw_n10 ⟨R + 1, gy_c46_l hm hs h10 hS hr h6 hRR (by omega) hB hV (fun A' z hA' hz => ?_) R 0 (R + 1) 0 A (by omega) (by omega) (start hA) (none t)⟩
    rcases hz with ⟨_, e⟩ | ⟨hn, e⟩
    · rw [e]
      exact ih (t + 1) (g + 1) A' (by omega) (by omega) (gw_AS_next hA' (fun c d _ hc => hc))
    · rw [e, wY_compare_37]
      exact br_t rfl (h A' (gw_AF_stop hstp hA' (fun c d _ hc => hc) (fun c d h3 h4 hb => hn ⟨c, d, h3, h4, Or.inl h4, hb⟩)))
theorem gy_c7_l {post : SY → Prop} {R net : Nat} (hm : m ≤ 32) (hs : s = gw_cnt (gw_sk K) m) (h10 : s ≤ 10) (hS : gw_En (gw_sk K) yS m) (hr : r = gw_cnt (gw_rk K) m) (h6 : r ≤ 6) (hRR : R = 2 ^ r) (hB : ∀ b, b < 2 ^ s → yF b = nI (gw_tk K X Y Z F m (gw_sa K b))) (hV : ∀ b, b < 2 ^ s → yW b = gw_b (gw_T K X Y Z m net b)) (h : ∀ A, gw_AF (2 ^ gw_q K m) (gw_stp K X Y Z F m) (gw_sh K X Y Z m net) R A → post (nI m, nI s, nI r, K, X, Y, Z, F, H, yA, yO, yS, yR, yL, yN, yD, yT, yM, yF, yW, A)) : ∀ d x g A, x + d = 4096 → d < g → (∀ y, y < x → A y = -1) → wY_compare_7 post (nI m) (nI s) (nI r) g (nI x) K X Y Z F H yA yO yS yR yL yN yD yT yM yF yW A := by
  have hR2 : R ≤ 64 := by rw [hRR]; exact gw_p6 h6
  intro d
  induction d with
  | zero =>
    intro x g A h1 h2 hA
    obtain ⟨g, rfl⟩ := gw_fz h2
    rw [wY_compare_7]
    exact br_t (nI_le (a := 4096) (by omega) (by omega)) (gy_inp hm hs h10 hS ⟨R + 2, gy_c37_l hm hs h10 hS hr h6 hRR hB hV h R 0 (R + 2) A (by omega) (by omega) (gw_AS_0 (fun c d hd hc => hA _ (by omega)))⟩)
  | succ d ih =>
    intro x g A h1 h2 hA
    obtain ⟨g, rfl⟩ := gw_fz h2
    have cx : (nI x).toNatClampNeg = x := nI_clamp (by omega)
    rw [wY_compare_7]
    refine br_f (nI_ge (b := 4096) (by omega) (by decide)) ⟨vp_in_nI (by omega) (by omega), nm_r (e' := upd A x (-1)) (by rw [cx]) (nm_r (nI_1 x) (ih (x + 1) g _ (by omega) (by omega) (fun y hy => ?_)))⟩
    by_cases e : y = x
    · subst e; exact pk_us
    · rw [pk_un e]; exact hA y (by omega)
theorem gy_compare {post : SY → Prop} {net : Nat} (hm : m ≤ 32) (hW : gw_W K X Y Z F m) (hn : net < m) (hs : s = gw_cnt (gw_sk K) m) (h10 : s ≤ 10) (hS : gw_En (gw_sk K) yS m) (hr : r = gw_cnt (gw_rk K) m) (h6 : r ≤ 6) (hR : gw_En (gw_rk K) yR m) (h : ∀ A B C P, gw_AF (2 ^ gw_q K m) (gw_stp K X Y Z F m) (gw_sh K X Y Z m net) (2 ^ r) P → post (nI m, nI s, nI r, K, X, Y, Z, F, H, A, yO, yS, yR, yL, yN, yD, yT, yM, B, C, P)) : wpY_compare post (nI m, nI s, nI r, K, X, Y, Z, F, H, yA, yO, yS, yR, yL, yN, yD, yT, yM, yF, yW, yP) (nI net) := by
  unfold wpY_compare
  dsimp only
  refine gy_spread (V := gw_T K X Y Z m net) hm hW hs h10 hS hr h6 hR (Or.inr ⟨net, hn, rfl, fun _ => rfl⟩) (fun A B C hB hC => ⟨4097, ?_⟩)
  exact gy_c7_l hm hs h10 hS hr h6 rfl hB hC (fun P hP => h A B C P hP) 4096 0 4097 yP (by omega) (by omega) (fun y hy => absurd hy (Nat.not_lt_zero _))
end
end
section
/-! apart and classes -/
section
variable {L : Nat} {stp : Nat → Nat → Nat} {sh : Nat → Nat → Bool}
theorem gw_AF_ne {N c d : Nat} {a : Nat → Int32} (hN : ∀ w c, w < L → c < N → stp w c < N) (hb : N < 2 ^ 31) (h : gw_AF L stp sh N a) (hd : d < c) (hc : c < N) : a (c * 64 + d) = -1 ↔ ¬ ∃ s, gw_B L stp sh c d s := by
  obtain ⟨a1, a2⟩ := h c d hd hc
  constructor
  · rintro e ⟨t, ht⟩
    rw [a1 t ht] at e
    exact gw_m1 (by have := gw_B_lt hN hc (by omega) ht; omega) e
  · exact fun g => a2 (fun s hs => g ⟨s, hs⟩)
theorem gw_AF_ge {N c d : Nat} {a : Nat → Int32} (hN : ∀ w c, w < L → c < N → stp w c < N) (hb : N < 2 ^ 31) (h : gw_AF L stp sh N a) (hd : d < c) (hc : c < N) : 0 ≤ a (c * 64 + d) ↔ ∃ s, gw_B L stp sh c d s := by
  obtain ⟨a1, a2⟩ := h c d hd hc
  by_cases g : ∃ s, gw_B L stp sh c d s
  · obtain ⟨t, ht⟩ := g
    rw [a1 t ht]
    exact ⟨fun _ => ⟨t, ht⟩, fun _ => nI_pos' (by have := gw_B_lt hN hc (by omega) ht; omega)⟩
  · rw [a2 (fun s hs => g ⟨s, hs⟩)]
    exact ⟨fun q => absurd q (by decide), fun q => absurd q g⟩
theorem gw_rd_u {N c d : Nat} {a b : Nat → Int32} (ha : gw_AF L stp sh N a) (hb : gw_AF L stp sh N b) (hc : c < N) (hd : d < N) : gw_rd a c d = gw_rd b c d := by
  unfold gw_rd
  rcases Nat.lt_trichotomy c d with g | g | g
  · rw [if_neg (by omega), if_pos g, if_neg (by omega), if_pos g]
    exact gw_AF_u ha hb g hd
  · rw [if_neg (by omega), if_neg (by omega), if_neg (by omega), if_neg (by omega)]
  · rw [if_pos g, if_pos g]
    exact gw_AF_u ha hb g hc
/-- a configuration that leads its class -/
def gw_Le (L : Nat) (stp : Nat → Nat → Nat) (sh : Nat → Nat → Bool) (c : Nat) : Prop := ∀ d, d < c → ∃ t, gw_B L stp sh c d t
end
section
variable {m s r : Nat} {tl pe : Int32} {K X Y Z F H xO xN xC xS xL xE xG xW xM xP : Nat → Int32}
theorem gx_cl47_l {post : Int32 → SX → Prop} {J : Int32 → Int32 → Prop} {R c net f : Nat} (h6 : r ≤ 6) (hr : r = gw_cnt (gw_rk K) m) (hRR : R = 2 ^ r) (hc : c < R) (hF : gw_AF (2 ^ gw_q K m) (gw_stp K X Y Z F m) (gw_sh K X Y Z m net) R xP) (h1 : gw_Le (2 ^ gw_q K m) (gw_stp K X Y Z F m) (gw_sh K X Y Z m net) c → J (nI (f + 1)) (nI (c + 1))) (h0 : ¬ gw_Le (2 ^ gw_q K m) (gw_stp K X Y Z F m) (gw_sh K X Y Z m net) c → J (nI f) (nI (c + 1))) : ∀ d e g z, e + d = c → d < g → gw_tv (∀ y, y < e → ∃ t, gw_B (2 ^ gw_q K m) (gw_stp K X Y Z F m) (gw_sh K X Y Z m net) c y t) z → wX_classes_47 post J (nI R) (nI f) (nI c) (nI m) (nI s) (nI r) tl pe K X Y Z F H xO xN xC xS xL xE xG xW xM xP g z (nI e) := by
  have hR2 : R ≤ 64 := by rw [hRR]; exact gw_p6 h6
  have hstp : ∀ w x, w < 2 ^ gw_q K m → x < R → gw_stp K X Y Z F m w x < R := fun w x _ _ => by rw [hRR, hr]; exact gw_stp_lt K X Y Z F m w x
  intro d
  induction d with
  | zero =>
    intro e g z e1 e2 hz
    obtain ⟨g, rfl⟩ := gw_fz e2
    have ee : e = c := by omega
    subst ee
    rw [wX_classes_47]
    refine br_t (nI_le (by omega) (by omega)) ?_
    rcases hz with ⟨p, ez⟩ | ⟨p, ez⟩
    · rw [ez]; exact br_f gw_n10 (nm_r (nI_1 f) (nm_r (nI_1 e) (h1 p)))
    · rw [ez]; exact br_t rfl (nm_r (nI_1 e) (h0 p))
  | succ d ih =>
    intro e g z e1 e2 hz
    obtain ⟨g, rfl⟩ := gw_fz e2
    have cp : (nI (c * 64 + e)).toNatClampNeg = c * 64 + e := nI_clamp (by omega)
    have ne := gw_AF_ne hstp (by omega) hF (show e < c by omega) hc
    rw [wX_classes_47]
    refine br_f (nI_ge (by omega) (by omega)) ?_
    unfold wpX_pairOf
    rw [gw_pr64]
    dsimp only
    rw [cp]
    refine ⟨vp_in_nI (by omega) (by omega), br_c (fun q => nm_r (nI_1 e) (ih (e + 1) g 0 (by omega) (by omega) (gw_tv_f (fun p => ne.mp q (p e (by omega)))))) (fun q => nm_r (nI_1 e) (ih (e + 1) g z (by omega) (by omega) (gw_tv_iff hz ⟨fun p => lt_s p (Classical.byContradiction (fun n => q (ne.mpr n))), fun p y hy => p y (by omega)⟩)))⟩
theorem gx_cl35_l {post : Int32 → SX → Prop} {R net : Nat} (h6 : r ≤ 6) (hr : r = gw_cnt (gw_rk K) m) (hRR : R = 2 ^ r) (hF : gw_AF (2 ^ gw_q K m) (gw_stp K X Y Z F m) (gw_sh K X Y Z m net) R xP) (h : post (nI (gw_cnt (gw_dc (gw_Le (2 ^ gw_q K m) (gw_stp K X Y Z F m) (gw_sh K X Y Z m net))) R)) (nI m, nI s, nI r, tl, pe, K, X, Y, Z, F, H, xO, xN, xC, xS, xL, xE, xG, xW, xM, xP)) : ∀ d c g, c + d = R → d < g → wX_classes_35 post (nI R) (nI m) (nI s) (nI r) tl pe K X Y Z F H xO xN xC xS xL xE xG xW xM xP g (nI (gw_cnt (gw_dc (gw_Le (2 ^ gw_q K m) (gw_stp K X Y Z F m) (gw_sh K X Y Z m net))) c)) (nI c) := by
  have hR2 : R ≤ 64 := by rw [hRR]; exact gw_p6 h6
  intro d
  induction d with
  | zero =>
    intro c g h1 h2
    obtain ⟨g, rfl⟩ := gw_fz h2
    have e : c = R := by omega
    rw [wX_classes_35]
    refine br_t (nI_le (by omega) (by omega)) ?_
    rw [e]
    exact h
  | succ d ih =>
    intro c g h1 h2
    obtain ⟨g, rfl⟩ := gw_fz h2
    have ihn := ih (c + 1) g (by omega) (by omega)
    rw [wX_classes_35]
    refine br_f (nI_ge (by omega) (by omega)) ⟨c + 1, gx_cl47_l h6 hr hRR (by omega) hF (fun p => ?_) (fun p => ?_) c 0 (c + 1) 1 (by omega) (by omega) (gw_tv_t (fun y hy => absurd hy (Nat.not_lt_zero _)))⟩
    · rw [gw_dc_st p] at ihn
      exact ihn
    · rw [gw_dc_sf p] at ihn
      exact ihn
theorem gx_classes {post : Int32 → SX → Prop} {net : Nat} (hm : m ≤ 32) (hW : gw_W K X Y Z F m) (hn : net < m) (hs : s = gw_cnt (gw_sk K) m) (hr : r = gw_cnt (gw_rk K) m) (h10 : s ≤ 10) (h6 : r ≤ 6) (h : ∀ G W P, post (nI (gw_cnt (gw_dc (gw_Le (2 ^ gw_q K m) (gw_stp K X Y Z F m) (gw_sh K X Y Z m net))) (2 ^ r))) (nI m, nI s, nI r, tl, pe, K, X, Y, Z, F, H, xO, xN, xC, xS, xL, xE, G, W, xM, P)) : wpX_classes post (nI m, nI s, nI r, tl, pe, K, X, Y, Z, F, H, xO, xN, xC, xS, xL, xE, xG, xW, xM, xP) (nI net) := by
  unfold wpX_classes
  dsimp only
  refine gx_net hm hn (br_f gw_n10 (gx_goes hm hW hs hr h10 (fun G hG => gx_shows hm hW hn hs hr h10 (fun W hV => gx_fa hs hr h10 h6 hG hV (fun P hP hSy => nm_r (gw_pow (by omega)) ⟨2 ^ r + 1, ?_⟩)))))
  exact gx_cl35_l h6 hr rfl hP (h G W P) (2 ^ r) 0 (2 ^ r + 1) (by omega) (by omega)
theorem gx_apart {post : Int32 → SX → Prop} {net c d : Nat} (hm : m ≤ 32) (hW : gw_W K X Y Z F m) (hn : net < m) (hs : s = gw_cnt (gw_sk K) m) (hr : r = gw_cnt (gw_rk K) m) (h10 : s ≤ 10) (h6 : r ≤ 6) (hc : c < 2 ^ r) (hd : d < 2 ^ r) (h : ∀ G W P, gw_AF (2 ^ gw_q K m) (gw_stp K X Y Z F m) (gw_sh K X Y Z m net) (2 ^ r) P → post (gw_rd P c d) (nI m, nI s, nI r, tl, pe, K, X, Y, Z, F, H, xO, xN, xC, xS, xL, xE, G, W, xM, P)) : wpX_apart post (nI m, nI s, nI r, tl, pe, K, X, Y, Z, F, H, xO, xN, xC, xS, xL, xE, xG, xW, xM, xP) (nI net) (nI c) (nI d) := by
  have hp := gw_p6 h6
  have cp : (nI (c * 64 + d)).toNatClampNeg = c * 64 + d := nI_clamp (by omega)
  unfold wpX_apart
  dsimp only
  refine gx_net hm hn (br_f gw_n10 (gx_isconf h6 (fun _ => br_f gw_n10 (gx_isconf h6 (fun _ => br_f gw_n10 (gx_goes hm hW hs hr h10 (fun G hG => gx_shows hm hW hn hs hr h10 (fun W hV => gx_fa hs hr h10 h6 hG hV (fun P hP hSy => ?_))))) (fun q => absurd ⟨d, hd, rfl⟩ q))) (fun q => absurd ⟨c, hc, rfl⟩ q)))
  unfold wpX_pairOf
  dsimp only
  rw [gw_pr64, cp, hSy c d hc hd]
  exact ⟨vp_in_nI (by omega) (by omega), h G W P hP⟩
end
section
variable {m s r : Nat} {K X Y Z F H yA yO yS yR yL yN yD yT yM yF yW yP : Nat → Int32}
theorem gy_cl35_l {post : Int32 → SY → Prop} {J : Int32 → Int32 → Prop} {R c net f : Nat} (h6 : r ≤ 6) (hr : r = gw_cnt (gw_rk K) m) (hRR : R = 2 ^ r) (hc : c < R) (hF : gw_AF (2 ^ gw_q K m) (gw_stp K X Y Z F m) (gw_sh K X Y Z m net) R yP) (h1 : gw_Le (2 ^ gw_q K m) (gw_stp K X Y Z F m) (gw_sh K X Y Z m net) c → J (nI (f + 1)) (nI (c + 1))) (h0 : ¬ gw_Le (2 ^ gw_q K m) (gw_stp K X Y Z F m) (gw_sh K X Y Z m net) c → J (nI f) (nI (c + 1))) : ∀ d e g z, e + d = c → d < g → gw_tv (∀ y, y < e → ∃ t, gw_B (2 ^ gw_q K m) (gw_stp K X Y Z F m) (gw_sh K X Y Z m net) c y t) z → wY_classes_35 post J (nI f) (nI c) (nI m) (nI s) (nI r) K X Y Z F H yA yO yS yR yL yN yD yT yM yF yW yP g z (nI e) := by
  have hR2 : R ≤ 64 := by rw [hRR]; exact gw_p6 h6
  have hstp : ∀ w x, w < 2 ^ gw_q K m → x < R → gw_stp K X Y Z F m w x < R := fun w x _ _ => by rw [hRR, hr]; exact gw_stp_lt K X Y Z F m w x
  intro d
  induction d with
  | zero =>
    intro e g z e1 e2 hz
    obtain ⟨g, rfl⟩ := gw_fz e2
    have ee : e = c := by omega
    subst ee
    rw [wY_classes_35]
    refine br_t (nI_le (by omega) (by omega)) ?_
    rcases hz with ⟨p, ez⟩ | ⟨p, ez⟩
    · rw [ez]; exact br_f gw_n10 (nm_r (nI_1 f) (nm_r (nI_1 e) (h1 p)))
    · rw [ez]; exact br_t rfl (nm_r (nI_1 e) (h0 p))
  | succ d ih =>
    intro e g z e1 e2 hz
    obtain ⟨g, rfl⟩ := gw_fz e2
    have cp : (nI (c * 64 + e)).toNatClampNeg = c * 64 + e := nI_clamp (by omega)
    have ge := gw_AF_ge hstp (by omega) hF (show e < c by omega) hc
    rw [wY_classes_35]
    refine br_f (nI_ge (by omega) (by omega)) ?_
    rw [gw_pl64, cp]
    refine ⟨vp_in_nI (by omega) (by omega), br_c (fun q => nm_r (nI_1 e) (ih (e + 1) g z (by omega) (by omega) (gw_tv_iff hz ⟨fun p => lt_s p (ge.mp q), fun p y hy => p y (by omega)⟩))) (fun q => nm_r (nI_1 e) (ih (e + 1) g 0 (by omega) (by omega) (gw_tv_f (fun p => q (ge.mpr (p e (by omega)))))))⟩
theorem gy_cl19_l {post : Int32 → SY → Prop} {R net : Nat} (h6 : r ≤ 6) (hr : r = gw_cnt (gw_rk K) m) (hRR : R = 2 ^ r) (hF : gw_AF (2 ^ gw_q K m) (gw_stp K X Y Z F m) (gw_sh K X Y Z m net) R yP) (h : post (nI (gw_cnt (gw_dc (gw_Le (2 ^ gw_q K m) (gw_stp K X Y Z F m) (gw_sh K X Y Z m net))) R)) (nI m, nI s, nI r, K, X, Y, Z, F, H, yA, yO, yS, yR, yL, yN, yD, yT, yM, yF, yW, yP)) : ∀ d c g, c + d = R → d < g → wY_classes_19 post (nI m) (nI s) (nI r) K X Y Z F H yA yO yS yR yL yN yD yT yM yF yW yP g (nI (gw_cnt (gw_dc (gw_Le (2 ^ gw_q K m) (gw_stp K X Y Z F m) (gw_sh K X Y Z m net))) c)) (nI c) := by
  have hR2 : R ≤ 64 := by rw [hRR]; exact gw_p6 h6
  intro d
  induction d with
  | zero =>
    intro c g h1 h2
    obtain ⟨g, rfl⟩ := gw_fz h2
    have e : c = R := by omega
    rw [wY_classes_19, gw_pow (by omega), ← hRR]
    refine br_t (nI_le (by omega) (by omega)) ?_
    rw [e]
    exact h
  | succ d ih =>
    intro c g h1 h2
    obtain ⟨g, rfl⟩ := gw_fz h2
    have ihn := ih (c + 1) g (by omega) (by omega)
    rw [wY_classes_19, gw_pow (by omega), ← hRR]
    refine br_f (nI_ge (by omega) (by omega)) ⟨c + 1, gy_cl35_l h6 hr hRR (by omega) hF (fun p => ?_) (fun p => ?_) c 0 (c + 1) 1 (by omega) (by omega) (gw_tv_t (fun y hy => absurd hy (Nat.not_lt_zero _)))⟩
    · rw [gw_dc_st p] at ihn
      exact ihn
    · rw [gw_dc_sf p] at ihn
      exact ihn
theorem gy_classes {post : Int32 → SY → Prop} {net : Nat} (hm : m ≤ 32) (hW : gw_W K X Y Z F m) (hn : net < m) (hs : s = gw_cnt (gw_sk K) m) (h10 : s ≤ 10) (hS : gw_En (gw_sk K) yS m) (hr : r = gw_cnt (gw_rk K) m) (h6 : r ≤ 6) (hR : gw_En (gw_rk K) yR m) (h : ∀ A B C P, post (nI (gw_cnt (gw_dc (gw_Le (2 ^ gw_q K m) (gw_stp K X Y Z F m) (gw_sh K X Y Z m net))) (2 ^ r))) (nI m, nI s, nI r, K, X, Y, Z, F, H, A, yO, yS, yR, yL, yN, yD, yT, yM, B, C, P)) : wpY_classes post (nI m, nI s, nI r, K, X, Y, Z, F, H, yA, yO, yS, yR, yL, yN, yD, yT, yM, yF, yW, yP) (nI net) := by
  unfold wpY_classes
  dsimp only
  refine gy_net hm hn (br_f gw_n10 (gy_compare hm hW hn hs h10 hS hr h6 hR (fun A B C P hP => ⟨2 ^ r + 1, ?_⟩)))
  exact gy_cl19_l h6 hr rfl hP (h A B C P) (2 ^ r) 0 (2 ^ r + 1) (by omega) (by omega)
theorem gy_apart {post : Int32 → SY → Prop} {net c d : Nat} (hm : m ≤ 32) (hW : gw_W K X Y Z F m) (hn : net < m) (hs : s = gw_cnt (gw_sk K) m) (h10 : s ≤ 10) (hS : gw_En (gw_sk K) yS m) (hr : r = gw_cnt (gw_rk K) m) (h6 : r ≤ 6) (hR : gw_En (gw_rk K) yR m) (hc : c < 2 ^ r) (hd : d < 2 ^ r) (h0 : c = d → post (-1) (nI m, nI s, nI r, K, X, Y, Z, F, H, yA, yO, yS, yR, yL, yN, yD, yT, yM, yF, yW, yP)) (h : c ≠ d → ∀ A B C P, gw_AF (2 ^ gw_q K m) (gw_stp K X Y Z F m) (gw_sh K X Y Z m net) (2 ^ r) P → post (gw_rd P c d) (nI m, nI s, nI r, K, X, Y, Z, F, H, A, yO, yS, yR, yL, yN, yD, yT, yM, B, C, P)) : wpY_apart post (nI m, nI s, nI r, K, X, Y, Z, F, H, yA, yO, yS, yR, yL, yN, yD, yT, yM, yF, yW, yP) (nI net) (nI c) (nI d) := by
  have hp := gw_p6 h6
  have c1 : (nI (c * 64 + d)).toNatClampNeg = c * 64 + d := nI_clamp (by omega)
  have c2 : (nI (d * 64 + c)).toNatClampNeg = d * 64 + c := nI_clamp (by omega)
  unfold wpY_apart
  dsimp only
  rw [gw_pow (by omega)]
  refine nm_e (gy_net hm hn (br_f gw_n10 (gy_bl (by omega) (fun _ => br_f gw_n10 (gy_bl (by omega) (fun _ => br_f gw_n10 ?_) (fun q => absurd ⟨d, hd, rfl⟩ q))) (fun q => absurd ⟨c, hc, rfl⟩ q))))
  by_cases e : c = d
  · exact br_t (by rw [e]) (h0 e)
  · refine br_f (fun q => e ((nI_eq (by omega) (by omega)).mp q)) (gy_compare hm hW hn hs h10 hS hr h6 hR (fun A B C P hP => ?_))
    have g := h e A B C P hP
    dsimp only
    rw [gw_pl64, gw_pl64, c1, c2]
    unfold gw_rd at g
    rcases Nat.lt_or_ge d c with l | l
    · rw [if_pos l] at g
      exact br_f (nI_ge l (by omega)) ⟨vp_in_nI (by omega) (by omega), g⟩
    · rw [if_neg (by omega), if_pos (by omega)] at g
      exact br_t (nI_le l (by omega)) ⟨vp_in_nI (by omega) (by omega), g⟩
end
theorem i_vc_apart {k : Nat} {u : SX} {v : SY} (I : i_Rel k u v) (hk : k + 6 ≤ 3072) (v1 : Int32) (v2 : Int32) (v3 : Int32) : wpX_apart (fun r u' => wpY_apart (fun r' v' => r' = r ∧ i_Rel (k + 6) u' v') v v1 v2 v3) u v1 v2 v3 := by
  have J : i_Rel (k + 6) u v := I
  obtain ⟨m, K, X, Y, Z, F, H, ⟨hm, hW, h01, h10, h6⟩, ⟨tl, pe, xO, xN, xC, xS, xL, xE, xG, xW, xM, xP, rfl⟩, ⟨yA, yO, yS, yR, yL, yN, yD, yT, yM, yF, yW, yP, rfl, hS, hR⟩⟩ := I
  have hp := gw_p6 h6
  rcases gw_net (x := v1) (m := m) (by omega) with ⟨n, hn, rfl⟩ | hx
  · by_cases c : gw_bl v2 (2 ^ gw_cnt (gw_rk K) m)
    · obtain ⟨c, hc, rfl⟩ := c
      by_cases d : gw_bl v3 (2 ^ gw_cnt (gw_rk K) m)
      · obtain ⟨d, hd, rfl⟩ := d
        refine gx_apart hm hW hn rfl rfl h10 h6 hc hd (fun G W P hP => gy_apart hm hW hn rfl h10 hS rfl h6 hR hc hd (fun e => ⟨?_, gw_rel ⟨hm, hW, h01, h10, h6⟩ hS hR⟩) (fun _ A B C P' hP' => ⟨gw_rd_u hP' hP hc hd, gw_rel ⟨hm, hW, h01, h10, h6⟩ hS hR⟩))
        subst e
        unfold gw_rd
        rw [if_neg (by omega), if_neg (by omega)]
      · unfold wpX_apart wpY_apart
        dsimp only
        refine gx_net hm hn (br_f gw_n10 (gx_isconf h6 (fun _ => br_f gw_n10 (gx_isconf h6 (fun q => absurd q d) (fun _ => br_t rfl ?_))) (fun q => absurd ⟨c, hc, rfl⟩ q)))
        rw [gw_pow (by omega)]
        exact nm_e (gy_net hm hn (br_f gw_n10 (gy_bl (by omega) (fun _ => br_f gw_n10 (gy_bl (by omega) (fun q => absurd q d) (fun _ => br_t rfl ⟨rfl, J⟩))) (fun q => absurd ⟨c, hc, rfl⟩ q))))
    · unfold wpX_apart wpY_apart
      dsimp only
      refine gx_net hm hn (br_f gw_n10 (gx_isconf h6 (fun q => absurd q c) (fun _ => br_t rfl ?_)))
      rw [gw_pow (by omega)]
      exact nm_e (gy_net hm hn (br_f gw_n10 (gy_bl (by omega) (fun q => absurd q c) (fun _ => br_t rfl ⟨rfl, J⟩))))
  · unfold wpX_apart wpY_apart
    dsimp only
    exact gx_nonet hx (br_t rfl (nm_e (gy_nonet hm hx (br_t rfl ⟨rfl, J⟩))))
theorem i_vc_classes {k : Nat} {u : SX} {v : SY} (I : i_Rel k u v) (hk : k + 6 ≤ 3072) (v1 : Int32) : wpX_classes (fun r u' => wpY_classes (fun r' v' => r' = r ∧ i_Rel (k + 6) u' v') v v1) u v1 := by
  have J : i_Rel (k + 6) u v := I
  obtain ⟨m, K, X, Y, Z, F, H, ⟨hm, hW, h01, h10, h6⟩, ⟨tl, pe, xO, xN, xC, xS, xL, xE, xG, xW, xM, xP, rfl⟩, ⟨yA, yO, yS, yR, yL, yN, yD, yT, yM, yF, yW, yP, rfl, hS, hR⟩⟩ := I
  rcases gw_net (x := v1) (m := m) (by omega) with ⟨n, hn, rfl⟩ | hx
  · exact gx_classes hm hW hn rfl rfl h10 h6 (fun G W P => gy_classes hm hW hn rfl h10 hS rfl h6 hR (fun A B C P' => ⟨rfl, gw_rel ⟨hm, hW, h01, h10, h6⟩ hS hR⟩))
  · unfold wpX_classes wpY_classes
    dsimp only
    exact gx_nonet hx (br_t rfl (gy_nonet hm hx (br_t rfl ⟨rfl, J⟩)))
end
section
/-! prime cubes in the component -/
theorem gw_t6 {k : Nat} (h : k ≤ 6) : 3 ^ k ≤ 729 := Nat.le_trans (Nat.pow_le_pow_right (by omega) h) (by decide)
theorem gw_bn (b : Bool) : gw_b b = nI b.toNat := by cases b <;> rfl
theorem gw_digit {c k : Nat} (hc : c < 2 ^ 31) (hk : k ≤ 6) : (nI c / nI (3 ^ k)) - (nI c / nI (3 ^ k)) / 3 * 3 = nI (gw_dg c k) := by
  have h1 := gw_t6 hk
  have h2 : c / 3 ^ k ≤ c := Nat.div_le_self _ _
  rw [pk_div hc (gw_p3 k) (by omega)]
  exact pk_rem (d := 3) (by omega) (by omega) (by omega)
/-- the table over the needed places -/
def gw_tb (f : Nat → Bool) (dep : Nat → Nat) (n : Nat) (a : Nat) : Bool := f (gw_nm dep (fun k => a.testBit k) n)
theorem gw_dg01 {c k : Nat} (h : gw_dg c k ≠ 2) : nI (gw_dg c k) = gw_b (decide (gw_dg c k = 1)) := by
  have h1 := gw_dg_lt c k
  rcases (show gw_dg c k = 0 ∨ gw_dg c k = 1 by omega) with e | e <;> rw [e] <;> rfl
section
variable {m s r : Nat} {tl pe : Int32} {K X Y Z F H xO xN xC xS xL xE xG xW xM xP : Nat → Int32}
theorem gx_cov_l {post : Int32 → Prop} {n c : Nat} {f : Nat → Bool} {dep : Nat → Nat} (h10 : s ≤ 10) (hn : n ≤ 6) (hc : c < 3 ^ n) (hd : ∀ k, k < n → dep k < s ∧ xN k = nI (dep k)) (hO : ∀ a, a < 2 ^ s → xO a = gw_b (f a)) (hC : ∀ x, x < c → gw_tv (gw_hd n (gw_tb f dep n) x) (xC x)) (h : ∀ z, gw_tv (gw_hd n (gw_tb f dep n) c) z → post z) : ∀ d i g, i + d = n → d < g → (∀ k, k < i → gw_dg c k ≠ 2) → wX_isCovered_8 post (nI c) (nI n) (nI m) (nI s) (nI r) tl pe K X Y Z F H xO xN xC xS xL xE xG xW xM xP g (nI (gw_nm dep (fun k => decide (gw_dg c k = 1)) i)) (nI (3 ^ i)) (nI i) := by
  have hc2 := gw_t6 hn
  have hN2 := gw_p10 h10
  intro d
  induction d with
  | zero =>
    intro i g h1 h2 h3
    obtain ⟨g, rfl⟩ := gw_fz h2
    have e : i = n := by omega
    subst e
    have hlt : gw_nm dep (fun k => decide (gw_dg c k = 1)) i < 2 ^ s := gw_nm_lt (fun k hk => (hd k hk).1)
    have ca : (nI (gw_nm dep (fun k => decide (gw_dg c k = 1)) i)).toNatClampNeg = gw_nm dep (fun k => decide (gw_dg c k = 1)) i := nI_clamp (by omega)
    rw [wX_isCovered_8]
    refine br_t (nI_le (by omega) (by omega)) ?_
    rw [ca, hO _ hlt]
    exact ⟨vp_in_nI (by omega) (by omega), gw_nbb _, h _ (gw_tv_iff (gw_tv_b _) (gw_hd_full (fun a _ => rfl) h3).symm)⟩
  | succ d ih =>
    intro i g h1 h2 h3
    obtain ⟨g, rfl⟩ := gw_fz h2
    have hw := gw_t6 (show i ≤ 6 by omega)
    have hw0 := gw_p3 i
    obtain ⟨hdl, hde⟩ := hd i (by omega)
    have ci : (nI i).toNatClampNeg = i := nI_clamp (by omega)
    rw [wX_isCovered_8]
    refine br_f (nI_ge (by omega) (by omega)) ⟨nI_ne0 hw0 (by omega), by decide, nm_r (gw_digit (by omega) (by omega)) ?_⟩
    by_cases d2 : gw_dg c i = 2
    · obtain ⟨p0, _, _⟩ := gw_dg_sub (c := c) (k := i) (e := 1) (by omega)
      obtain ⟨q0, _, _⟩ := gw_dg_sub (c := c) (k := i) (e := 2) (by omega)
      have sp := gw_hd_split (T := gw_tb f dep n) (show i < n by omega) d2
      have e1 : nI c - nI (3 ^ i) = nI (c - 3 ^ i) := pk_sub (by omega)
      have e2 : (2 : Int32) * nI (3 ^ i) = nI (2 * 3 ^ i) := pk_mul 2 _
      have e3 : nI c - nI (2 * 3 ^ i) = nI (c - 2 * 3 ^ i) := pk_sub (by omega)
      have c1 : (nI (c - 3 ^ i)).toNatClampNeg = c - 3 ^ i := nI_clamp (by omega)
      have c2 : (nI (c - 2 * 3 ^ i)).toNatClampNeg = c - 2 * 3 ^ i := nI_clamp (by omega)
      have t1 := hC (c - 3 ^ i) (by omega)
      have t2 := hC (c - 2 * 3 ^ i) (by omega)
      rw [e1, e2, e3, c1, c2]
      refine br_t (by rw [d2]; rfl) ⟨vp_in_nI (by omega) (by omega), br_c (fun q => h 0 (gw_tv_f (fun g => (gw_tv_0 t1).mp q (sp.mp g).1))) (fun q => ⟨vp_in_nI (by omega) (by omega), br_c (fun q2 => h 0 (gw_tv_f (fun g => (gw_tv_0 t2).mp q2 (sp.mp g).2))) (fun q2 => h 1 (gw_tv_t (sp.mpr ⟨?_, ?_⟩)))⟩)⟩
      · exact Classical.byContradiction (fun g => q ((gw_tv_0 t1).mpr g))
      · exact Classical.byContradiction (fun g => q2 ((gw_tv_0 t2).mpr g))
    · have hl3 := gw_dg_lt c i
      refine br_f (fun q => d2 ((nI_eq (b := 2) (by omega) (by decide)).mp q)) ⟨vp_in_nI (by omega) (by omega), ?_⟩
      rw [ci, hde, gw_dg01 d2]
      refine nm_r (gw_or _ _ (by omega)) (nm_r (e' := nI (3 ^ (i + 1))) (by rw [Nat.pow_succ]; exact pk_mul _ 3) (nm_r (nI_1 i) (ih (i + 1) g (by omega) (by omega) (lt_s h3 d2))))
theorem gx_cov {post : Int32 → Prop} {n c : Nat} {f : Nat → Bool} {dep : Nat → Nat} (h10 : s ≤ 10) (hn : n ≤ 6) (hc : c < 3 ^ n) (hd : ∀ k, k < n → dep k < s ∧ xN k = nI (dep k)) (hO : ∀ a, a < 2 ^ s → xO a = gw_b (f a)) (hC : ∀ x, x < c → gw_tv (gw_hd n (gw_tb f dep n) x) (xC x)) (h : ∀ z, gw_tv (gw_hd n (gw_tb f dep n) c) z → post z) : wpX_isCovered post (nI m, nI s, nI r, tl, pe, K, X, Y, Z, F, H, xO, xN, xC, xS, xL, xE, xG, xW, xM, xP) (nI c) (nI n) :=
  ⟨n + 1, gx_cov_l h10 hn hc hd hO hC h n 0 (n + 1) (by omega) (by omega) (fun k hk => absurd hk (Nat.not_lt_zero _))⟩
theorem gx_wide_l {post : Int32 → Prop} {n c : Nat} {T : Nat → Bool} (hn : n ≤ 6) (hc : c < 3 ^ n) (hC : ∀ x, x < 3 ^ n → gw_tv (gw_hd n T x) (xC x)) (h : ∀ z, gw_tv (∃ k, k < n ∧ gw_dg c k ≠ 2 ∧ gw_hd n T (c + (2 - gw_dg c k) * 3 ^ k)) z → post z) : ∀ d i g, i + d = n → d < g → (∀ k, k < i → gw_dg c k ≠ 2 → ¬ gw_hd n T (c + (2 - gw_dg c k) * 3 ^ k)) → wX_hasWiderCube_5 post (nI c) (nI n) (nI m) (nI s) (nI r) tl pe K X Y Z F H xO xN xC xS xL xE xG xW xM xP g (nI (3 ^ i)) (nI i) := by
  have hc2 := gw_t6 hn
  intro d
  induction d with
  | zero =>
    intro i g h1 h2 h3
    obtain ⟨g, rfl⟩ := gw_fz h2
    rw [wX_hasWiderCube_5]
    refine br_t (nI_le (by omega) (by omega)) (h 0 (gw_tv_f ?_))
    rintro ⟨k, h4, h5, h6⟩
    exact h3 k (by omega) h5 h6
  | succ d ih =>
    intro i g h1 h2 h3
    obtain ⟨g, rfl⟩ := gw_fz h2
    have hw := gw_t6 (show i ≤ 6 by omega)
    have hw0 := gw_p3 i
    have hl3 := gw_dg_lt c i
    have next : (gw_dg c i ≠ 2 → ¬ gw_hd n T (c + (2 - gw_dg c i) * 3 ^ i)) → ∀ x3_6 : Int32, x3_6 = nI (3 ^ i) * 3 → ∀ x4_7 : Int32, x4_7 = nI i + 1 → wX_hasWiderCube_5 post (nI c) (nI n) (nI m) (nI s) (nI r) tl pe K X Y Z F H xO xN xC xS xL xE xG xW xM xP g x3_6 x4_7 := fun hh =>
      nm_r (e' := nI (3 ^ (i + 1))) (by rw [Nat.pow_succ]; exact pk_mul _ 3) (nm_r (nI_1 i) (ih (i + 1) g (by omega) (by omega) (lt_s h3 hh)))
    rw [wX_hasWiderCube_5]
    refine br_f (nI_ge (by omega) (by omega)) ⟨nI_ne0 hw0 (by omega), by decide, nm_r (gw_digit (by omega) (by omega)) ?_⟩
    by_cases d2 : gw_dg c i = 2
    · exact br_t (by rw [d2]; rfl) (next (fun q => absurd d2 q))
    · have e1 : (2 : Int32) - nI (gw_dg c i) = nI (2 - gw_dg c i) := pk_sub (a := 2) (by omega)
      have hlt : c + (2 - gw_dg c i) * 3 ^ i < 3 ^ n := gw_dg_top (by omega) hc (by omega)
      have cc : (nI (c + (2 - gw_dg c i) * 3 ^ i)).toNatClampNeg = c + (2 - gw_dg c i) * 3 ^ i := nI_clamp (by omega)
      have tv := hC _ hlt
      rw [e1, pk_mul, nI_add, cc]
      exact br_f (fun q => d2 ((nI_eq (b := 2) (by omega) (by decide)).mp q)) ⟨vp_in_nI (by omega) (by omega), br_c (fun q => next (fun _ => (gw_tv_0 tv).mp q)) (fun q => h 1 (gw_tv_t ⟨i, by omega, d2, Classical.byContradiction (fun g => q ((gw_tv_0 tv).mpr g))⟩))⟩
theorem gx_wide {post : Int32 → Prop} {n c : Nat} {T : Nat → Bool} (hn : n ≤ 6) (hc : c < 3 ^ n) (hC : ∀ x, x < 3 ^ n → gw_tv (gw_hd n T x) (xC x)) (h : ∀ z, gw_tv (∃ k, k < n ∧ gw_dg c k ≠ 2 ∧ gw_hd n T (c + (2 - gw_dg c k) * 3 ^ k)) z → post z) : wpX_hasWiderCube post (nI m, nI s, nI r, tl, pe, K, X, Y, Z, F, H, xO, xN, xC, xS, xL, xE, xG, xW, xM, xP) (nI c) (nI n) :=
  ⟨n + 1, gx_wide_l hn hc hC h n 0 (n + 1) (by omega) (by omega) (fun k hk => absurd hk (Nat.not_lt_zero _))⟩
theorem gx_cp35_l {post : Int32 → SX → Prop} {n N : Nat} {T : Nat → Bool} (hn : n ≤ 6) (hN : N = 3 ^ n) (hC : ∀ x, x < 3 ^ n → gw_tv (gw_hd n T x) (xC x)) (h : post (nI (gw_cnt (gw_dc (gw_pr n T)) N)) (nI m, nI s, nI r, tl, pe, K, X, Y, Z, F, H, xO, xN, xC, xS, xL, xE, xG, xW, xM, xP)) : ∀ d c g, c + d = N → d < g → wX_countPrimes_35 post (nI n) (nI N) (nI m) (nI s) (nI r) tl pe K X Y Z F H xO xN xC xS xL xE xG xW xM xP g (nI (gw_cnt (gw_dc (gw_pr n T)) c)) (nI c) := by
  have hc2 := gw_t6 hn
  intro d
  induction d with
  | zero =>
    intro c g h1 h2
    obtain ⟨g, rfl⟩ := gw_fz h2
    have e : c = N := by omega
    rw [wX_countPrimes_35]
    refine br_t (nI_le (by omega) (by omega)) ?_
    rw [e]
    exact h
  | succ d ih =>
    intro c g h1 h2
    obtain ⟨g, rfl⟩ := gw_fz h2
    have cc : (nI c).toNatClampNeg = c := nI_clamp (by omega)
    have tv := hC c (by omega)
    have ihn := ih (c + 1) g (by omega) (by omega)
    have no : ¬ gw_pr n T c → wX_countPrimes_35 post (nI n) (nI N) (nI m) (nI s) (nI r) tl pe K X Y Z F H xO xN xC xS xL xE xG xW xM xP g (nI (gw_cnt (gw_dc (gw_pr n T)) c)) (nI (c + 1)) := fun q => by
      rw [gw_dc_sf q] at ihn
      exact ihn
    rw [wX_countPrimes_35]
    refine br_f (nI_ge (by omega) (by omega)) ⟨vp_in_nI (by omega) (by omega), ?_⟩
    rw [cc]
    refine br_c (fun q => nm_r (nI_1 c) (no (fun p => (gw_tv_0 tv).mp q p.1))) (fun q => gx_wide hn (by omega) hC (fun z hz => br_c (fun q2 => nm_r (nI_1 _) (nm_r (nI_1 c) ?_)) (fun q2 => nm_r (nI_1 c) (no (fun p => ?_)))))
    · have hp : gw_pr n T c := ⟨Classical.byContradiction (fun g => q ((gw_tv_0 tv).mpr g)), fun k hk hk2 hh => (gw_tv_0 hz).mp q2 ⟨k, hk, hk2, hh⟩⟩
      rw [gw_dc_st hp] at ihn
      exact ihn
    · refine q2 ((gw_tv_0 hz).mpr ?_)
      rintro ⟨k, hk, hk2, hh⟩
      exact p.2 k hk hk2 hh
theorem gx_cp7_l {post : Int32 → SX → Prop} {n N : Nat} {f : Nat → Bool} {dep : Nat → Nat} (h10 : s ≤ 10) (hn : n ≤ 6) (hN : N = 3 ^ n) (hd : ∀ k, k < n → dep k < s ∧ xN k = nI (dep k)) (hO : ∀ a, a < 2 ^ s → xO a = gw_b (f a)) (h : ∀ C, post (nI (gw_cnt (gw_dc (gw_pr n (gw_tb f dep n))) N)) (nI m, nI s, nI r, tl, pe, K, X, Y, Z, F, H, xO, xN, C, xS, xL, xE, xG, xW, xM, xP)) : ∀ d c g C, c + d = N → d < g → (∀ x, x < c → gw_tv (gw_hd n (gw_tb f dep n) x) (C x)) → wX_countPrimes_7 post (nI n) (nI N) (nI m) (nI s) (nI r) tl pe g (nI c) K X Y Z F H xO xN C xS xL xE xG xW xM xP := by
  have hc2 := gw_t6 hn
  intro d
  induction d with
  | zero =>
    intro c g C h1 h2 hC
    obtain ⟨g, rfl⟩ := gw_fz h2
    have e : c = N := by omega
    rw [wX_countPrimes_7]
    exact br_t (nI_le (by omega) (by omega)) ⟨N + 1, gx_cp35_l hn hN (fun x hx => hC x (by omega)) (h C) N 0 (N + 1) (by omega) (by omega)⟩
  | succ d ih =>
    intro c g C h1 h2 hC
    obtain ⟨g, rfl⟩ := gw_fz h2
    have cc : (nI c).toNatClampNeg = c := nI_clamp (by omega)
    rw [wX_countPrimes_7]
    refine br_f (nI_ge (by omega) (by omega)) (gx_cov h10 hn (by omega) hd hO hC (fun z hz => ⟨vp_in_nI (by omega) (by omega), nm_r (e' := upd C c z) (by rw [cc, gw_nar (gw_tv_01 hz)]) (nm_r (nI_1 c) (ih (c + 1) g _ (by omega) (by omega) (fun x hx => ?_)))⟩))
    by_cases e : x = c
    · subst e; rw [pk_us]; exact hz
    · rw [pk_un e]; exact hC x (by omega)
theorem gx_p3_l {post : Int32 → Prop} {n : Nat} (hn : n ≤ 6) (h : post (nI (3 ^ n))) : ∀ d i g, i + d = n → d < g → wX_powerOfThree_4 post (nI n) g (nI (3 ^ i)) (nI i) := by
  intro d
  induction d with
  | zero =>
    intro i g h1 h2
    obtain ⟨g, rfl⟩ := gw_fz h2
    have e : i = n := by omega
    rw [wX_powerOfThree_4]
    refine br_t (nI_le (by omega) (by omega)) ?_
    rw [e]
    exact h
  | succ d ih =>
    intro i g h1 h2
    obtain ⟨g, rfl⟩ := gw_fz h2
    rw [wX_powerOfThree_4]
    exact br_f (nI_ge (by omega) (by omega)) (nm_r (e' := nI (3 ^ (i + 1))) (by rw [Nat.pow_succ]; exact pk_mul _ 3) (nm_r (nI_1 i) (ih (i + 1) g (by omega) (by omega))))
theorem gx_cp {post : Int32 → SX → Prop} {n : Nat} {f : Nat → Bool} {dep : Nat → Nat} (h10 : s ≤ 10) (hn : n ≤ 6) (hd : ∀ k, k < n → dep k < s ∧ xN k = nI (dep k)) (hO : ∀ a, a < 2 ^ s → xO a = gw_b (f a)) (h : ∀ C, post (nI (gw_cnt (gw_dc (gw_pr n (gw_tb f dep n))) (3 ^ n))) (nI m, nI s, nI r, tl, pe, K, X, Y, Z, F, H, xO, xN, C, xS, xL, xE, xG, xW, xM, xP)) : wpX_countPrimes post (nI m, nI s, nI r, tl, pe, K, X, Y, Z, F, H, xO, xN, xC, xS, xL, xE, xG, xW, xM, xP) (nI n) := by
  unfold wpX_countPrimes
  dsimp only
  refine ⟨n + 1, gx_p3_l hn ⟨3 ^ n + 1, ?_⟩ n 0 (n + 1) (by omega) (by omega)⟩
  exact gx_cp7_l h10 hn rfl hd hO h (3 ^ n) 0 (3 ^ n + 1) xC (by omega) (by omega) (fun x hx => absurd hx (Nat.not_lt_zero _))
/-- a place that is felt -/
def gw_ft (f : Nat → Bool) (s p : Nat) : Prop := ∃ a, a < 2 ^ s ∧ f a ≠ f (a ^^^ 2 ^ p)
/-- dep lists the felt places in their order -/
def gw_dp (f : Nat → Bool) (s : Nat) (dep : Nat → Nat) : Prop := ∀ p, p < s → gw_ft f s p → dep (gw_cnt (gw_dc (gw_ft f s)) p) = p
theorem gw_dp_ex (f : Nat → Bool) (s : Nat) : ∃ dep, gw_dp f s dep ∧ ∀ k, k < gw_cnt (gw_dc (gw_ft f s)) s → dep k < s := by
  have ex : ∀ k, k < gw_cnt (gw_dc (gw_ft f s)) s → ∃ p, p < s ∧ gw_dc (gw_ft f s) p = true ∧ gw_cnt (gw_dc (gw_ft f s)) p = k := fun k hk => gw_cnt_sur hk
  refine ⟨fun k => if h : k < gw_cnt (gw_dc (gw_ft f s)) s then (ex k h).choose else 0, fun p hp hf => ?_, fun k hk => ?_⟩
  · have hq := gw_dc_t.mpr hf
    have hlt := gw_cnt_lt hq hp
    show (if h : gw_cnt (gw_dc (gw_ft f s)) p < gw_cnt (gw_dc (gw_ft f s)) s then (ex _ h).choose else 0) = p
    rw [dif_pos hlt]
    have sp := (ex _ hlt).choose_spec
    exact gw_cnt_inj sp.2.1 hq sp.2.2
  · show (if h : k < gw_cnt (gw_dc (gw_ft f s)) s then (ex _ h).choose else 0) < s
    rw [dif_pos hk]
    exact (ex _ hk).choose_spec.1
theorem gw_dp_at {f : Nat → Bool} {A : Nat → Int32} {dep : Nat → Nat} (hd : gw_dp f s dep) (hE : gw_En (gw_dc (gw_ft f s)) A s) {k : Nat} (hk : k < gw_cnt (gw_dc (gw_ft f s)) s) : dep k < s ∧ A k = nI (dep k) := by
  obtain ⟨p, h1, h2, h3, h4⟩ := gw_En_at hE hk
  have := hd p h1 (gw_dc_t.mp h2)
  rw [h3] at this
  rw [this]
  exact ⟨h1, h4⟩
theorem gx_pr_l {post : Int32 → SX → Prop} {f : Nat → Bool} {dep : Nat → Nat} (h10 : s ≤ 10) (hO : ∀ a, a < 2 ^ s → xO a = gw_b (f a)) (hd : gw_dp f s dep) (c0 : ∀ A, 6 < gw_cnt (gw_dc (gw_ft f s)) s → post (-2) (nI m, nI s, nI r, tl, pe, K, X, Y, Z, F, H, xO, A, xC, xS, xL, xE, xG, xW, xM, xP)) (c1 : ∀ A C, gw_cnt (gw_dc (gw_ft f s)) s ≤ 6 → post (nI (gw_cnt (gw_dc (gw_pr (gw_cnt (gw_dc (gw_ft f s)) s) (gw_tb f dep (gw_cnt (gw_dc (gw_ft f s)) s)))) (3 ^ gw_cnt (gw_dc (gw_ft f s)) s))) (nI m, nI s, nI r, tl, pe, K, X, Y, Z, F, H, xO, A, C, xS, xL, xE, xG, xW, xM, xP)) : ∀ d p g A, p + d = s → d < g → gw_cnt (gw_dc (gw_ft f s)) p ≤ 6 → gw_En (gw_dc (gw_ft f s)) A p → wX_primes_19 post (nI m) (nI s) (nI r) tl pe g (nI (gw_cnt (gw_dc (gw_ft f s)) p)) (nI p) K X Y Z F H xO A xC xS xL xE xG xW xM xP := by
  intro d
  induction d with
  | zero =>
    intro p g A h1 h2 h3 hA
    obtain ⟨g, rfl⟩ := gw_fz h2
    have e : p = s := by omega
    rw [wX_primes_19]
    rw [e] at h3 hA ⊢
    exact br_t (nI_le (by omega) (by omega)) (gx_cp h10 h3 (fun k hk => gw_dp_at hd hA hk) hO (fun C => c1 A C h3))
  | succ d ih =>
    intro p g A h1 h2 h3 hA
    obtain ⟨g, rfl⟩ := gw_fz h2
    rw [wX_primes_19]
    refine br_f (nI_ge (by omega) (by omega)) (gx_felt (T := f) h10 (by omega) hO (fun z hz => br_c (fun q => nm_r (nI_1 p) ?_) (fun q => ?_)))
    · have hf : gw_dc (gw_ft f s) p = false := gw_dc_f.mpr ((gw_tv_0 hz).mp q)
      have ihn := ih (p + 1) g A (by omega) (by omega) (by rw [gw_cnt_f hf]; exact h3) (gw_En_f hA hf)
      rw [gw_cnt_f hf] at ihn
      exact ihn
    · have hf : gw_dc (gw_ft f s) p = true := gw_dc_t.mpr (Classical.byContradiction (fun g => q ((gw_tv_0 hz).mpr g)))
      have hlt := gw_cnt_lt hf (show p < s by omega)
      by_cases c6 : gw_cnt (gw_dc (gw_ft f s)) p = 6
      · exact br_t (by rw [c6]; rfl) (c0 A (by omega))
      · have cc : (nI (gw_cnt (gw_dc (gw_ft f s)) p)).toNatClampNeg = gw_cnt (gw_dc (gw_ft f s)) p := nI_clamp (by omega)
        have ihn := ih (p + 1) g (upd A (gw_cnt (gw_dc (gw_ft f s)) p) (nI p)) (by omega) (by omega) (by rw [gw_cnt_t hf]; omega) (gw_En_t hA hf)
        rw [gw_cnt_t hf] at ihn
        rw [cc]
        exact br_f (fun q => c6 ((nI_eq (b := 6) (by omega) (by decide)).mp q)) ⟨vp_in_nI (by omega) (by omega), nm_e (nm_r (nI_1 _) (nm_r (nI_1 p) ihn))⟩
theorem gx_primes {post : Int32 → SX → Prop} {net : Nat} {dep : Nat → Nat} (hm : m ≤ 32) (hW : gw_W K X Y Z F m) (hn : net < m) (h10 : s ≤ 10) (hd : gw_dp (gw_T K X Y Z m net) s dep) (c0 : ∀ O A, 6 < gw_cnt (gw_dc (gw_ft (gw_T K X Y Z m net) s)) s → post (-2) (nI m, nI s, nI r, tl, pe, K, X, Y, Z, F, H, O, A, xC, xS, xL, xE, xG, xW, xM, xP)) (c1 : ∀ O A C, gw_cnt (gw_dc (gw_ft (gw_T K X Y Z m net) s)) s ≤ 6 → post (nI (gw_cnt (gw_dc (gw_pr (gw_cnt (gw_dc (gw_ft (gw_T K X Y Z m net) s)) s) (gw_tb (gw_T K X Y Z m net) dep (gw_cnt (gw_dc (gw_ft (gw_T K X Y Z m net) s)) s)))) (3 ^ gw_cnt (gw_dc (gw_ft (gw_T K X Y Z m net) s)) s))) (nI m, nI s, nI r, tl, pe, K, X, Y, Z, F, H, O, A, C, xS, xL, xE, xG, xW, xM, xP)) : wpX_primes post (nI m, nI s, nI r, tl, pe, K, X, Y, Z, F, H, xO, xN, xC, xS, xL, xE, xG, xW, xM, xP) (nI net) := by
  unfold wpX_primes
  dsimp only
  refine gx_net hm hn (br_f gw_n10 (gx_tab hm hW hn h10 (fun O hO => ⟨s + 1, ?_⟩)))
  exact gx_pr_l h10 hO hd (c0 O) (c1 O) s 0 (s + 1) xN (by omega) (by omega) (Nat.zero_le _) (fun p hp => absurd hp (Nat.not_lt_zero _))
end
end
section
/-! prime cubes in the reference; the owed row -/
theorem gw_dgr {c k : Nat} (hc : c < 2 ^ 31) : nI (c / 3 ^ k) - nI (c / 3 ^ k) / 3 * 3 = nI (gw_dg c k) := by
  have h2 : c / 3 ^ k ≤ c := Nat.div_le_self _ _
  exact pk_rem (d := 3) (by omega) (by omega) (by omega)
theorem gw_dgd {c k : Nat} (hc : c < 2 ^ 31) : (nI (c / 3 ^ k) / 3 : Int32) = nI (c / 3 ^ (k + 1)) := by
  have h2 : c / 3 ^ k ≤ c := Nat.div_le_self _ _
  rw [Nat.pow_succ, ← Nat.div_div_eq_div_mul]
  exact pk_div (d := 3) (by omega) (by omega) (by omega)
section
variable {m s r : Nat} {K X Y Z F H yA yO yS yR yL yN yD yT yM yF yW yP : Nat → Int32}
theorem gy_h18_l {post : Int32 → Prop} {J : Int32 → Prop} {n c a : Nat} {T : Nat → Bool} (hn : n ≤ 6) (hc : c < 3 ^ n) (ha : a < 2 ^ n) (hT : ∀ b, b < 2 ^ n → yT b = gw_b (T b)) (h0 : gw_mt n c a → T a = false → post 0) (h1 : (gw_mt n c a → T a = true) → J (nI (a + 1))) : ∀ d k g z, k + d = n → d < g → gw_tv (∀ j, j < k → gw_dg c j = 2 ∨ gw_dg c j = (a.testBit j).toNat) z → wY_holds_18 post J (nI c) (nI n) (nI a) (nI m) (nI s) (nI r) K X Y Z F H yA yO yS yR yL yN yD yT yM yF yW yP g z (nI (c / 3 ^ k)) (nI k) := by
  have hc2 := gw_t6 hn
  have hn2 := gw_p6 hn
  intro d
  induction d with
  | zero =>
    intro k g z e1 e2 hz
    obtain ⟨g, rfl⟩ := gw_fz e2
    have e : k = n := by omega
    subst e
    have ca : (nI a).toNatClampNeg = a := nI_clamp (by omega)
    rw [wY_holds_18]
    refine br_t (nI_le (by omega) (by omega)) ?_
    rw [ca, hT a ha]
    rcases hz with ⟨p, ez⟩ | ⟨p, ez⟩
    · rw [ez]
      refine br_f gw_n10 ⟨vp_in_nI (by omega) (by omega), ?_⟩
      cases hb : T a with
      | true => exact br_f (by decide) (nm_r (nI_1 a) (h1 (fun _ => hb)))
      | false => exact br_t rfl (h0 p hb)
    · rw [ez]
      exact br_t rfl (nm_r (nI_1 a) (h1 (fun q => absurd q p)))
  | succ d ih =>
    intro k g z e1 e2 hz
    obtain ⟨g, rfl⟩ := gw_fz e2
    have hl3 := gw_dg_lt c k
    have next : ∀ z' : Int32, gw_tv (∀ j, j < k + 1 → gw_dg c j = 2 ∨ gw_dg c j = (a.testBit j).toNat) z' → ∀ x5 : Int32, x5 = nI (c / 3 ^ k) / 3 → ∀ x6 : Int32, x6 = nI k + 1 → wY_holds_18 post J (nI c) (nI n) (nI a) (nI m) (nI s) (nI r) K X Y Z F H yA yO yS yR yL yN yD yT yM yF yW yP g z' x5 x6 := fun z' hz' =>
      nm_r (gw_dgd (by omega)) (nm_r (nI_1 k) (ih (k + 1) g z' (by omega) (by omega) hz'))
    rw [wY_holds_18]
    dsimp only
    rw [gw_dgr (by omega), gw_sbit (by omega) (by omega), gw_bn]
    refine br_f (nI_ge (by omega) (by omega)) ⟨by decide, ?_⟩
    by_cases d2 : gw_dg c k = 2
    · refine br_t (nI_le (a := 2) (by omega) (by omega)) ⟨by decide, next z (gw_tv_iff hz ⟨fun p => lt_s p (Or.inl d2), fun p j hj => p j (by omega)⟩)⟩
    · refine br_f (nI_ge (b := 2) (by omega) (by decide)) ⟨by decide, ?_⟩
      have hbt : (a.testBit k).toNat < 2 ^ 31 := by cases a.testBit k <;> decide
      rw [nI_eq (by omega) hbt]
      refine br_c (fun q => ⟨by decide, next z (gw_tv_iff hz ⟨fun p => lt_s p (Or.inr q), fun p j hj => p j (by omega)⟩)⟩) (fun q => ⟨by decide, next 0 (gw_tv_f (fun p => ?_))⟩)
      rcases p k (by omega) with q2 | q2
      · exact d2 q2
      · exact q q2
theorem gy_h2_l {post : Int32 → Prop} {n c N : Nat} {T : Nat → Bool} (hn : n ≤ 6) (hN : N = 2 ^ n) (hc : c < 3 ^ n) (hT : ∀ b, b < 2 ^ n → yT b = gw_b (T b)) (h : ∀ z, gw_tv (gw_hd n T c) z → post z) : ∀ d a g, a + d = N → d < g → (∀ b, b < a → gw_mt n c b → T b = true) → wY_holds_2 post (nI c) (nI n) (nI m) (nI s) (nI r) K X Y Z F H yA yO yS yR yL yN yD yT yM yF yW yP g (nI a) := by
  have hn2 := gw_p6 hn
  intro d
  induction d with
  | zero =>
    intro a g e1 e2 h3
    obtain ⟨g, rfl⟩ := gw_fz e2
    rw [wY_holds_2, gw_pow (by omega), ← hN]
    exact br_t (nI_le (by omega) (by omega)) (h 1 (gw_tv_t (fun b hb hm => h3 b (by omega) hm)))
  | succ d ih =>
    intro a g e1 e2 h3
    obtain ⟨g, rfl⟩ := gw_fz e2
    rw [wY_holds_2, gw_pow (by omega), ← hN]
    refine br_f (nI_ge (by omega) (by omega)) ⟨n + 1, ?_⟩
    have g := gy_h18_l (s := s) (r := r) (m := m) (K := K) (X := X) (Y := Y) (Z := Z) (F := F) (H := H) (yA := yA) (yO := yO) (yS := yS) (yR := yR) (yL := yL) (yN := yN) (yD := yD) (yT := yT) (yM := yM) (yF := yF) (yW := yW) (yP := yP) (post := post) (J := wY_holds_2 post (nI c) (nI n) (nI m) (nI s) (nI r) K X Y Z F H yA yO yS yR yL yN yD yT yM yF yW yP g) (T := T) (a := a) hn hc (by omega) hT (fun p q => h 0 (gw_tv_f (fun hh => by rw [hh a (by omega) p] at q; exact absurd q.symm Bool.false_ne_true))) (fun p => ih (a + 1) g (by omega) (by omega) (lt_s h3 p)) n 0 (n + 1) 1 (by omega) (by omega) (gw_tv_t (fun j hj => absurd hj (Nat.not_lt_zero _)))
    rw [Nat.pow_zero, Nat.div_one] at g
    exact g
theorem gy_holds {post : Int32 → Prop} {n c : Nat} {T : Nat → Bool} (hn : n ≤ 6) (hc : c < 3 ^ n) (hT : ∀ b, b < 2 ^ n → yT b = gw_b (T b)) (h : ∀ z, gw_tv (gw_hd n T c) z → post z) : wpY_holds post (nI m, nI s, nI r, K, X, Y, Z, F, H, yA, yO, yS, yR, yL, yN, yD, yT, yM, yF, yW, yP) (nI c) (nI n) :=
  ⟨2 ^ n + 1, gy_h2_l hn rfl hc hT h (2 ^ n) 0 (2 ^ n + 1) (by omega) (by omega) (fun b hb => absurd hb (Nat.not_lt_zero _))⟩
theorem gy_p178_l {post : Int32 → SY → Prop} {J : Int32 → Int32 → Prop} {n c f : Nat} {x3 : Int32} {T : Nat → Bool} (hn : n ≤ 6) (hc : c < 3 ^ n) (hT : ∀ b, b < 2 ^ n → yT b = gw_b (T b)) (h1 : gw_pr n T c → J (nI (f + 1)) (nI (c + 1))) (h0 : ¬ gw_pr n T c → J (nI f) (nI (c + 1))) : ∀ d k g z, k + d = n → d < g → gw_tv (gw_hd n T c ∧ ∀ j, j < k → gw_dg c j ≠ 2 → ¬ gw_hd n T (c + (2 - gw_dg c j) * 3 ^ j)) z → wY_primes_178 post J (nI n) x3 (nI f) (nI c) (nI m) (nI s) (nI r) K X Y Z F H yA yO yS yR yL yN yD yT yM yF yW yP g z (nI (3 ^ k)) (nI k) := by
  have hc2 := gw_t6 hn
  intro d
  induction d with
  | zero =>
    intro k g z e1 e2 hz
    obtain ⟨g, rfl⟩ := gw_fz e2
    have e : k = n := by omega
    subst e
    rw [wY_primes_178]
    refine br_t (nI_le (by omega) (by omega)) ?_
    rcases hz with ⟨p, ez⟩ | ⟨p, ez⟩
    · rw [ez]; exact br_f gw_n10 (nm_r (nI_1 f) (nm_r (nI_1 c) (h1 p)))
    · rw [ez]; exact br_t rfl (nm_r (nI_1 c) (h0 p))
  | succ d ih =>
    intro k g z e1 e2 hz
    obtain ⟨g, rfl⟩ := gw_fz e2
    have hw := gw_t6 (show k ≤ 6 by omega)
    have hw0 := gw_p3 k
    have hl3 := gw_dg_lt c k
    have next : ∀ z' : Int32, gw_tv (gw_hd n T c ∧ ∀ j, j < k + 1 → gw_dg c j ≠ 2 → ¬ gw_hd n T (c + (2 - gw_dg c j) * 3 ^ j)) z' → ∀ x7 : Int32, x7 = nI (3 ^ k) * 3 → ∀ x8 : Int32, x8 = nI k + 1 → wY_primes_178 post J (nI n) x3 (nI f) (nI c) (nI m) (nI s) (nI r) K X Y Z F H yA yO yS yR yL yN yD yT yM yF yW yP g z' x7 x8 := fun z' hz' =>
      nm_r (e' := nI (3 ^ (k + 1))) (by rw [Nat.pow_succ]; exact pk_mul _ 3) (nm_r (nI_1 k) (ih (k + 1) g z' (by omega) (by omega) hz'))
    rw [wY_primes_178]
    refine br_f (nI_ge (by omega) (by omega)) (br_c (fun q => ?_) (fun q => ⟨nI_ne0 hw0 (by omega), by decide, nm_r (gw_digit (by omega) (by omega)) ?_⟩))
    · rw [q]
      exact br_t rfl (nm_r (nI_1 c) (h0 (fun p => (gw_tv_0 hz).mp q ⟨p.1, fun j hj => p.2 j (by omega)⟩)))
    · have hp := Classical.byContradiction (fun n => q ((gw_tv_0 hz).mpr n))
      by_cases d2 : gw_dg c k = 2
      · exact br_t (nI_le (a := 2) (by omega) (by omega)) (next z (gw_tv_iff hz ⟨fun p => ⟨p.1, lt_s p.2 (fun q2 => absurd d2 q2)⟩, fun p => ⟨p.1, fun j hj => p.2 j (by omega)⟩⟩))
      · have e1' : (2 : Int32) - nI (gw_dg c k) = nI (2 - gw_dg c k) := pk_sub (a := 2) (by omega)
        have hlt : c + (2 - gw_dg c k) * 3 ^ k < 3 ^ n := gw_dg_top (by omega) hc (by omega)
        rw [e1', pk_mul, nI_add]
        refine br_f (nI_ge (b := 2) (by omega) (by decide)) (gy_holds hn hlt hT (fun z2 hz2 => br_c (fun q2 => next z (gw_tv_iff hz ⟨fun p => ⟨p.1, lt_s p.2 (fun _ => (gw_tv_0 hz2).mp q2)⟩, fun p => ⟨p.1, fun j hj => p.2 j (by omega)⟩⟩)) (fun q2 => next 0 (gw_tv_f (fun p => ?_)))))
        exact q2 ((gw_tv_0 hz2).mpr (p.2 k (by omega) d2))
theorem gy_p157_l {post : Int32 → SY → Prop} {n N : Nat} {T : Nat → Bool} (hn : n ≤ 6) (hN : N = 3 ^ n) (hT : ∀ b, b < 2 ^ n → yT b = gw_b (T b)) (h : post (nI (gw_cnt (gw_dc (gw_pr n T)) N)) (nI m, nI s, nI r, K, X, Y, Z, F, H, yA, yO, yS, yR, yL, yN, yD, yT, yM, yF, yW, yP)) : ∀ d c g, c + d = N → d < g → wY_primes_157 post (nI n) (nI N) (nI m) (nI s) (nI r) K X Y Z F H yA yO yS yR yL yN yD yT yM yF yW yP g (nI (gw_cnt (gw_dc (gw_pr n T)) c)) (nI c) := by
  have hc2 := gw_t6 hn
  intro d
  induction d with
  | zero =>
    intro c g h1 h2
    obtain ⟨g, rfl⟩ := gw_fz h2
    have e : c = N := by omega
    rw [wY_primes_157]
    refine br_t (nI_le (by omega) (by omega)) ?_
    rw [e]
    exact h
  | succ d ih =>
    intro c g h1 h2
    obtain ⟨g, rfl⟩ := gw_fz h2
    have ihn := ih (c + 1) g (by omega) (by omega)
    rw [wY_primes_157]
    refine br_f (nI_ge (by omega) (by omega)) (gy_holds hn (by omega) hT (fun z hz => ⟨n + 1, gy_p178_l hn (by omega) hT (fun p => ?_) (fun p => ?_) n 0 (n + 1) z (by omega) (by omega) (gw_tv_iff hz ⟨fun p => ⟨p, fun j hj => absurd hj (Nat.not_lt_zero _)⟩, fun p => p.1⟩)⟩))
    · rw [gw_dc_st p] at ihn
      exact ihn
    · rw [gw_dc_sf p] at ihn
      exact ihn
theorem gy_p135_l {post : Int32 → SY → Prop} {n : Nat} {T : Nat → Bool} (hn : n ≤ 6) (hT : ∀ b, b < 2 ^ n → yT b = gw_b (T b)) (h : post (nI (gw_cnt (gw_dc (gw_pr n T)) (3 ^ n))) (nI m, nI s, nI r, K, X, Y, Z, F, H, yA, yO, yS, yR, yL, yN, yD, yT, yM, yF, yW, yP)) : ∀ d i g, i + d = n → d < g → wY_primes_135 post (nI n) (nI m) (nI s) (nI r) K X Y Z F H yA yO yS yR yL yN yD yT yM yF yW yP g (nI (3 ^ i)) (nI i) := by
  intro d
  induction d with
  | zero =>
    intro i g h1 h2
    obtain ⟨g, rfl⟩ := gw_fz h2
    have e : i = n := by omega
    rw [wY_primes_135]
    rw [e]
    exact br_t (nI_le (by omega) (by omega)) ⟨3 ^ n + 1, gy_p157_l hn rfl hT h (3 ^ n) 0 (3 ^ n + 1) (by omega) (by omega)⟩
  | succ d ih =>
    intro i g h1 h2
    obtain ⟨g, rfl⟩ := gw_fz h2
    rw [wY_primes_135]
    exact br_f (nI_ge (by omega) (by omega)) (nm_r (e' := nI (3 ^ (i + 1))) (by rw [Nat.pow_succ]; exact pk_mul _ 3) (nm_r (nI_1 i) (ih (i + 1) g (by omega) (by omega))))
theorem gy_p75_l {post : Int32 → SY → Prop} {J : Int32 → Int32 → Int32 → Int32 → (Nat → Int32) → (Nat → Int32) → (Nat → Int32) → (Nat → Int32) → (Nat → Int32) → (Nat → Int32) → (Nat → Int32) → (Nat → Int32) → (Nat → Int32) → (Nat → Int32) → (Nat → Int32) → (Nat → Int32) → (Nat → Int32) → (Nat → Int32) → (Nat → Int32) → (Nat → Int32) → (Nat → Int32) → (Nat → Int32) → Prop} {net n a : Nat} {dep : Nat → Nat} (hm : m ≤ 32) (hW : gw_W K X Y Z F m) (hnet : net < m) (hs : s = gw_cnt (gw_sk K) m) (h10 : s ≤ 10) (hS : gw_En (gw_sk K) yS m) (hn : n ≤ 6) (ha : a < 2 ^ n) (hd : ∀ k, k < n → dep k < s ∧ yD k = nI (dep k)) (h : ∀ A, J (nI (a + 1)) (nI m) (nI s) (nI r) K X Y Z F H A yO yS yR yL yN yD (upd yT a (gw_b (gw_tb (gw_T K X Y Z m net) dep n a))) yM yF yW yP) : ∀ d k g, k + d = n → d < g → wY_primes_75 post J (nI net) (nI n) (nI a) (nI m) (nI s) (nI r) K X Y Z F H yA yO yS yR yL yN yD yT yM yF yW yP g (nI (gw_nm dep (fun k => a.testBit k) k)) (nI k) := by
  have hn2 := gw_p6 hn
  have hN2 := gw_p10 h10
  intro d
  induction d with
  | zero =>
    intro k g e1 e2
    obtain ⟨g, rfl⟩ := gw_fz e2
    have e : k = n := by omega
    subst e
    have hlt : gw_nm dep (fun k => a.testBit k) k < 2 ^ s := gw_nm_lt (fun j hj => (hd j hj).1)
    have cn : (nI net).toNatClampNeg = net := nI_clamp (by omega)
    have ca : (nI a).toNatClampNeg = a := nI_clamp (by omega)
    rw [wY_primes_75]
    refine br_t (nI_le (by omega) (by omega)) (gy_assign (by omega) hm hW hs h10 hS (fun A hA => ?_))
    dsimp only
    rw [cn, ca, hA net hnet, gw_narb]
    exact ⟨vp_in_nI (by omega) (by omega), vp_in_nI (by omega) (by omega), nm_e (nm_r (nI_1 a) (h A))⟩
  | succ d ih =>
    intro k g e1 e2
    obtain ⟨g, rfl⟩ := gw_fz e2
    have ck : (nI k).toNatClampNeg = k := nI_clamp (by omega)
    obtain ⟨hdl, hde⟩ := hd k (by omega)
    rw [wY_primes_75]
    refine br_f (nI_ge (by omega) (by omega)) ⟨vp_in_nI (by omega) (by omega), ?_⟩
    rw [ck, hde, gw_sbit (by omega) (by omega)]
    exact nm_r (gw_or _ _ (by omega)) (nm_r (nI_1 k) (ih (k + 1) g (by omega) (by omega)))
theorem gy_p62_l {post : Int32 → SY → Prop} {net n N : Nat} {dep : Nat → Nat} (hm : m ≤ 32) (hW : gw_W K X Y Z F m) (hnet : net < m) (hs : s = gw_cnt (gw_sk K) m) (h10 : s ≤ 10) (hS : gw_En (gw_sk K) yS m) (hn : n ≤ 6) (hN : N = 2 ^ n) (hd : ∀ k, k < n → dep k < s ∧ yD k = nI (dep k)) (h : ∀ A B, post (nI (gw_cnt (gw_dc (gw_pr n (gw_tb (gw_T K X Y Z m net) dep n))) (3 ^ n))) (nI m, nI s, nI r, K, X, Y, Z, F, H, A, yO, yS, yR, yL, yN, yD, B, yM, yF, yW, yP)) : ∀ d a g A B, a + d = N → d < g → (∀ b, b < a → B b = gw_b (gw_tb (gw_T K X Y Z m net) dep n b)) → wY_primes_62 post (nI net) (nI n) g (nI a) (nI m) (nI s) (nI r) K X Y Z F H A yO yS yR yL yN yD B yM yF yW yP := by
  have hn2 := gw_p6 hn
  intro d
  induction d with
  | zero =>
    intro a g A B e1 e2 hB
    obtain ⟨g, rfl⟩ := gw_fz e2
    rw [wY_primes_62, gw_pow (by omega), ← hN]
    exact br_t (nI_le (by omega) (by omega)) ⟨n + 1, gy_p135_l hn (fun b hb => hB b (by omega)) (h A B) n 0 (n + 1) (by omega) (by omega)⟩
  | succ d ih =>
    intro a g A B e1 e2 hB
    obtain ⟨g, rfl⟩ := gw_fz e2
    rw [wY_primes_62, gw_pow (by omega), ← hN]
    refine br_f (nI_ge (by omega) (by omega)) ⟨n + 1, gy_p75_l hm hW hnet hs h10 hS hn (by omega) hd (fun A' => ?_) n 0 (n + 1) (by omega) (by omega)⟩
    refine ih (a + 1) g A' _ (by omega) (by omega) (fun b hb => ?_)
    by_cases e : b = a
    · subst e; exact pk_us
    · rw [pk_un e]; exact hB b (by omega)
theorem gy_p14_l {post : Int32 → SY → Prop} {net : Nat} {dep : Nat → Nat} (hm : m ≤ 32) (hW : gw_W K X Y Z F m) (hnet : net < m) (hs : s = gw_cnt (gw_sk K) m) (h10 : s ≤ 10) (hS : gw_En (gw_sk K) yS m) (hd : gw_dp (gw_T K X Y Z m net) s dep) (c0 : ∀ A D, 6 < gw_cnt (gw_dc (gw_ft (gw_T K X Y Z m net) s)) s → post (-2) (nI m, nI s, nI r, K, X, Y, Z, F, H, A, yO, yS, yR, yL, yN, D, yT, yM, yF, yW, yP)) (c1 : ∀ A D B, gw_cnt (gw_dc (gw_ft (gw_T K X Y Z m net) s)) s ≤ 6 → post (nI (gw_cnt (gw_dc (gw_pr (gw_cnt (gw_dc (gw_ft (gw_T K X Y Z m net) s)) s) (gw_tb (gw_T K X Y Z m net) dep (gw_cnt (gw_dc (gw_ft (gw_T K X Y Z m net) s)) s)))) (3 ^ gw_cnt (gw_dc (gw_ft (gw_T K X Y Z m net) s)) s))) (nI m, nI s, nI r, K, X, Y, Z, F, H, A, yO, yS, yR, yL, yN, D, B, yM, yF, yW, yP)) : ∀ d p g A D, p + d = s → d < g → gw_En (gw_dc (gw_ft (gw_T K X Y Z m net) s)) D p → wY_primes_14 post (nI net) g (nI (gw_cnt (gw_dc (gw_ft (gw_T K X Y Z m net) s)) p)) (nI p) (nI m) (nI s) (nI r) K X Y Z F H A yO yS yR yL yN D yT yM yF yW yP := by
  intro d
  induction d with
  | zero =>
    intro p g A D e1 e2 hD
    obtain ⟨g, rfl⟩ := gw_fz e2
    have e : p = s := by omega
    have hle := gw_cnt_le (gw_dc (gw_ft (gw_T K X Y Z m net) s)) s
    rw [wY_primes_14]
    rw [e] at hD ⊢
    refine br_t (nI_le (by omega) (by omega)) ?_
    rcases Nat.lt_or_ge 6 (gw_cnt (gw_dc (gw_ft (gw_T K X Y Z m net) s)) s) with l | l
    · exact br_f (nI_ge (a := 6) l (by omega)) (c0 A D l)
    · exact br_t (nI_le (b := 6) l (by decide)) ⟨2 ^ gw_cnt (gw_dc (gw_ft (gw_T K X Y Z m net) s)) s + 1, gy_p62_l hm hW hnet hs h10 hS l rfl (fun k hk => gw_dp_at hd hD hk) (fun A' B => c1 A' D B l) (2 ^ gw_cnt (gw_dc (gw_ft (gw_T K X Y Z m net) s)) s) 0 _ A yT (by omega) (by omega) (fun b hb => absurd hb (Nat.not_lt_zero _))⟩
  | succ d ih =>
    intro p g A D e1 e2 hD
    obtain ⟨g, rfl⟩ := gw_fz e2
    have hle := gw_cnt_le (gw_dc (gw_ft (gw_T K X Y Z m net) s)) p
    rw [wY_primes_14]
    refine br_f (nI_ge (by omega) (by omega)) (gy_leans hm hW hs h10 hS hnet (by omega) (fun A' z hz' => ?_))
    have hz : gw_tv (gw_ft (gw_T K X Y Z m net) s p) z := gw_tv_iff hz' (gw_felt (show p < s by omega)).symm
    refine br_c (fun q => nm_r (nI_1 p) ?_) (fun q => ?_)
    · have hf : gw_dc (gw_ft (gw_T K X Y Z m net) s) p = false := gw_dc_f.mpr ((gw_tv_0 hz).mp q)
      have ihn := ih (p + 1) g A' D (by omega) (by omega) (gw_En_f hD hf)
      rw [gw_cnt_f hf] at ihn
      exact ihn
    · have hf : gw_dc (gw_ft (gw_T K X Y Z m net) s) p = true := gw_dc_t.mpr (Classical.byContradiction (fun g => q ((gw_tv_0 hz).mpr g)))
      have cc : (nI (gw_cnt (gw_dc (gw_ft (gw_T K X Y Z m net) s)) p)).toNatClampNeg = gw_cnt (gw_dc (gw_ft (gw_T K X Y Z m net) s)) p := nI_clamp (by omega)
      have ihn := ih (p + 1) g A' (upd D (gw_cnt (gw_dc (gw_ft (gw_T K X Y Z m net) s)) p) (nI p)) (by omega) (by omega) (gw_En_t hD hf)
      rw [gw_cnt_t hf] at ihn
      exact nm_r (nI_1 _) ⟨vp_in_nI (by omega) (by omega), nm_r (by rw [cc]) (nm_r (nI_1 p) ihn)⟩
theorem gy_primes {post : Int32 → SY → Prop} {net : Nat} {dep : Nat → Nat} (hm : m ≤ 32) (hW : gw_W K X Y Z F m) (hnet : net < m) (hs : s = gw_cnt (gw_sk K) m) (h10 : s ≤ 10) (hS : gw_En (gw_sk K) yS m) (hd : gw_dp (gw_T K X Y Z m net) s dep) (c0 : ∀ A D, 6 < gw_cnt (gw_dc (gw_ft (gw_T K X Y Z m net) s)) s → post (-2) (nI m, nI s, nI r, K, X, Y, Z, F, H, A, yO, yS, yR, yL, yN, D, yT, yM, yF, yW, yP)) (c1 : ∀ A D B, gw_cnt (gw_dc (gw_ft (gw_T K X Y Z m net) s)) s ≤ 6 → post (nI (gw_cnt (gw_dc (gw_pr (gw_cnt (gw_dc (gw_ft (gw_T K X Y Z m net) s)) s) (gw_tb (gw_T K X Y Z m net) dep (gw_cnt (gw_dc (gw_ft (gw_T K X Y Z m net) s)) s)))) (3 ^ gw_cnt (gw_dc (gw_ft (gw_T K X Y Z m net) s)) s))) (nI m, nI s, nI r, K, X, Y, Z, F, H, A, yO, yS, yR, yL, yN, D, B, yM, yF, yW, yP)) : wpY_primes post (nI m, nI s, nI r, K, X, Y, Z, F, H, yA, yO, yS, yR, yL, yN, yD, yT, yM, yF, yW, yP) (nI net) := by
  unfold wpY_primes
  dsimp only
  exact gy_net hm hnet (br_f gw_n10 ⟨s + 1, gy_p14_l hm hW hnet hs h10 hS hd c0 c1 s 0 (s + 1) yA yD (by omega) (by omega) (fun p hp => absurd hp (Nat.not_lt_zero _))⟩)
end
theorem i_vc_primes {k : Nat} {u : SX} {v : SY} (I : i_Rel k u v) (hk : k + 6 ≤ 3072) (v1 : Int32) : wpX_primes (fun r u' => wpY_primes (fun r' v' => r' = r ∧ i_Rel (k + 6) u' v') v v1) u v1 := by
  have J : i_Rel (k + 6) u v := I
  obtain ⟨m, K, X, Y, Z, F, H, ⟨hm, hW, h01, h10, h6⟩, ⟨tl, pe, xO, xN, xC, xS, xL, xE, xG, xW, xM, xP, rfl⟩, ⟨yA, yO, yS, yR, yL, yN, yD, yT, yM, yF, yW, yP, rfl, hS, hR⟩⟩ := I
  rcases gw_net (x := v1) (m := m) (by omega) with ⟨n, hn, rfl⟩ | hx
  · obtain ⟨dep, hd, _⟩ := gw_dp_ex (gw_T K X Y Z m n) (gw_cnt (gw_sk K) m)
    refine gx_primes hm hW hn h10 hd (fun O A hl => ?_) (fun O A C hl => ?_)
    · exact gy_primes hm hW hn rfl h10 hS hd (fun A' D _ => ⟨rfl, gw_rel ⟨hm, hW, h01, h10, h6⟩ hS hR⟩) (fun A' D B q => absurd q (by omega))
    · exact gy_primes hm hW hn rfl h10 hS hd (fun A' D q => absurd q (by omega)) (fun A' D B _ => ⟨rfl, gw_rel ⟨hm, hW, h01, h10, h6⟩ hS hR⟩)
  · unfold wpX_primes wpY_primes
    dsimp only
    exact gx_nonet hx (br_t rfl (gy_nonet hm hx (br_t rfl ⟨rfl, J⟩)))
end
section
/-! levels in the component -/
theorem gw_one {p j : Nat} (hp : p < 32) (hj : j < 32) : bt ((1 : Int32) <<< (nI p &&& 31)) j = decide (j = p) := by
  rw [b_shl p hp _ hj, gw_b1]
  rcases Nat.lt_trichotomy j p with h | h | h
  · rw [decide_eq_false (show ¬ p ≤ j by omega), decide_eq_false (show ¬ j = p by omega)]; rfl
  · rw [decide_eq_true (show p ≤ j by omega), decide_eq_true h, decide_eq_true (show j - p = 0 by omega)]; rfl
  · rw [decide_eq_false (show ¬ j - p = 0 by omega), decide_eq_false (show ¬ j = p by omega), Bool.and_false]
theorem gw_not (x : Int32) {j : Nat} (hj : j < 32) : bt (x ^^^ (-1)) j = !(bt x j) := by
  rw [b_xor, b_m1 j hj, Bool.xor_true]
theorem gw_dec1 (n : Nat) : nI n + (-1) = nI n - 1 := by
  cases n with
  | zero => decide
  | succ n => rw [pk_m1, nI_pred]
/-- a level as the component holds it, and the least found so far -/
def gw_en (v : Nat) : Int32 := if v = 99 then -1 else nI v
def gw_el (B : Nat) : Int32 := if B = 99 then -1 else nI (B + 1)
theorem gw_en_ne {v : Nat} (h : v < 2 ^ 31) : gw_en v = -1 ↔ v = 99 := by
  unfold gw_en
  by_cases e : v = 99
  · rw [if_pos e]; exact ⟨fun _ => e, fun _ => rfl⟩
  · rw [if_neg e]; exact ⟨fun q => absurd q (gw_m1 h), fun q => absurd q e⟩
theorem gw_el_ne {v : Nat} (h : v + 1 < 2 ^ 31) : gw_el v = -1 ↔ v = 99 := by
  unfold gw_el
  by_cases e : v = 99
  · rw [if_pos e]; exact ⟨fun _ => e, fun _ => rfl⟩
  · rw [if_neg e]; exact ⟨fun q => absurd q (gw_m1 h), fun q => absurd q e⟩
section
variable {m s r : Nat} {tl pe : Int32} {K X Y Z F H xO xN xC xS xL xE xG xW xM xP : Nat → Int32}
theorem gx_ops {post : Int32 → Prop} {n : Nat} (hm : m ≤ 32) (hW : gw_W K X Y Z F m) (hn : n < m) (h : ∀ v, (∀ j, j < 32 → bt v j = gw_op K X Y Z n j) → post v) : wpX_operandSetOf post (nI m, nI s, nI r, tl, pe, K, X, Y, Z, F, H, xO, xN, xC, xS, xL, xE, xG, xW, xM, xP) (nI n) := by
  have cn : (nI n).toNatClampNeg = n := nI_clamp (by omega)
  have vn : vp_in (nI n) 32 := vp_in_nI (by omega) (by omega)
  unfold wpX_operandSetOf
  dsimp only
  rw [cn]
  refine ⟨vn, nm_e ⟨vn, nm_e ⟨vn, nm_e ⟨vn, ?_⟩⟩⟩⟩
  rcases (hW n hn).1 with e | e | ⟨e, hx⟩ | ⟨e, jx, hjx, ex⟩ | ⟨e, ⟨jx, hjx, ex⟩, ⟨jy, hjy, ey⟩⟩ | ⟨e, ⟨jx, hjx, ex⟩, ⟨jy, hjy, ey⟩, ⟨jz, hjz, ez⟩⟩
  · refine nm_r e (br_t (by decide) (h 0 (fun j hj => ?_)))
    unfold gw_op; rw [b_0, e]; rfl
  · refine nm_r e (br_t (by decide) (h 0 (fun j hj => ?_)))
    unfold gw_op; rw [b_0, e]; rfl
  · refine nm_r e (br_t (by decide) (h 0 (fun j hj => ?_)))
    unfold gw_op; rw [b_0, e]; rfl
  · have cx : (nI jx).toNatClampNeg = jx := nI_clamp (by omega)
    refine nm_r e (br_f (by decide) (br_f (by decide) (br_t rfl (h _ (fun j hj => ?_)))))
    unfold gw_op; rw [e, ex, cx, gw_one (by omega) hj]; rfl
  · have cx : (nI jx).toNatClampNeg = jx := nI_clamp (by omega)
    have cy : (nI jy).toNatClampNeg = jy := nI_clamp (by omega)
    have key : ∀ j, j < 32 → bt (((1 : Int32) <<< (X n &&& 31)) ||| ((1 : Int32) <<< (Y n &&& 31))) j = gw_op K X Y Z n j := by
      intro j hj
      unfold gw_op
      rw [ex, ey, cx, cy, b_or, gw_one (by omega) hj, gw_one (by omega) hj, if_neg (by rcases e with e | e | e <;> rw [e] <;> decide), if_pos e]
    rcases e with e | e | e
    · exact nm_r e (br_f (by decide) (br_f (by decide) (br_f (by decide) (br_t rfl (h _ key)))))
    · exact nm_r e (br_f (by decide) (br_f (by decide) (br_f (by decide) (br_f (by decide) (br_t rfl (h _ key))))))
    · exact nm_r e (br_f (by decide) (br_f (by decide) (br_f (by decide) (br_f (by decide) (br_f (by decide) (br_t rfl (h _ key)))))))
  · have cx : (nI jx).toNatClampNeg = jx := nI_clamp (by omega)
    have cy : (nI jy).toNatClampNeg = jy := nI_clamp (by omega)
    have cz : (nI jz).toNatClampNeg = jz := nI_clamp (by omega)
    refine nm_r e (br_f (by decide) (br_f (by decide) (br_f (by decide) (br_f (by decide) (br_f (by decide) (br_f (by decide) (br_t rfl (h _ (fun j hj => ?_)))))))))
    unfold gw_op
    rw [e, ex, ey, ez, cx, cy, cz, b_or, b_or, gw_one (by omega) hj, gw_one (by omega) hj, gw_one (by omega) hj]
    rfl
theorem gx_btw_l {post : Int32 → Prop} {set : Int32} {S : Nat → Bool} {net : Nat} (hnet : net < 32) (hS : ∀ j, j < 32 → bt set j = S j) (hO : ∀ n, n < net → ∀ j, j < 32 → bt (xS n) j = gw_op K X Y Z n j) : ∀ n g o M, n ≤ net → n < g → (∀ j, j < 32 → bt o j = (M j && !(S j))) → (∀ z, gw_tv (gw_bk (gw_sk K) (gw_op K X Y Z) S n M = true) z → post z) → wX_isBetween_16 post set (nI m) (nI s) (nI r) tl pe K X Y Z F H xO xN xC xS xL xE xG xW xM xP g o (nI n - 1) := by
  intro n
  induction n with
  | zero =>
    intro g o M h1 h2 ho h
    obtain ⟨g, rfl⟩ := gw_fz h2
    rw [wX_isBetween_16]
    exact br_t (by decide) (h 1 (gw_tv_t rfl))
  | succ n ih =>
    intro g o M h1 h2 ho h
    obtain ⟨g, rfl⟩ := gw_fz h2
    have cn : (nI n).toNatClampNeg = n := nI_clamp (by omega)
    have vn : vp_in (nI n) 32 := vp_in_nI (by omega) (by omega)
    have skip : ¬ (M n = true ∧ S n = false) → wX_isBetween_16 post set (nI m) (nI s) (nI r) tl pe K X Y Z F H xO xN xC xS xL xE xG xW xM xP g o (nI n - 1) := by
      intro q
      refine ih g o M (by omega) (by omega) ho (fun z hz => h z ?_)
      have e : gw_bk (gw_sk K) (gw_op K X Y Z) S (n + 1) M = gw_bk (gw_sk K) (gw_op K X Y Z) S n M := if_neg q
      rw [e]
      exact hz
    rw [wX_isBetween_16, nI_pred]
    refine br_f (nI_pos (by omega)) (gx_bit (by omega) ?_)
    rw [ho n (by omega), gw_dec1]
    cases hM : M n with
    | false => exact br_f (by rw [Bool.false_and]; decide) (nm_e (skip (fun q => by rw [hM] at q; exact Bool.false_ne_true q.1)))
    | true =>
      cases hSn : S n with
      | true => exact br_f (by decide) (nm_e (skip (fun q => by rw [hSn] at q; exact Bool.false_ne_true q.2.symm)))
      | false =>
        refine br_t rfl ⟨vn, gx_sk (fun hk => br_f gw_n10 (h 0 (gw_tv_f ?_))) (fun hk => br_t rfl ⟨vn, nm_e (nm_e (ih g _ (fun j => M j || gw_op K X Y Z n j) (by omega) (by omega) (fun j hj => ?_) (fun z hz => h z ?_)))⟩)⟩
        · rw [cn] at hk
          have e : gw_bk (gw_sk K) (gw_op K X Y Z) S (n + 1) M = false := by
            show (if M n = true ∧ S n = false then (if gw_sk K n = true then false else _) else _) = false
            rw [if_pos ⟨hM, hSn⟩, if_pos (gw_sk_t.mpr hk)]
          rw [e]
          exact Bool.false_ne_true
        · rw [b_or, b_and, cn, hO n (by omega) j hj, gw_not set hj, hS j hj, ho j hj]
          cases M j <;> cases S j <;> cases gw_op K X Y Z n j <;> rfl
        · rw [cn] at hk
          have e : gw_bk (gw_sk K) (gw_op K X Y Z) S (n + 1) M = gw_bk (gw_sk K) (gw_op K X Y Z) S n (fun j => M j || gw_op K X Y Z n j) := by
            show (if M n = true ∧ S n = false then (if gw_sk K n = true then false else _) else _) = _
            rw [if_pos ⟨hM, hSn⟩, if_neg (by rw [gw_sk_f.mpr hk]; exact Bool.false_ne_true)]
          rw [e]
          exact hz
theorem gx_btw {post : Int32 → Prop} {set : Int32} {S : Nat → Bool} {net : Nat} (hnet : net < 32) (hS : ∀ j, j < 32 → bt set j = S j) (hO : ∀ n, n ≤ net → ∀ j, j < 32 → bt (xS n) j = gw_op K X Y Z n j) (h : ∀ z, gw_tv (gw_bt K X Y Z net S = true) z → post z) : wpX_isBetween post (nI m, nI s, nI r, tl, pe, K, X, Y, Z, F, H, xO, xN, xC, xS, xL, xE, xG, xW, xM, xP) set (nI net) := by
  have cn : (nI net).toNatClampNeg = net := nI_clamp (by omega)
  unfold wpX_isBetween
  dsimp only
  refine ⟨vp_in_nI (by omega) (by omega), nm_e (nm_e ⟨net + 1, gx_btw_l hnet hS (fun n hn => hO n (by omega)) net (net + 1) _ (gw_op K X Y Z net) (by omega) (by omega) (fun j hj => ?_) h⟩)⟩
  rw [b_and, cn, hO net (Nat.le_refl _) j hj, gw_not set hj, hS j hj]
theorem gx_above {post : Int32 → Prop} {a b c : Nat} {lev : Nat → Nat} (ha : a < 32) (hb : b < 32) (hc : c < 32) (la : lev a ≤ 40 ∨ lev a = 99) (lb : lev b ≤ 40 ∨ lev b = 99) (lc : lev c ≤ 40 ∨ lev c = 99) (xa : xL a = gw_en (lev a)) (xb : xL b = gw_en (lev b)) (xc : xL c = gw_en (lev c)) (h : post (gw_el (gw_mx lev a b c))) : wpX_levelAbove post (nI m, nI s, nI r, tl, pe, K, X, Y, Z, F, H, xO, xN, xC, xS, xL, xE, xG, xW, xM, xP) (nI a) (nI b) (nI c) := by
  have ca : (nI a).toNatClampNeg = a := nI_clamp (by omega)
  have cb : (nI b).toNatClampNeg = b := nI_clamp (by omega)
  have cc : (nI c).toNatClampNeg = c := nI_clamp (by omega)
  have va : vp_in (nI a) 32 := vp_in_nI (by omega) (by omega)
  have vb : vp_in (nI b) 32 := vp_in_nI (by omega) (by omega)
  have vc : vp_in (nI c) 32 := vp_in_nI (by omega) (by omega)
  have none : gw_mx lev a b c = 99 → post (-1) := fun q => by rw [q] at h; exact h
  have last : ∀ v : Nat, v ≤ 40 → lev c ≤ 40 → max v (lev c) = gw_mx lev a b c → wX_levelAbove_59 post (nI c) (nI v) (nI m) (nI s) (nI r) tl pe K X Y Z F H xO xN xC xS xL xE xG xW xM xP := by
    intro v hv hc2 e
    unfold wX_levelAbove_59
    rw [cc, xc]
    have en : gw_en (lev c) = nI (lev c) := if_neg (by omega)
    have el : gw_el (gw_mx lev a b c) = nI (gw_mx lev a b c + 1) := if_neg (by omega)
    rw [el] at h
    rw [en]
    refine ⟨vc, pk_le (lev c) v (fun q => ?_) (fun q => ⟨vc, nm_e ?_⟩)⟩
    · rw [nI_1, show v = gw_mx lev a b c by omega]; exact h
    · rw [nI_1, show lev c = gw_mx lev a b c by omega]; exact h
  unfold wpX_levelAbove
  dsimp only
  rw [ca, cb, cc, xa, xb, xc]
  have ea := gw_en_ne (v := lev a) (by omega)
  have eb := gw_en_ne (v := lev b) (by omega)
  have ec := gw_en_ne (v := lev c) (by omega)
  refine ⟨va, br_c (fun q => none ?_) (fun q => ⟨vb, br_c (fun q2 => none ?_) (fun q2 => ⟨vc, br_c (fun q3 => none ?_) (fun q3 => ?_)⟩)⟩)⟩
  · have := ea.mp q
    unfold gw_mx
    omega
  · have := eb.mp q2
    unfold gw_mx
    omega
  · have := ec.mp q3
    unfold gw_mx
    omega
  · have na : ¬ lev a = 99 := fun e => q (ea.mpr e)
    have nb : ¬ lev b = 99 := fun e => q2 (eb.mpr e)
    have nc : ¬ lev c = 99 := fun e => q3 (ec.mpr e)
    have ena : gw_en (lev a) = nI (lev a) := if_neg na
    have enb : gw_en (lev b) = nI (lev b) := if_neg nb
    rw [ena, enb]
    refine ⟨va, nm_e ⟨vb, pk_le (lev b) (lev a) (fun l => last (lev a) (by omega) (by omega) ?_) (fun l => ⟨vb, nm_e (last (lev b) (by omega) (by omega) ?_)⟩)⟩⟩
    · unfold gw_mx; omega
    · unfold gw_mx; omega
/-- what the search for a level rests on -/
def gw_Lo (K X Y Z : Nat → Int32) (xS xL : Nat → Int32) (lev : Nat → Nat) (net k : Nat) : Prop := net < 32 ∧ k ≤ 3 ∧ (∀ n, n ≤ net → ∀ j, j < 32 → bt (xS n) j = gw_op K X Y Z n j) ∧ (∀ j, j < net → xL j = gw_en (lev j)) ∧ ∀ j, j < net → lev j ≤ 40 ∨ lev j = 99
theorem gx_l79_l {post : Int32 → Prop} {J40 J : Int32 → Int32 → Prop} {net k a b : Nat} {lev : Nat → Nat} (O : gw_Lo K X Y Z xS xL lev net k) (ha : a < net) (hb : b ≤ a) (hk2 : k < 2 → b = a) (h : ∀ B, gw_IB (gw_bt K X Y Z net) lev k net (fun x y z => x < a ∨ (x = a ∧ y < b + 1)) B → J (gw_el B) (nI (b + 1))) : ∀ d c g B, c + d = b + 1 → d < g → (k < 3 → b ≤ c) → gw_IB (gw_bt K X Y Z net) lev k net (fun x y z => x < a ∨ (x = a ∧ (y < b ∨ (y = b ∧ z < c)))) B → wX_levelFromLower_79 post J40 J (nI net) (nI k) (nI a) (nI b) (nI m) (nI s) (nI r) tl pe K X Y Z F H xO xN xC xS xL xE xG xW xM xP g (gw_el B) (nI c) := by
  obtain ⟨hnet, hk, hO, hL, hlv⟩ := O
  intro d
  induction d with
  | zero =>
    intro c g B h1 h2 hc hB
    obtain ⟨g, rfl⟩ := gw_fz h2
    rw [wX_levelFromLower_79]
    refine br_t (nI_lt (by omega) (by omega)) (nm_r (nI_1 b) (h B (gw_IB_more hB (fun x y z ht hq _ => Or.inl ?_))))
    have h3 := ht.1
    have h4 := ht.2.1
    rcases hq with hq | hq
    · exact Or.inl hq
    · exact Or.inr ⟨hq.1, by omega⟩
  | succ d ih =>
    intro c g B h1 h2 hc hB
    obtain ⟨g, rfl⟩ := gw_fz h2
    have hcb : c ≤ b := by omega
    have ht0 : gw_tr k net a b c := ⟨hcb, hb, ha, hk2, fun q => by have := hc q; omega⟩
    have hmx : gw_mx lev a b c ≤ 99 := by
      have h3 := hlv a ha
      have h4 := hlv b (by omega)
      have h5 := hlv c (by omega)
      unfold gw_mx
      omega
    have hB99 := hB.1
    have step : ∀ (x y z : Nat), gw_tr k net x y z → (x < a ∨ (x = a ∧ (y < b ∨ (y = b ∧ z < c + 1)))) → (x < a ∨ (x = a ∧ (y < b ∨ (y = b ∧ z < c)))) ∨ (x = a ∧ y = b ∧ z = c) := by
      intro x y z _ q
      omega
    have keep : (gw_bt K X Y Z net (gw_S3 a b c) = true → B ≤ gw_mx lev a b c) → wX_levelFromLower_79 post J40 J (nI net) (nI k) (nI a) (nI b) (nI m) (nI s) (nI r) tl pe K X Y Z F H xO xN xC xS xL xE xG xW xM xP g (gw_el B) (nI (c + 1)) := by
      intro hle
      refine ih (c + 1) g B (by omega) (by omega) (fun q => by have := hc q; omega) (gw_IB_more hB (fun x y z ht hq hbt => ?_))
      rcases step x y z ht hq with q | ⟨q1, q2, q3⟩
      · exact Or.inl q
      · subst q1 q2 q3
        exact Or.inr (hle hbt)
    have set3 : ∀ j, j < 32 → bt ((((1 : Int32) <<< (nI a &&& 31)) ||| ((1 : Int32) <<< (nI b &&& 31))) ||| ((1 : Int32) <<< (nI c &&& 31))) j = gw_S3 a b c j := by
      intro j hj
      rw [b_or, b_or, gw_one (by omega) hj, gw_one (by omega) hj, gw_one (by omega) hj]
      rfl
    have no : B ≤ gw_mx lev a b c → ∀ v : Int32, wX_levelFromLower_119 post J40 J (wX_levelFromLower_79 post J40 J (nI net) (nI k) (nI a) (nI b) (nI m) (nI s) (nI r) tl pe K X Y Z F H xO xN xC xS xL xE xG xW xM xP g) (nI net) (nI k) (gw_el B) (nI a) (nI b) (nI c) v (nI m) (nI s) (nI r) tl pe K X Y Z F H xO xN xC xS xL xE xG xW xM xP := by
      intro hle v
      unfold wX_levelFromLower_119 wX_levelFromLower_120
      exact nm_e (br_t rfl (nm_r (nI_1 c) (keep (fun _ => hle))))
    have yes : gw_mx lev a b c < B → wX_levelFromLower_115 post J40 J (wX_levelFromLower_79 post J40 J (nI net) (nI k) (nI a) (nI b) (nI m) (nI s) (nI r) tl pe K X Y Z F H xO xN xC xS xL xE xG xW xM xP g) (nI net) (nI k) (gw_el B) (nI a) (nI b) (nI c) (gw_el (gw_mx lev a b c)) (nI m) (nI s) (nI r) tl pe K X Y Z F H xO xN xC xS xL xE xG xW xM xP := by
      intro hlt
      unfold wX_levelFromLower_115 wX_levelFromLower_120
      refine nm_e (br_f gw_n10 (gx_btw hnet set3 hO (fun z hz => br_c (fun q => nm_r (nI_1 c) (keep (fun hbt => absurd hbt ((gw_tv_0 hz).mp q)))) (fun q => nm_r (nI_1 c) ?_))))
      have hbt := Classical.byContradiction (fun n => q ((gw_tv_0 hz).mpr n))
      refine ih (c + 1) g (gw_mx lev a b c) (by omega) (by omega) (fun q => by have := hc q; omega) (gw_IB_take hB ht0 hbt hlt (fun x y z ht hq => ?_))
      rcases step x y z ht hq with q | ⟨q1, q2, q3⟩
      · exact Or.inl q
      · subst q1 q2 q3
        exact Or.inr (Nat.le_refl _)
    rw [wX_levelFromLower_79]
    refine br_f (nI_nlt (by omega) (by omega)) (gx_above (by omega) (by omega) (by omega) (hlv a ha) (hlv b (by omega)) (hlv c (by omega)) (hL a ha) (hL b (by omega)) (hL c (by omega)) ?_)
    have e1 := gw_el_ne (v := gw_mx lev a b c) (by omega)
    have e2 := gw_el_ne (v := B) (by omega)
    refine br_c (fun q => no (by have := e1.mp q; omega) _) (fun q => br_c (fun q2 => yes ?_) (fun q2 => ?_))
    · have := e2.mp q2
      have : ¬ gw_mx lev a b c = 99 := fun z => q (e1.mpr z)
      omega
    · have n1 : ¬ gw_mx lev a b c = 99 := fun z => q (e1.mpr z)
      have n2 : ¬ B = 99 := fun z => q2 (e2.mpr z)
      have f1 : gw_el (gw_mx lev a b c) = nI (gw_mx lev a b c + 1) := if_neg n1
      have f2 : gw_el B = nI (B + 1) := if_neg n2
      by_cases l : B ≤ gw_mx lev a b c
      · exact br_t (by rw [f1, f2]; exact nI_le (by omega) (by omega)) (no l _)
      · exact br_f (by rw [f1, f2]; exact nI_ge (by omega) (by omega)) (yes (by omega))
theorem gx_l59_l {post : Int32 → Prop} {J : Int32 → Int32 → Prop} {net k a : Nat} {lev : Nat → Nat} (O : gw_Lo K X Y Z xS xL lev net k) (ha : a < net) (h : ∀ B, gw_IB (gw_bt K X Y Z net) lev k net (fun x y z => x < a + 1) B → J (gw_el B) (nI (a + 1))) : ∀ d b g B, b + d = a + 1 → d < g → (k < 2 → a ≤ b) → gw_IB (gw_bt K X Y Z net) lev k net (fun x y z => x < a ∨ (x = a ∧ y < b)) B → wX_levelFromLower_59 post J (nI net) (nI k) (nI a) (nI m) (nI s) (nI r) tl pe K X Y Z F H xO xN xC xS xL xE xG xW xM xP g (gw_el B) (nI b) := by
  have hnet := O.1
  have hk := O.2.1
  intro d
  induction d with
  | zero =>
    intro b g B h1 h2 hb hB
    obtain ⟨g, rfl⟩ := gw_fz h2
    rw [wX_levelFromLower_59]
    refine br_t (nI_lt (by omega) (by omega)) (nm_r (nI_1 a) (h B (gw_IB_more hB (fun x y z ht hq _ => Or.inl ?_))))
    have h3 := ht.2.1
    omega
  | succ d ih =>
    intro b g B h1 h2 hb hB
    obtain ⟨g, rfl⟩ := gw_fz h2
    have go : ∀ c, c ≤ b → (k < 3 → b ≤ c) → (∀ x y z : Nat, gw_tr k net x y z → x = a → y = b → ¬ z < c) → ∃ n79, wX_levelFromLower_79 post J (wX_levelFromLower_59 post J (nI net) (nI k) (nI a) (nI m) (nI s) (nI r) tl pe K X Y Z F H xO xN xC xS xL xE xG xW xM xP g) (nI net) (nI k) (nI a) (nI b) (nI m) (nI s) (nI r) tl pe K X Y Z F H xO xN xC xS xL xE xG xW xM xP n79 (gw_el B) (nI c) := by
      intro c hc hc3 hno
      refine ⟨b + 2, gx_l79_l O ha (by omega) (fun q => by have := hb q; omega) (fun B' hB' => ih (b + 1) g B' (by omega) (by omega) (fun q => by have := hb q; omega) hB') (b + 1 - c) c (b + 2) B (by omega) (by omega) hc3 (gw_IB_more hB (fun x y z ht hq _ => Or.inl ?_))⟩
      rcases hq with hq | ⟨hx, hq | ⟨hy, hz⟩⟩
      · exact Or.inl hq
      · exact Or.inr ⟨hx, hq⟩
      · exact absurd hz (hno x y z ht hx hy)
    rw [wX_levelFromLower_59]
    refine br_f (nI_nlt (by omega) (by omega)) ?_
    rcases Nat.lt_or_ge k 3 with l | l
    · refine br_t (nI_lt (b := 3) l (by decide)) (go b (Nat.le_refl _) (fun _ => Nat.le_refl _) (fun x y z ht hx hy => ?_))
      have := ht.2.2.2.2 l
      omega
    · exact br_f (nI_nlt (b := 3) l (by omega)) (go 0 (by omega) (fun q => by omega) (fun x y z _ _ _ => Nat.not_lt_zero _))
theorem gx_l40_l {post : Int32 → Prop} {net k : Nat} {lev : Nat → Nat} (O : gw_Lo K X Y Z xS xL lev net k) (h : ∀ B, gw_IB (gw_bt K X Y Z net) lev k net (fun _ _ _ => True) B → post (gw_el B)) : ∀ d a g B, a + d = net → d < g → gw_IB (gw_bt K X Y Z net) lev k net (fun x y z => x < a) B → wX_levelFromLower_40 post (nI net) (nI k) (nI m) (nI s) (nI r) tl pe K X Y Z F H xO xN xC xS xL xE xG xW xM xP g (gw_el B) (nI a) := by
  have hnet := O.1
  have hk := O.2.1
  intro d
  induction d with
  | zero =>
    intro a g B h1 h2 hB
    obtain ⟨g, rfl⟩ := gw_fz h2
    rw [wX_levelFromLower_40]
    refine br_t (nI_le (by omega) (by omega)) (h B (gw_IB_more hB (fun x y z ht _ _ => Or.inl ?_)))
    have := ht.2.2.1
    omega
  | succ d ih =>
    intro a g B h1 h2 hB
    obtain ⟨g, rfl⟩ := gw_fz h2
    have go : ∀ b, b ≤ a → (k < 2 → a ≤ b) → (∀ x y z : Nat, gw_tr k net x y z → x = a → ¬ y < b) → ∃ n59, wX_levelFromLower_59 post (wX_levelFromLower_40 post (nI net) (nI k) (nI m) (nI s) (nI r) tl pe K X Y Z F H xO xN xC xS xL xE xG xW xM xP g) (nI net) (nI k) (nI a) (nI m) (nI s) (nI r) tl pe K X Y Z F H xO xN xC xS xL xE xG xW xM xP n59 (gw_el B) (nI b) := by
      intro b hb hb2 hno
      refine ⟨a + 2, gx_l59_l O (by omega) (fun B' hB' => ih (a + 1) g B' (by omega) (by omega) hB') (a + 1 - b) b (a + 2) B (by omega) (by omega) hb2 (gw_IB_more hB (fun x y z ht hq _ => Or.inl ?_))⟩
      rcases hq with hq | ⟨hx, hy⟩
      · exact hq
      · exact absurd hy (hno x y z ht hx)
    rw [wX_levelFromLower_40]
    refine br_f (nI_ge (by omega) (by omega)) ?_
    rcases Nat.lt_or_ge k 2 with l | l
    · refine br_t (nI_lt (b := 2) l (by decide)) (go a (Nat.le_refl _) (fun _ => Nat.le_refl _) (fun x y z ht hx => ?_))
      have := ht.2.2.2.1 l
      omega
    · exact br_f (nI_nlt (b := 2) l (by omega)) (go 0 (by omega) (fun q => by omega) (fun x y z _ _ => Nat.not_lt_zero _))
theorem gx_lfl {post : Int32 → Prop} {net k : Nat} {lev : Nat → Nat} (O : gw_Lo K X Y Z xS xL lev net k) (h0 : (K net = 0 ∨ K net = 1 ∨ K net = 2) → post 0) (h1 : ¬ (K net = 0 ∨ K net = 1 ∨ K net = 2) → gw_bt K X Y Z net (fun _ => false) = true → post 1) (h2 : ¬ (K net = 0 ∨ K net = 1 ∨ K net = 2) → gw_bt K X Y Z net (fun _ => false) = false → ∀ B, gw_IB (gw_bt K X Y Z net) lev k net (fun _ _ _ => True) B → post (gw_el B)) : wpX_levelFromLower post (nI m, nI s, nI r, tl, pe, K, X, Y, Z, F, H, xO, xN, xC, xS, xL, xE, xG, xW, xM, xP) (nI net) (nI k) := by
  have hnet := O.1
  have hO := O.2.2.1
  have cn : (nI net).toNatClampNeg = net := nI_clamp (by omega)
  have vn : vp_in (nI net) 32 := vp_in_nI (by omega) (by omega)
  unfold wpX_levelFromLower
  dsimp only
  rw [cn]
  refine ⟨vn, gx_sk (fun hk => br_f gw_n10 (h0 ?_)) (fun hk => br_t rfl ⟨vn, br_c (fun q => h0 (Or.inr (Or.inr q))) (fun q => ?_)⟩)⟩
  · rcases hk with hk | hk
    · exact Or.inl hk
    · exact Or.inr (Or.inl hk)
  · have ng : ¬ (K net = 0 ∨ K net = 1 ∨ K net = 2) := by
      rintro (z | z | z)
      · exact hk (Or.inl z)
      · exact hk (Or.inr z)
      · exact q z
    refine gx_btw (S := fun _ => false) hnet (fun j _ => b_0 j) hO (fun z hz => br_c (fun q2 => ⟨net + 1, ?_⟩) (fun q2 => h1 ng (Classical.byContradiction (fun n => q2 ((gw_tv_0 hz).mpr n)))))
    have hbf : gw_bt K X Y Z net (fun _ => false) = false := by
      cases hb : gw_bt K X Y Z net (fun _ => false) with
      | false => rfl
      | true => exact absurd hb ((gw_tv_0 hz).mp q2)
    exact gx_l40_l O (h2 ng hbf) net 0 (net + 1) 99 (by omega) (by omega) (gw_IB_0 (fun a b c _ => Nat.not_lt_zero _))
theorem gw_gate0 (hW : gw_W K X Y Z F m) : ∀ j, j < m → ¬ (K j = 0 ∨ K j = 1 ∨ K j = 2) → 0 < j := by
  intro j hj hn
  rcases (hW j hj).1 with e | e | ⟨e, _⟩ | ⟨e, jx, hjx, _⟩ | ⟨e, ⟨jx, hjx, _⟩, _⟩ | ⟨e, ⟨jx, hjx, _⟩, _⟩
  · exact absurd (Or.inl e) hn
  · exact absurd (Or.inr (Or.inl e)) hn
  · exact absurd (Or.inr (Or.inr e)) hn
  · omega
  · omega
  · omega
theorem gx_lv_l {post : Int32 → SX → Prop} {net k : Nat} (hm : m ≤ 32) (hW : gw_W K X Y Z F m) (hnet : net < m) (hk : k ≤ 3) (h : ∀ A B lev, gw_LV K X Y Z k lev (net + 1) → post (gw_en (lev net)) (nI m, nI s, nI r, tl, pe, K, X, Y, Z, F, H, xO, xN, xC, A, B, xE, xG, xW, xM, xP)) : ∀ d n g A B lev, n + d = net + 1 → d < g → (∀ i, i < n → ∀ j, j < 32 → bt (A i) j = gw_op K X Y Z i j) → (∀ j, j < n → B j = gw_en (lev j)) → gw_LV K X Y Z k lev n → wX_level_22 post (nI net) (nI k) (nI m) (nI s) (nI r) tl pe g (nI n) K X Y Z F H xO xN xC A B xE xG xW xM xP := by
  intro d
  induction d with
  | zero =>
    intro n g A B lev h1 h2 hA hB hl
    obtain ⟨g, rfl⟩ := gw_fz h2
    have cn : (nI net).toNatClampNeg = net := nI_clamp (by omega)
    rw [wX_level_22]
    refine br_t (nI_lt (by omega) (by omega)) ⟨vp_in_nI (by omega) (by omega), ?_⟩
    rw [cn, hB net (by omega)]
    rw [show n = net + 1 by omega] at hl
    exact h A B lev hl
  | succ d ih =>
    intro n g A B lev h1 h2 hA hB hl
    obtain ⟨g, rfl⟩ := gw_fz h2
    have cn : (nI n).toNatClampNeg = n := nI_clamp (by omega)
    have vn : vp_in (nI n) 32 := vp_in_nI (by omega) (by omega)
    have hb := gw_LV_b (fun j hj => gw_gate0 hW j (by omega)) hl
    rw [wX_level_22]
    refine br_f (nI_nlt (by omega) (by omega)) (gx_ops hm hW (by omega) (fun v hv => ⟨vn, ?_⟩))
    rw [cn]
    have hA' : ∀ i, i ≤ n → ∀ j, j < 32 → bt (upd A n v i) j = gw_op K X Y Z i j := by
      intro i hi j hj
      by_cases e : i = n
      · subst e; rw [pk_us]; exact hv j hj
      · rw [pk_un e]; exact hA i (by omega) j hj
    have next : ∀ w : Nat, (((K n = 0 ∨ K n = 1 ∨ K n = 2) → w = 0) ∧ (¬ (K n = 0 ∨ K n = 1 ∨ K n = 2) → (gw_bt K X Y Z n (fun _ => false) = true → w = 1) ∧ (gw_bt K X Y Z n (fun _ => false) = false → ∃ B, gw_IB (gw_bt K X Y Z n) lev k n (fun _ _ _ => True) B ∧ w = if B = 99 then 99 else B + 1))) → wX_level_22 post (nI net) (nI k) (nI m) (nI s) (nI r) tl pe g (nI (n + 1)) K X Y Z F H xO xN xC (upd A n v) (upd B n (gw_en w)) xE xG xW xM xP := by
      intro w hw
      refine ih (n + 1) g _ _ (fun j => if j = n then w else lev j) (by omega) (by omega) (fun i hi => hA' i (by omega)) (fun j hj => ?_) (gw_LV_s hl hw.1 hw.2)
      by_cases e : j = n
      · subst e
        rw [pk_us, if_pos rfl]
      · rw [pk_un e, if_neg e]
        exact hB j (by omega)
    refine nm_e (gx_lfl (lev := lev) ⟨by omega, hk, hA', hB, fun j hj => by have := hb j hj; omega⟩ (fun hh => ⟨vn, nm_r (e' := upd B n (gw_en 0)) rfl (nm_r (nI_1 n) (next 0 ⟨fun _ => rfl, fun q => absurd hh q⟩))⟩) (fun hh hbt => ⟨vn, nm_r (e' := upd B n (gw_en 1)) rfl (nm_r (nI_1 n) (next 1 ⟨fun q => absurd q hh, fun _ => ⟨fun _ => rfl, fun q => by rw [hbt] at q; exact absurd q.symm Bool.false_ne_true⟩⟩))⟩) (fun hh hbt C hC => ⟨vn, nm_r (e' := upd B n (gw_en (if C = 99 then 99 else C + 1))) ?_ (nm_r (nI_1 n) (next _ ⟨fun q => absurd q hh, fun _ => ⟨fun q => by rw [hbt] at q; exact absurd q Bool.false_ne_true, fun _ => ⟨C, hC, rfl⟩⟩⟩))⟩))
    have hC2 := gw_IB_lt (n := n) hC (fun j hj => by have := hb j hj; omega)
    congr 1
    unfold gw_el gw_en
    by_cases e : C = 99
    · rw [if_pos e, if_pos e]; rfl
    · rw [if_neg e, if_neg e, if_neg (by omega)]
theorem gx_level {post : Int32 → SX → Prop} {net k : Nat} (hm : m ≤ 32) (hW : gw_W K X Y Z F m) (hnet : net < m) (hk1 : 1 ≤ k) (hk : k ≤ 3) (h : ∀ A B lev, gw_LV K X Y Z k lev (net + 1) → post (gw_en (lev net)) (nI m, nI s, nI r, tl, pe, K, X, Y, Z, F, H, xO, xN, xC, A, B, xE, xG, xW, xM, xP)) : wpX_level post (nI m, nI s, nI r, tl, pe, K, X, Y, Z, F, H, xO, xN, xC, xS, xL, xE, xG, xW, xM, xP) (nI net) (nI k) := by
  unfold wpX_level
  dsimp only
  refine gx_net hm hnet (br_f gw_n10 (br_f (nI_nlt (b := 1) hk1 (by omega)) (br_t (nI_le (b := 3) hk (by decide)) ⟨net + 2, ?_⟩)))
  exact gx_lv_l hm hW hnet hk h (net + 1) 0 (net + 2) xS xL (fun _ => 0) (by omega) (by omega) (fun i hi => absurd hi (Nat.not_lt_zero _)) (fun j hj => absurd hj (Nat.not_lt_zero _)) (fun j hj => absurd hj (Nat.not_lt_zero _))
end
end
section
/-! levels in the reference -/
section
variable {m s r : Nat} {K X Y Z F H yA yO yS yR yL yN yD yT yM yF yW yP : Nat → Int32}
theorem gy_b82 {post : Int32 → SY → Prop} {J : Int32 → (Nat → Int32) → (Nat → Int32) → (Nat → Int32) → (Nat → Int32) → (Nat → Int32) → (Nat → Int32) → (Nat → Int32) → (Nat → Int32) → (Nat → Int32) → (Nat → Int32) → (Nat → Int32) → (Nat → Int32) → (Nat → Int32) → (Nat → Int32) → (Nat → Int32) → (Nat → Int32) → (Nat → Int32) → (Nat → Int32) → Prop} {n : Nat} {x1 x2 x3 x4 : Int32} (hm : m ≤ 32) (hW : gw_W K X Y Z F m) (hn : n < m) (h0 : gw_sk K n = true → post 0 (nI m, nI s, nI r, K, X, Y, Z, F, H, yA, yO, yS, yR, yL, yN, yD, yT, yM, yF, yW, yP)) (h1 : gw_sk K n = false → ∀ M, (∀ j, M j = if gw_op K X Y Z n j = true then 1 else yM j) → J (nI n - 1) K X Y Z F H yA yO yS yR yL yN yD yT M yF yW yP) : wY_between_82 post J x1 x2 x3 x4 (nI n) (nI m) (nI s) (nI r) K X Y Z F H yA yO yS yR yL yN yD yT yM yF yW yP := by
  have cn : (nI n).toNatClampNeg = n := nI_clamp (by omega)
  have vn : vp_in (nI n) 32 := vp_in_nI (by omega) (by omega)
  unfold wY_between_82 wpY_operands wY_between_125 wY_between_144
  rw [cn]
  rcases (hW n hn).1 with e | e | ⟨e, hx⟩ | ⟨e, jx, hjx, ex⟩ | ⟨e, ⟨jx, hjx, ex⟩, ⟨jy, hjy, ey⟩⟩ | ⟨e, ⟨jx, hjx, ex⟩, ⟨jy, hjy, ey⟩, ⟨jz, hjz, ez⟩⟩
  · have hs : gw_sk K n = true := gw_sk_t.mpr (Or.inl e)
    rw [e]
    exact ⟨vn, br_f (by decide) (h0 hs)⟩
  · have hs : gw_sk K n = true := gw_sk_t.mpr (Or.inr e)
    rw [e]
    exact ⟨vn, br_f (by decide) (h0 hs)⟩
  · have hs : gw_sk K n = false := gw_sk_f.mpr (by rw [e]; decide)
    have g := h1 hs yM (fun j => by
      have : gw_op K X Y Z n j = false := by unfold gw_op; rw [e]; rfl
      rw [this]; rfl)
    rw [e]
    exact ⟨vn, br_t (by decide) ⟨vn, br_f (by decide) (br_t (by decide) (br_t (by decide) (br_t (by decide) (nm_r (gw_dec1 n) g))))⟩⟩
  · have hs : gw_sk K n = false := gw_sk_f.mpr (by rw [e]; decide)
    have cx : (nI jx).toNatClampNeg = jx := nI_clamp (by omega)
    have vx : vp_in (nI jx) 32 := vp_in_nI (by omega) (by omega)
    have g := h1 hs (upd yM jx 1) (fun j => by
      have : gw_op K X Y Z n j = decide (j = jx) := by unfold gw_op; rw [e, ex, cx]; rfl
      rw [this]
      by_cases q : j = jx
      · subst q; rw [pk_us, if_pos (decide_eq_true rfl)]
      · rw [pk_un q, decide_eq_false q]; rfl)
    rw [e, ex, cx]
    exact ⟨vn, br_t (by decide) ⟨vn, br_t (by decide) (br_t rfl (br_f (by decide) ⟨vn, vx, nm_r (e' := upd yM jx 1) rfl (br_t (by decide) (br_t (by decide) (nm_r (gw_dec1 n) g)))⟩))⟩⟩
  · have hs : gw_sk K n = false := gw_sk_f.mpr (by rcases e with e | e | e <;> rw [e] <;> decide)
    have cx : (nI jx).toNatClampNeg = jx := nI_clamp (by omega)
    have vx : vp_in (nI jx) 32 := vp_in_nI (by omega) (by omega)
    have cy : (nI jy).toNatClampNeg = jy := nI_clamp (by omega)
    have vy : vp_in (nI jy) 32 := vp_in_nI (by omega) (by omega)
    have g := h1 hs (upd (upd yM jx 1) jy 1) (fun j => by
      have : gw_op K X Y Z n j = (decide (j = jx) || decide (j = jy)) := by
        unfold gw_op
        rw [if_neg (by rcases e with e | e | e <;> rw [e] <;> decide), if_pos e, ex, ey, cx, cy]
      rw [this]
      by_cases q : j = jy
      · subst q; rw [pk_us, decide_eq_true (rfl : j = j), Bool.or_true, if_pos rfl]
      · rw [pk_un q, decide_eq_false q, Bool.or_false]
        by_cases q2 : j = jx
        · subst q2; rw [pk_us, if_pos (decide_eq_true rfl)]
        · rw [pk_un q2, decide_eq_false q2]; rfl)
    rw [ex, ey, cx, cy]
    rcases e with e | e | e
    · rw [e]
      exact ⟨vn, br_t (by decide) ⟨vn, br_t (by decide) (br_f (by decide) (br_f (by decide) (br_f (by decide) ⟨vn, vx, nm_r (e' := upd yM jx 1) rfl (br_f (by decide) ⟨vn, vy, nm_r (e' := upd (upd yM jx 1) jy 1) rfl (br_t (by decide) (nm_r (gw_dec1 n) g))⟩)⟩)))⟩⟩
    · rw [e]
      exact ⟨vn, br_t (by decide) ⟨vn, br_t (by decide) (br_f (by decide) (br_f (by decide) (br_f (by decide) ⟨vn, vx, nm_r (e' := upd yM jx 1) rfl (br_f (by decide) ⟨vn, vy, nm_r (e' := upd (upd yM jx 1) jy 1) rfl (br_t (by decide) (nm_r (gw_dec1 n) g))⟩)⟩)))⟩⟩
    · rw [e]
      exact ⟨vn, br_t (by decide) ⟨vn, br_t (by decide) (br_f (by decide) (br_f (by decide) (br_f (by decide) ⟨vn, vx, nm_r (e' := upd yM jx 1) rfl (br_f (by decide) ⟨vn, vy, nm_r (e' := upd (upd yM jx 1) jy 1) rfl (br_t (by decide) (nm_r (gw_dec1 n) g))⟩)⟩)))⟩⟩
  · have hs : gw_sk K n = false := gw_sk_f.mpr (by rw [e]; decide)
    have cx : (nI jx).toNatClampNeg = jx := nI_clamp (by omega)
    have vx : vp_in (nI jx) 32 := vp_in_nI (by omega) (by omega)
    have cy : (nI jy).toNatClampNeg = jy := nI_clamp (by omega)
    have vy : vp_in (nI jy) 32 := vp_in_nI (by omega) (by omega)
    have cz : (nI jz).toNatClampNeg = jz := nI_clamp (by omega)
    have vz : vp_in (nI jz) 32 := vp_in_nI (by omega) (by omega)
    have g := h1 hs (upd (upd (upd yM jx 1) jy 1) jz 1) (fun j => by
      have : gw_op K X Y Z n j = (decide (j = jx) || decide (j = jy) || decide (j = jz)) := by
        unfold gw_op
        rw [e, ex, ey, ez, cx, cy, cz]; rfl
      rw [this]
      by_cases q : j = jz
      · subst q; rw [pk_us, decide_eq_true (rfl : j = j), Bool.or_true, if_pos rfl]
      · rw [pk_un q, decide_eq_false q, Bool.or_false]
        by_cases q1 : j = jy
        · subst q1; rw [pk_us, decide_eq_true (rfl : j = j), Bool.or_true, if_pos rfl]
        · rw [pk_un q1, decide_eq_false q1, Bool.or_false]
          by_cases q2 : j = jx
          · subst q2; rw [pk_us, if_pos (decide_eq_true rfl)]
          · rw [pk_un q2, decide_eq_false q2]; rfl)
    rw [e, ex, ey, ez, cx, cy, cz]
    exact ⟨vn, br_t (by decide) ⟨vn, br_t (by decide) (br_f (by decide) (br_t rfl (br_f (by decide) ⟨vn, vx, nm_r (e' := upd yM jx 1) rfl (br_f (by decide) ⟨vn, vy, nm_r (e' := upd (upd yM jx 1) jy 1) rfl (br_f (by decide) ⟨vn, vz, nm_r (e' := upd (upd (upd yM jx 1) jy 1) jz 1) rfl (nm_r (gw_dec1 n) g)⟩)⟩)⟩)))⟩⟩
theorem gy_b39_l {post : Int32 → SY → Prop} {net : Nat} {x2 x3 x4 : Int32} {S : Nat → Bool} (hm : m ≤ 32) (hW : gw_W K X Y Z F m) (hnet : net < m) (hS : ∀ j, j < net → (S j = true ↔ nI j = x2 ∨ nI j = x3 ∨ nI j = x4)) : ∀ n g A M, n ≤ net → n < g → (∀ j, j < n → A j = gw_b (M j)) → (∀ z B, gw_tv (gw_bk (gw_sk K) (gw_op K X Y Z) S n M = true) z → post z (nI m, nI s, nI r, K, X, Y, Z, F, H, yA, yO, yS, yR, yL, yN, yD, yT, B, yF, yW, yP)) → wY_between_39 post (nI net) x2 x3 x4 (nI m) (nI s) (nI r) g (nI n - 1) K X Y Z F H yA yO yS yR yL yN yD yT A yF yW yP := by
  intro n
  induction n with
  | zero =>
    intro g A M h1 h2 hA h
    obtain ⟨g, rfl⟩ := gw_fz h2
    rw [wY_between_39]
    exact br_t (by decide) (h 1 A (gw_tv_t rfl))
  | succ n ih =>
    intro g A M h1 h2 hA h
    obtain ⟨g, rfl⟩ := gw_fz h2
    have cn : (nI n).toNatClampNeg = n := nI_clamp (by omega)
    have vn : vp_in (nI n) 32 := vp_in_nI (by omega) (by omega)
    have skip : ¬ (M n = true ∧ S n = false) → wY_between_39 post (nI net) x2 x3 x4 (nI m) (nI s) (nI r) g (nI n - 1) K X Y Z F H yA yO yS yR yL yN yD yT A yF yW yP := by
      intro q
      refine ih g A M (by omega) (by omega) (fun j hj => hA j (by omega)) (fun z B hz => h z B ?_)
      have e : gw_bk (gw_sk K) (gw_op K X Y Z) S (n + 1) M = gw_bk (gw_sk K) (gw_op K X Y Z) S n M := if_neg q
      rw [e]
      exact hz
    rw [wY_between_39, nI_pred]
    dsimp only
    rw [gw_dec1, cn, hA n (by omega)]
    refine br_f (nI_pos (by omega)) ⟨vn, ?_⟩
    cases hM : M n with
    | false => exact br_t rfl (nm_e (skip (fun q => by rw [hM] at q; exact Bool.false_ne_true q.1)))
    | true =>
      refine br_f (by decide) (br_f (fun q => by rw [nI_eq (by omega) (by omega)] at q; omega) ?_)
      have hSn := hS n (by omega)
      have inS : S n = true → wY_between_39 post (nI net) x2 x3 x4 (nI m) (nI s) (nI r) g (nI n - 1) K X Y Z F H yA yO yS yR yL yN yD yT A yF yW yP := fun q => skip (fun q2 => by rw [q] at q2; exact Bool.false_ne_true q2.2.symm)
      refine br_c (fun q => nm_e (inS (hSn.mpr (Or.inl q)))) (fun q => br_c (fun q2 => nm_e (inS (hSn.mpr (Or.inr (Or.inl q2))))) (fun q2 => br_c (fun q3 => nm_e (inS (hSn.mpr (Or.inr (Or.inr q3))))) (fun q3 => ?_)))
      have nS : S n = false := by
        cases hs : S n with
        | false => rfl
        | true =>
          rcases hSn.mp hs with z | z | z
          · exact absurd z q
          · exact absurd z q2
          · exact absurd z q3
      refine gy_b82 hm hW (by omega) (fun hs => h 0 A (gw_tv_f ?_)) (fun hs B hB => ih g B (fun j => M j || gw_op K X Y Z n j) (by omega) (by omega) (fun j hj => ?_) (fun z C hz => h z C ?_))
      · have e : gw_bk (gw_sk K) (gw_op K X Y Z) S (n + 1) M = false := by
          show (if M n = true ∧ S n = false then (if gw_sk K n = true then false else _) else _) = false
          rw [if_pos ⟨hM, nS⟩, if_pos hs]
        rw [e]
        exact Bool.false_ne_true
      · rw [hB j, hA j (by omega)]
        cases M j <;> cases gw_op K X Y Z n j <;> rfl
      · have e : gw_bk (gw_sk K) (gw_op K X Y Z) S (n + 1) M = gw_bk (gw_sk K) (gw_op K X Y Z) S n (fun j => M j || gw_op K X Y Z n j) := by
          show (if M n = true ∧ S n = false then (if gw_sk K n = true then false else _) else _) = _
          rw [if_pos ⟨hM, nS⟩, if_neg (by rw [hs]; exact Bool.false_ne_true)]
        rw [e]
        exact hz
theorem gy_b3_l {post : Int32 → SY → Prop} {net : Nat} {x2 x3 x4 : Int32} {S : Nat → Bool} (hm : m ≤ 32) (hW : gw_W K X Y Z F m) (hnet : net < m) (hg : gw_sk K net = false) (hS : ∀ j, j < net → (S j = true ↔ nI j = x2 ∨ nI j = x3 ∨ nI j = x4)) (h : ∀ z B, gw_tv (gw_bt K X Y Z net S = true) z → post z (nI m, nI s, nI r, K, X, Y, Z, F, H, yA, yO, yS, yR, yL, yN, yD, yT, B, yF, yW, yP)) : ∀ d j g A, j + d = m → d < g → (∀ i, i < j → A i = gw_b (decide (i = net))) → wY_between_3 post (nI net) x2 x3 x4 (nI m) (nI s) (nI r) g (nI j) K X Y Z F H yA yO yS yR yL yN yD yT A yF yW yP := by
  intro d
  induction d with
  | zero =>
    intro j g A h1 h2 hA
    obtain ⟨g, rfl⟩ := gw_fz h2
    have cn : (nI net).toNatClampNeg = net := nI_clamp (by omega)
    rw [wY_between_3]
    refine br_t (nI_le (by omega) (by omega)) ⟨net + 2, ?_⟩
    rw [wY_between_39]
    dsimp only
    rw [cn, hA net (by omega), decide_eq_true rfl]
    refine br_f (nI_pos (by omega)) ⟨vp_in_nI (by omega) (by omega), br_f (by decide) (br_t rfl (gy_b82 hm hW hnet (fun hs => ?_) (fun _ B hB => gy_b39_l hm hW hnet hS net (net + 1) B (gw_op K X Y Z net) (Nat.le_refl _) (by omega) (fun i hi => ?_) h)))⟩
    · rw [hg] at hs; exact absurd hs Bool.false_ne_true
    · rw [hB i, hA i (by omega), decide_eq_false (show ¬ i = net by omega)]
      cases gw_op K X Y Z net i <;> rfl
  | succ d ih =>
    intro j g A h1 h2 hA
    obtain ⟨g, rfl⟩ := gw_fz h2
    have cj : (nI j).toNatClampNeg = j := nI_clamp (by omega)
    have vj : vp_in (nI j) 32 := vp_in_nI (by omega) (by omega)
    have next : ∀ b : Bool, b = decide (j = net) → wY_between_3 post (nI net) x2 x3 x4 (nI m) (nI s) (nI r) g (nI (j + 1)) K X Y Z F H yA yO yS yR yL yN yD yT (upd A j (gw_b b)) yF yW yP := by
      intro b hb
      refine ih (j + 1) g _ (by omega) (by omega) (fun i hi => ?_)
      by_cases e : i = j
      · subst e; rw [pk_us, hb]
      · rw [pk_un e]; exact hA i (by omega)
    rw [wY_between_3]
    dsimp only
    rw [cj]
    refine br_f (nI_ge (by omega) (by omega)) ?_
    by_cases e : j = net
    · exact br_t (by rw [e]) ⟨vj, nm_r (e' := upd A j (gw_b true)) rfl (nm_r (nI_1 j) (next true (decide_eq_true e).symm))⟩
    · exact br_f (fun q => e ((nI_eq (by omega) (by omega)).mp q)) ⟨vj, nm_r (e' := upd A j (gw_b false)) rfl (nm_r (nI_1 j) (next false (decide_eq_false e).symm))⟩
theorem gy_btw {post : Int32 → SY → Prop} {net : Nat} {x2 x3 x4 : Int32} {S : Nat → Bool} (hm : m ≤ 32) (hW : gw_W K X Y Z F m) (hnet : net < m) (hg : gw_sk K net = false) (hS : ∀ j, j < net → (S j = true ↔ nI j = x2 ∨ nI j = x3 ∨ nI j = x4)) (h : ∀ z B, gw_tv (gw_bt K X Y Z net S = true) z → post z (nI m, nI s, nI r, K, X, Y, Z, F, H, yA, yO, yS, yR, yL, yN, yD, yT, B, yF, yW, yP)) : wpY_between post (nI m, nI s, nI r, K, X, Y, Z, F, H, yA, yO, yS, yR, yL, yN, yD, yT, yM, yF, yW, yP) (nI net) x2 x3 x4 :=
  ⟨m + 1, gy_b3_l hm hW hnet hg hS h m 0 (m + 1) yM (by omega) (by omega) (fun i hi => absurd hi (Nat.not_lt_zero _))⟩
end
theorem gw_S3_t {a b c j : Nat} : gw_S3 a b c j = true ↔ j = a ∨ j = b ∨ j = c := by
  unfold gw_S3
  rw [Bool.or_eq_true, Bool.or_eq_true, decide_eq_true_iff, decide_eq_true_iff, decide_eq_true_iff]
  constructor
  · rintro ((h | h) | h)
    · exact Or.inl h
    · exact Or.inr (Or.inl h)
    · exact Or.inr (Or.inr h)
  · rintro (h | h | h)
    · exact Or.inl (Or.inl h)
    · exact Or.inl (Or.inr h)
    · exact Or.inr h
theorem gw_S3_2 (a b : Nat) : gw_S3 a a b = gw_S3 a b b := by
  funext j
  unfold gw_S3
  cases decide (j = a) <;> cases decide (j = b) <;> rfl
/-- what the reference's search for a level rests on -/
def gw_Ly (K X Y Z F yL : Nat → Int32) (lev : Nat → Nat) (m net k : Nat) : Prop := m ≤ 32 ∧ gw_W K X Y Z F m ∧ net < m ∧ gw_sk K net = false ∧ k ≤ 3 ∧ (∀ j, j < net → yL j = nI (lev j)) ∧ ∀ j, j < net → lev j ≤ 40 ∨ lev j = 99
def gw_Pb (a b x y z : Nat) : Prop := x < a ∨ (x = a ∧ ((y = a ∧ (z = a ∨ z < b)) ∨ y < b))
def gw_Pc (a b c x y z : Nat) : Prop := gw_Pb a b x y z ∨ (x = a ∧ ((y = a ∧ z = b) ∨ (y = b ∧ (z = b ∨ z < c))))
section
variable {m s r : Nat} {K X Y Z F H yA yO yS yR yL yN yD yT yM yF yW yP : Nat → Int32}
theorem gy_l138_l {post : Int32 → SY → Prop} {J19 J : Int32 → Int32 → Int32 → Int32 → Int32 → (Nat → Int32) → (Nat → Int32) → (Nat → Int32) → (Nat → Int32) → (Nat → Int32) → (Nat → Int32) → (Nat → Int32) → (Nat → Int32) → (Nat → Int32) → (Nat → Int32) → (Nat → Int32) → (Nat → Int32) → (Nat → Int32) → (Nat → Int32) → (Nat → Int32) → (Nat → Int32) → (Nat → Int32) → (Nat → Int32) → Prop} {net k a b tw : Nat} {lev : Nat → Nat} (O : gw_Ly K X Y Z F yL lev m net k) (ha : a < net) (hb : b < a) (hk : 2 ≤ k) (htw : tw = max (lev a) (lev b)) (h : ∀ B A, gw_IB (gw_bt K X Y Z net) lev k net (gw_Pb a (b + 1)) B → J (nI B) (nI (b + 1)) (nI m) (nI s) (nI r) K X Y Z F H yA yO yS yR yL yN yD yT A yF yW yP) : ∀ d c g B A, c + d = b → d < g → gw_IB (gw_bt K X Y Z net) lev k net (gw_Pc a b c) B → wY_least_138 post J19 J (nI net) (nI k) (nI a) (nI b) (nI tw) g (nI B) (nI c) (nI m) (nI s) (nI r) K X Y Z F H yA yO yS yR yL yN yD yT A yF yW yP := by
  obtain ⟨hm, hW, hnet, hg, hk3, hL, hlv⟩ := O
  have la := hlv a ha
  have lb := hlv b (by omega)
  intro d
  induction d with
  | zero =>
    intro c g B A h1 h2 hB
    obtain ⟨g, rfl⟩ := gw_fz h2
    rw [wY_least_138]
    refine br_t (nI_le (by omega) (by omega)) (nm_r (nI_1 b) (h B A (gw_IB_more hB (fun x y z ht hq _ => Or.inl ?_))))
    have h3 := ht.1
    have h4 := ht.2.1
    unfold gw_Pb at hq
    unfold gw_Pc gw_Pb
    omega
  | succ d ih =>
    intro c g B A h1 h2 hB
    obtain ⟨g, rfl⟩ := gw_fz h2
    have hB99 := hB.1
    have cc : (nI c).toNatClampNeg = c := nI_clamp (by omega)
    have vc : vp_in (nI c) 32 := vp_in_nI (by omega) (by omega)
    have lc := hlv c (by omega)
    rw [wY_least_138]
    refine br_f (nI_ge (by omega) (by omega)) ?_
    rcases Nat.lt_or_ge 2 k with l | l
    · have hmx : gw_mx lev a b c = max tw (lev c) := by unfold gw_mx; rw [htw]
      have ht0 : gw_tr k net a b c := ⟨by omega, by omega, ha, fun q => by omega, fun q => by omega⟩
      have step : ∀ x y z, gw_Pc a b (c + 1) x y z → gw_Pc a b c x y z ∨ (x = a ∧ y = b ∧ z = c) := by
        intro x y z q
        unfold gw_Pc gw_Pb at q ⊢
        omega
      have keep : (gw_bt K X Y Z net (gw_S3 a b c) = true → B ≤ gw_mx lev a b c) → ∀ A', wY_least_138 post J19 J (nI net) (nI k) (nI a) (nI b) (nI tw) g (nI B) (nI (c + 1)) (nI m) (nI s) (nI r) K X Y Z F H yA yO yS yR yL yN yD yT A' yF yW yP := by
        intro hle A'
        refine ih (c + 1) g B A' (by omega) (by omega) (gw_IB_more hB (fun x y z ht hq hbt => ?_))
        rcases step x y z hq with q | ⟨q1, q2, q3⟩
        · exact Or.inl q
        · subst q1 q2 q3
          exact Or.inr (hle hbt)
      have go : ∀ th : Nat, th = gw_mx lev a b c → wY_least_174 post J19 J (wY_least_138 post J19 J (nI net) (nI k) (nI a) (nI b) (nI tw) g) (nI net) (nI k) (nI B) (nI a) (nI b) (nI tw) (nI c) (nI th) (nI m) (nI s) (nI r) K X Y Z F H yA yO yS yR yL yN yD yT A yF yW yP := by
        intro th hth
        unfold wY_least_174
        refine pk_le B th (fun q => nm_r (nI_1 c) (keep (fun _ => by omega) A)) (fun q => gy_btw (S := gw_S3 a b c) hm hW hnet hg (fun j hj => ?_) (fun z A' hz => br_c (fun q2 => nm_r (nI_1 c) (keep (fun hbt => absurd hbt ((gw_tv_0 hz).mp q2)) A')) (fun q2 => nm_r (nI_1 c) ?_)))
        · rw [gw_S3_t, nI_eq (by omega) (by omega), nI_eq (by omega) (by omega), nI_eq (by omega) (by omega)]
        · have hbt := Classical.byContradiction (fun n => q2 ((gw_tv_0 hz).mpr n))
          rw [hth]
          refine ih (c + 1) g _ A' (by omega) (by omega) (gw_IB_take hB ht0 hbt (by omega) (fun x y z ht hq => ?_))
          rcases step x y z hq with q | ⟨q1, q2, q3⟩
          · exact Or.inl q
          · subst q1 q2 q3
            exact Or.inr (Nat.le_refl _)
      rw [cc, hL c (by omega)]
      refine br_f (nI_ge (a := 2) l (by omega)) ⟨vc, pk_le tw (lev c) (fun q => ⟨vc, go (lev c) (by omega)⟩) (fun q => go tw (by omega))⟩
    · refine br_t (nI_le (b := 2) l (by decide)) (nm_r (nI_1 b) (h B A (gw_IB_more hB (fun x y z ht hq _ => Or.inl ?_))))
      have h3 := ht.1
      have h4 := ht.2.1
      have h5 := ht.2.2.2.2 (by omega)
      unfold gw_Pb at hq
      unfold gw_Pc gw_Pb
      omega
theorem gy_l62_l {post : Int32 → SY → Prop} {J : Int32 → Int32 → Int32 → Int32 → Int32 → (Nat → Int32) → (Nat → Int32) → (Nat → Int32) → (Nat → Int32) → (Nat → Int32) → (Nat → Int32) → (Nat → Int32) → (Nat → Int32) → (Nat → Int32) → (Nat → Int32) → (Nat → Int32) → (Nat → Int32) → (Nat → Int32) → (Nat → Int32) → (Nat → Int32) → (Nat → Int32) → (Nat → Int32) → (Nat → Int32) → Prop} {net k a : Nat} {lev : Nat → Nat} (O : gw_Ly K X Y Z F yL lev m net k) (ha : a < net) (h : ∀ B A, gw_IB (gw_bt K X Y Z net) lev k net (fun x y z => x < a + 1) B → J (nI B) (nI (a + 1)) (nI m) (nI s) (nI r) K X Y Z F H yA yO yS yR yL yN yD yT A yF yW yP) : ∀ d b g B A, b + d = a → d < g → gw_IB (gw_bt K X Y Z net) lev k net (gw_Pb a b) B → wY_least_62 post J (nI net) (nI k) (nI a) g (nI B) (nI b) (nI m) (nI s) (nI r) K X Y Z F H yA yO yS yR yL yN yD yT A yF yW yP := by
  have O' := O
  obtain ⟨hm, hW, hnet, hg, hk3, hL, hlv⟩ := O
  have la := hlv a ha
  have ca : (nI a).toNatClampNeg = a := nI_clamp (by omega)
  have va : vp_in (nI a) 32 := vp_in_nI (by omega) (by omega)
  intro d
  induction d with
  | zero =>
    intro b g B A h1 h2 hB
    obtain ⟨g, rfl⟩ := gw_fz h2
    rw [wY_least_62]
    refine br_t (nI_le (by omega) (by omega)) (nm_r (nI_1 a) (h B A (gw_IB_more hB (fun x y z ht hq _ => Or.inl ?_))))
    have h3 := ht.1
    have h4 := ht.2.1
    unfold gw_Pb
    omega
  | succ d ih =>
    intro b g B A h1 h2 hB
    obtain ⟨g, rfl⟩ := gw_fz h2
    have hB99 := hB.1
    have cb : (nI b).toNatClampNeg = b := nI_clamp (by omega)
    have vb : vp_in (nI b) 32 := vp_in_nI (by omega) (by omega)
    have lb := hlv b (by omega)
    rw [wY_least_62]
    refine br_f (nI_ge (by omega) (by omega)) ?_
    rcases Nat.lt_or_ge 1 k with l | l
    · have ht0 : gw_tr k net a b b := ⟨Nat.le_refl _, by omega, ha, fun q => by omega, fun _ => rfl⟩
      have hmx : gw_mx lev a b b = max (lev a) (lev b) := by unfold gw_mx; omega
      have hmx2 : gw_mx lev a a b = max (lev a) (lev b) := by unfold gw_mx; omega
      have step : ∀ x y z, gw_tr k net x y z → gw_Pc a b 0 x y z → gw_Pb a b x y z ∨ (x = a ∧ y = b ∧ z = b) ∨ (x = a ∧ y = a ∧ z = b) := by
        intro x y z _ q
        unfold gw_Pc gw_Pb at q
        unfold gw_Pb
        omega
      have go : ∀ tw : Nat, tw = max (lev a) (lev b) → wY_least_108 post J (wY_least_62 post J (nI net) (nI k) (nI a) g) (nI net) (nI k) (nI B) (nI a) (nI b) (nI tw) (nI m) (nI s) (nI r) K X Y Z F H yA yO yS yR yL yN yD yT A yF yW yP := by
        intro tw htw
        have deep : ∀ B', gw_IB (gw_bt K X Y Z net) lev k net (gw_Pc a b 0) B' → ∀ A', ∃ n138, wY_least_138 post J (wY_least_62 post J (nI net) (nI k) (nI a) g) (nI net) (nI k) (nI a) (nI b) (nI tw) n138 (nI B') 0 (nI m) (nI s) (nI r) K X Y Z F H yA yO yS yR yL yN yD yT A' yF yW yP := fun B' hB' A' =>
          ⟨b + 1, gy_l138_l O' ha (by omega) (by omega) htw (fun B2 A2 hB2 => ih (b + 1) g B2 A2 (by omega) (by omega) hB2) b 0 (b + 1) B' A' (by omega) (by omega) hB'⟩
        unfold wY_least_108
        refine pk_lt tw B (fun q => gy_btw (S := gw_S3 a b b) hm hW hnet hg (fun j hj => ?_) (fun z A' hz => br_c (fun q2 => deep B (gw_IB_more hB (fun x y z ht hq hbt => ?_)) A') (fun q2 => ?_))) (fun q => nm_r (nI_1 b) (ih (b + 1) g B A (by omega) (by omega) (gw_IB_more hB (fun x y z ht hq _ => ?_))))
        · rw [gw_S3_t, nI_eq (by omega) (by omega), nI_eq (by omega) (by omega)]
          have n1 := gw_m1 (show j < 2 ^ 31 by omega)
          constructor
          · rintro (q | q | q)
            · exact Or.inl q
            · exact Or.inr (Or.inl q)
            · exact Or.inr (Or.inl q)
          · rintro (q | q | q)
            · exact Or.inl q
            · exact Or.inr (Or.inl q)
            · exact absurd q n1
        · rcases step x y z ht hq with q3 | ⟨e1, e2, e3⟩ | ⟨e1, e2, e3⟩
          · exact Or.inl q3
          · subst e1 e2 e3
            exact absurd hbt ((gw_tv_0 hz).mp q2)
          · subst e1 e2 e3
            rw [gw_S3_2] at hbt
            exact absurd hbt ((gw_tv_0 hz).mp q2)
        · have hbt := Classical.byContradiction (fun n => q2 ((gw_tv_0 hz).mpr n))
          have hT := gw_IB_take (Q := gw_Pc a b 0) hB ht0 hbt (by omega) (fun x y z ht hq => by
            rcases step x y z ht hq with q3 | ⟨e1, e2, e3⟩ | ⟨e1, e2, e3⟩
            · exact Or.inl q3
            · subst e1 e2 e3
              exact Or.inr (Nat.le_refl _)
            · subst e1 e2 e3
              exact Or.inr (by omega))
          rw [hmx, ← htw] at hT
          exact deep tw hT A'
        · have h3 := ht.1
          have h4 := ht.2.1
          by_cases p : gw_Pb a b x y z
          · exact Or.inl p
          · right
            have : (x = a ∧ y = b) ∨ (x = a ∧ y = a ∧ z = b) := by
              unfold gw_Pb at hq p
              omega
            unfold gw_mx
            rcases this with ⟨e1, e2⟩ | ⟨e1, e2, e3⟩
            · rw [e1, e2]; omega
            · rw [e1, e2, e3]; omega
      rw [ca, cb, hL a ha, hL b (by omega)]
      refine br_f (nI_ge (a := 1) l (by omega)) ⟨va, vb, pk_le (lev a) (lev b) (fun q => ⟨vb, go (lev b) (by omega)⟩) (fun q => ⟨va, go (lev a) (by omega)⟩)⟩
    · refine br_t (nI_le (b := 1) l (by decide)) (nm_r (nI_1 a) (h B A (gw_IB_more hB (fun x y z ht hq _ => Or.inl ?_))))
      have h3 := ht.1
      have h4 := ht.2.1
      have h5 := ht.2.2.2.1 (by omega)
      have h6 := ht.2.2.2.2 (by omega)
      unfold gw_Pb
      omega
theorem gy_l19_l {post : Int32 → SY → Prop} {net k : Nat} {lev : Nat → Nat} (O : gw_Ly K X Y Z F yL lev m net k) (h : ∀ B A, gw_IB (gw_bt K X Y Z net) lev k net (fun _ _ _ => True) B → post (nI B) (nI m, nI s, nI r, K, X, Y, Z, F, H, yA, yO, yS, yR, yL, yN, yD, yT, A, yF, yW, yP)) : ∀ d a g B A, a + d = net → d < g → gw_IB (gw_bt K X Y Z net) lev k net (fun x y z => x < a) B → wY_least_19 post (nI net) (nI k) g (nI B) (nI a) (nI m) (nI s) (nI r) K X Y Z F H yA yO yS yR yL yN yD yT A yF yW yP := by
  have O' := O
  obtain ⟨hm, hW, hnet, hg, hk3, hL, hlv⟩ := O
  intro d
  induction d with
  | zero =>
    intro a g B A h1 h2 hB
    obtain ⟨g, rfl⟩ := gw_fz h2
    rw [wY_least_19]
    refine br_t (nI_le (by omega) (by omega)) (h B A (gw_IB_more hB (fun x y z ht _ _ => Or.inl ?_)))
    have := ht.2.2.1
    omega
  | succ d ih =>
    intro a g B A h1 h2 hB
    obtain ⟨g, rfl⟩ := gw_fz h2
    have hB99 := hB.1
    have ca : (nI a).toNatClampNeg = a := nI_clamp (by omega)
    have va : vp_in (nI a) 32 := vp_in_nI (by omega) (by omega)
    have la := hlv a (by omega)
    have ht0 : gw_tr k net a a a := ⟨Nat.le_refl _, Nat.le_refl _, by omega, fun _ => rfl, fun _ => rfl⟩
    have hmx : gw_mx lev a a a = lev a := by unfold gw_mx; omega
    have deep : ∀ B', gw_IB (gw_bt K X Y Z net) lev k net (gw_Pb a 0) B' → ∀ A', ∃ n62, wY_least_62 post (wY_least_19 post (nI net) (nI k) g) (nI net) (nI k) (nI a) n62 (nI B') 0 (nI m) (nI s) (nI r) K X Y Z F H yA yO yS yR yL yN yD yT A' yF yW yP := fun B' hB' A' =>
      ⟨a + 1, gy_l62_l O' (by omega) (fun B2 A2 hB2 => ih (a + 1) g B2 A2 (by omega) (by omega) hB2) a 0 (a + 1) B' A' (by omega) (by omega) hB'⟩
    have step : ∀ x y z, gw_Pb a 0 x y z → x < a ∨ (x = a ∧ y = a ∧ z = a) := by
      intro x y z q
      unfold gw_Pb at q
      omega
    rw [wY_least_19]
    dsimp only
    rw [ca, hL a (by omega)]
    refine br_f (nI_ge (by omega) (by omega)) ⟨va, pk_lt (lev a) B (fun q => gy_btw (S := gw_S3 a a a) hm hW hnet hg (fun j hj => ?_) (fun z A' hz => br_c (fun q2 => deep B (gw_IB_more hB (fun x y z ht hq hbt => ?_)) A') (fun q2 => ⟨va, nm_r (e' := nI (lev a)) (hL a (by omega)) ?_⟩))) (fun q => nm_r (nI_1 a) (ih (a + 1) g B A (by omega) (by omega) (gw_IB_more hB (fun x y z ht hq _ => ?_))))⟩
    · rw [gw_S3_t, nI_eq (by omega) (by omega)]
      have n1 := gw_m1 (show j < 2 ^ 31 by omega)
      constructor
      · rintro (q | q | q)
        · exact Or.inl q
        · exact Or.inl q
        · exact Or.inl q
      · rintro (q | q | q)
        · exact Or.inl q
        · exact absurd q n1
        · exact absurd q n1
    · rcases step x y z hq with q3 | ⟨e1, e2, e3⟩
      · exact Or.inl q3
      · subst e1 e2 e3
        exact absurd hbt ((gw_tv_0 hz).mp q2)
    · have hbt := Classical.byContradiction (fun n => q2 ((gw_tv_0 hz).mpr n))
      have hT := gw_IB_take (Q := gw_Pb a 0) hB ht0 hbt (by omega) (fun x y z ht hq => by
        rcases step x y z hq with q3 | ⟨e1, e2, e3⟩
        · exact Or.inl q3
        · subst e1 e2 e3
          exact Or.inr (Nat.le_refl _))
      rw [hmx] at hT
      exact deep (lev a) hT A'
    · rcases Nat.lt_or_ge x a with l | l
      · exact Or.inl l
      · right
        have e1 : x = a := by omega
        rw [e1]
        unfold gw_mx
        omega
theorem gy_least {post : Int32 → SY → Prop} {net k : Nat} {lev : Nat → Nat} (O : gw_Ly K X Y Z F yL lev m net k) (h1 : gw_bt K X Y Z net (fun _ => false) = true → ∀ A, post (-1) (nI m, nI s, nI r, K, X, Y, Z, F, H, yA, yO, yS, yR, yL, yN, yD, yT, A, yF, yW, yP)) (h2 : gw_bt K X Y Z net (fun _ => false) = false → ∀ B A, gw_IB (gw_bt K X Y Z net) lev k net (fun _ _ _ => True) B → post (nI B) (nI m, nI s, nI r, K, X, Y, Z, F, H, yA, yO, yS, yR, yL, yN, yD, yT, A, yF, yW, yP)) : wpY_least post (nI m, nI s, nI r, K, X, Y, Z, F, H, yA, yO, yS, yR, yL, yN, yD, yT, yM, yF, yW, yP) (nI net) (nI k) := by
  have O' := O
  obtain ⟨hm, hW, hnet, hg, hk3, hL, hlv⟩ := O
  unfold wpY_least
  dsimp only
  refine gy_btw (S := fun _ => false) hm hW hnet hg (fun j hj => ⟨fun q => absurd q Bool.false_ne_true, fun q => ?_⟩) (fun z A hz => br_c (fun q => ⟨net + 1, ?_⟩) (fun q => h1 (Classical.byContradiction (fun n => q ((gw_tv_0 hz).mpr n))) A))
  · have n1 := gw_m1 (show j < 2 ^ 31 by omega)
    rcases q with q | q | q <;> exact absurd q n1
  · have hbf : gw_bt K X Y Z net (fun _ => false) = false := by
      cases hb : gw_bt K X Y Z net (fun _ => false) with
      | false => rfl
      | true => exact absurd hb ((gw_tv_0 hz).mp q)
    exact gy_l19_l O' (h2 hbf) net 0 (net + 1) 99 A (by omega) (by omega) (gw_IB_0 (fun a b c _ => Nat.not_lt_zero _))
theorem gy_lv_l {post : Int32 → SY → Prop} {net k : Nat} (hm : m ≤ 32) (hW : gw_W K X Y Z F m) (hnet : net < m) (hk : k ≤ 3) (h : ∀ A B lev, gw_LV K X Y Z k lev (net + 1) → post (gw_en (lev net)) (nI m, nI s, nI r, K, X, Y, Z, F, H, yA, yO, yS, yR, B, yN, yD, yT, A, yF, yW, yP)) : ∀ d n g A B lev, n + d = net + 1 → d < g → (∀ j, j < n → B j = nI (lev j)) → gw_LV K X Y Z k lev n → wY_level_21 post (nI net) (nI k) g (nI n) (nI m) (nI s) (nI r) K X Y Z F H yA yO yS yR B yN yD yT A yF yW yP := by
  intro d
  induction d with
  | zero =>
    intro n g A B lev h1 h2 hB hl
    obtain ⟨g, rfl⟩ := gw_fz h2
    have cn : (nI net).toNatClampNeg = net := nI_clamp (by omega)
    have vn : vp_in (nI net) 32 := vp_in_nI (by omega) (by omega)
    rw [show n = net + 1 by omega] at hl
    have hb := gw_LV_b (fun j hj => gw_gate0 hW j (by omega)) hl net (by omega)
    have g := h A B lev hl
    rw [wY_level_21]
    dsimp only
    rw [cn, hB net (by omega)]
    refine br_t (nI_lt (by omega) (by omega)) ⟨vn, ?_⟩
    by_cases e : lev net = 99
    · have e2 : gw_en (lev net) = -1 := if_pos e
      rw [e2] at g
      exact br_t (by rw [e]; rfl) g
    · have e2 : gw_en (lev net) = nI (lev net) := if_neg e
      rw [e2] at g
      exact br_f (fun q => e ((nI_eq (b := 99) (by omega) (by decide)).mp q)) ⟨vn, g⟩
  | succ d ih =>
    intro n g A B lev h1 h2 hB hl
    obtain ⟨g, rfl⟩ := gw_fz h2
    have cn : (nI n).toNatClampNeg = n := nI_clamp (by omega)
    have vn : vp_in (nI n) 32 := vp_in_nI (by omega) (by omega)
    have hb := gw_LV_b (fun j hj => gw_gate0 hW j (by omega)) hl
    have hk7 := gw_fit_k (hW n (by omega)).1
    have next : ∀ (w : Nat) (A' : Nat → Int32), (((K n = 0 ∨ K n = 1 ∨ K n = 2) → w = 0) ∧ (¬ (K n = 0 ∨ K n = 1 ∨ K n = 2) → (gw_bt K X Y Z n (fun _ => false) = true → w = 1) ∧ (gw_bt K X Y Z n (fun _ => false) = false → ∃ B, gw_IB (gw_bt K X Y Z n) lev k n (fun _ _ _ => True) B ∧ w = if B = 99 then 99 else B + 1))) → wY_level_21 post (nI net) (nI k) g (nI (n + 1)) (nI m) (nI s) (nI r) K X Y Z F H yA yO yS yR (upd B n (nI w)) yN yD yT A' yF yW yP := by
      intro w A' hw
      refine ih (n + 1) g A' _ (fun j => if j = n then w else lev j) (by omega) (by omega) (fun j hj => ?_) (gw_LV_s hl hw.1 hw.2)
      by_cases e : j = n
      · subst e
        rw [pk_us, if_pos rfl]
      · rw [pk_un e, if_neg e]
        exact hB j (by omega)
    rw [wY_level_21]
    dsimp only
    rw [cn]
    refine br_f (nI_nlt (by omega) (by omega)) ⟨vn, br_c (fun q => ?_) (fun q => ⟨vn, nm_r (e' := upd B n (nI 0)) rfl (nm_r (nI_1 n) (next 0 A ⟨fun _ => rfl, fun q2 => absurd ?_ q2⟩))⟩)⟩
    · have ng : ¬ (K n = 0 ∨ K n = 1 ∨ K n = 2) := by
        rintro (z | z | z)
        · rw [z] at q; exact absurd q (by decide)
        · rw [z] at q; exact absurd q (by decide)
        · rw [z] at q; exact absurd q (by decide)
      have hs : gw_sk K n = false := gw_sk_f.mpr (fun z => ng (by
        rcases z with z | z
        · exact Or.inl z
        · exact Or.inr (Or.inl z)))
      refine gy_least (lev := lev) ⟨hm, hW, by omega, hs, hk, hB, fun j hj => by have := hb j hj; omega⟩ (fun hbt A' => ?_) (fun hbt C A' hC => ?_)
      · refine br_f (by decide) (br_f (by decide) ⟨vn, nm_r (e' := upd B n (nI 1)) rfl (nm_r (nI_1 n) (next 1 A' ⟨fun q2 => absurd q2 ng, fun _ => ⟨fun _ => rfl, fun q2 => by rw [hbt] at q2; exact absurd q2.symm Bool.false_ne_true⟩⟩))⟩)
      · have hC2 := gw_IB_lt (n := n) hC (fun j hj => by have := hb j hj; omega)
        have fin : ∀ w : Nat, w = (if C = 99 then 99 else C + 1) → wY_level_21 post (nI net) (nI k) g (nI (n + 1)) (nI m) (nI s) (nI r) K X Y Z F H yA yO yS yR (upd B n (nI w)) yN yD yT A' yF yW yP := fun w hw => next w A' ⟨fun q2 => absurd q2 ng, fun _ => ⟨fun q2 => by rw [hbt] at q2; exact absurd q2 Bool.false_ne_true, fun _ => ⟨C, hC, hw⟩⟩⟩
        by_cases e : C = 99
        · exact br_t (by rw [e]; rfl) ⟨vn, nm_r (e' := upd B n (nI 99)) rfl (nm_r (nI_1 n) (fin 99 (by rw [if_pos e])))⟩
        · exact br_f (fun q2 => e ((nI_eq (b := 99) (by omega) (by decide)).mp q2)) (br_t (nI_pos' (by omega)) ⟨vn, nm_r (e' := upd B n (nI (C + 1))) (by rw [nI_1]) (nm_r (nI_1 n) (fin (C + 1) (by rw [if_neg e])))⟩)
    · have hlt := Int32.not_le.mp q
      have h7 : K n ≤ 7 := hk7.2
      rcases gw_k8 hk7.1 h7 with z | z | z | z | z | z | z | z
      · exact Or.inl z
      · exact Or.inr (Or.inl z)
      · exact Or.inr (Or.inr z)
      · rw [z] at q; exact absurd (by decide) q
      · rw [z] at q; exact absurd (by decide) q
      · rw [z] at q; exact absurd (by decide) q
      · rw [z] at q; exact absurd (by decide) q
      · rw [z] at q; exact absurd (by decide) q
theorem gy_level {post : Int32 → SY → Prop} {net k : Nat} (hm : m ≤ 32) (hW : gw_W K X Y Z F m) (hnet : net < m) (hk1 : 1 ≤ k) (hk : k ≤ 3) (h : ∀ A B lev, gw_LV K X Y Z k lev (net + 1) → post (gw_en (lev net)) (nI m, nI s, nI r, K, X, Y, Z, F, H, yA, yO, yS, yR, B, yN, yD, yT, A, yF, yW, yP)) : wpY_level post (nI m, nI s, nI r, K, X, Y, Z, F, H, yA, yO, yS, yR, yL, yN, yD, yT, yM, yF, yW, yP) (nI net) (nI k) := by
  unfold wpY_level
  dsimp only
  refine gy_net hm hnet (br_f gw_n10 (gy_in (fun _ _ => br_f gw_n10 ⟨net + 2, ?_⟩) (fun q => absurd ⟨nI_le (a := 1) hk1 (by omega), nI_le (b := 3) hk (by decide)⟩ q)))
  exact gy_lv_l hm hW hnet hk h (net + 1) 0 (net + 2) yM yL (fun _ => 0) (by omega) (by omega) (fun j hj => absurd hj (Nat.not_lt_zero _)) (fun j hj => absurd hj (Nat.not_lt_zero _))
end
end
section
/-! the owed row of level -/
theorem i_vc_level {k : Nat} {u : SX} {v : SY} (I : i_Rel k u v) (hk : k + 6 ≤ 3072) (v1 : Int32) (v2 : Int32) : wpX_level (fun r u' => wpY_level (fun r' v' => r' = r ∧ i_Rel (k + 6) u' v') v v1 v2) u v1 v2 := by
  have J : i_Rel (k + 6) u v := I
  obtain ⟨m, K, X, Y, Z, F, H, ⟨hm, hW, h01, h10, h6⟩, ⟨tl, pe, xO, xN, xC, xS, xL, xE, xG, xW, xM, xP, rfl⟩, ⟨yA, yO, yS, yR, yL, yN, yD, yT, yM, yF, yW, yP, rfl, hS, hR⟩⟩ := I
  rcases gw_net (x := v1) (m := m) (by omega) with ⟨n, hn, rfl⟩ | hx
  · by_cases c : 1 ≤ v2 ∧ v2 ≤ 3
    · obtain ⟨c1, c3⟩ := c
      obtain ⟨j, hj, rfl⟩ := nI_of2 (x := v2) (M := 3) (n := 3) (by decide) (Int32.not_lt.mpr (Int32.le_trans (by decide) c1)) c3
      have hj1 : 1 ≤ j := (nI_leI (a := 1) (by decide) (by omega)).mp c1
      refine gx_level hm hW hn hj1 hj (fun A B lev hl => gy_level hm hW hn hj1 hj (fun A' B' lev' hl' => ⟨?_, gw_rel ⟨hm, hW, h01, h10, h6⟩ hS hR⟩))
      rw [gw_LV_u hl' hl n (by omega)]
    · unfold wpX_level wpY_level
      dsimp only
      have yy : ∀ {post : Int32 → Prop}, (post 0) → wpY_in post v2 1 3 := fun hp => gy_in (fun a b => absurd ⟨a, b⟩ c) (fun _ => hp)
      refine gx_net hm hn (br_f gw_n10 (br_c (fun q => ?_) (fun q => br_c (fun q2 => absurd ⟨Int32.not_lt.mp q, q2⟩ c) (fun q2 => ?_))))
      · exact gy_net hm hn (br_f gw_n10 (yy (br_t rfl ⟨rfl, J⟩)))
      · exact gy_net hm hn (br_f gw_n10 (yy (br_t rfl ⟨rfl, J⟩)))
  · unfold wpX_level wpY_level
    dsimp only
    exact gx_nonet hx (br_t rfl (gy_nonet hm hx (br_t rfl ⟨rfl, J⟩)))
end
