/-! what a net may be: its operands below L -/
def gw_bl (x : Int32) (L : Nat) : Prop := ∃ j, j < L ∧ x = nI j
def gw_fit (k x y z : Int32) (L : Nat) : Prop :=
  k = 0 ∨ k = 1 ∨ (k = 2 ∧ (x = 0 ∨ x = 1)) ∨ (k = 3 ∧ gw_bl x L) ∨ ((k = 4 ∨ k = 5 ∨ k = 6) ∧ gw_bl x L ∧ gw_bl y L) ∨ (k = 7 ∧ gw_bl x L ∧ gw_bl y L ∧ gw_bl z L)
def gw_W (K X Y Z F : Nat → Int32) (m : Nat) : Prop :=
  ∀ n, n < m → gw_fit (K n) (X n) (Y n) (Z n) n ∧ (K n = 1 → gw_bl (F n) m) ∧ (K n = 0 → F n = nI n)
def gw_01 (H : Nat → Int32) : Prop := ∀ n, H n = 0 ∨ H n = 1
/-- A lists, in order, the nets below m that have q -/
def gw_En (q : Nat → Bool) (A : Nat → Int32) (m : Nat) : Prop := ∀ n, n < m → q n = true → A (gw_cnt q n) = nI n
theorem gw_bl_mono {x : Int32} {L M : Nat} (h : L ≤ M) (g : gw_bl x L) : gw_bl x M := by
  obtain ⟨j, h1, h2⟩ := g
  exact ⟨j, by omega, h2⟩
theorem gw_bl_iff {x : Int32} {L : Nat} (hL : L < 2 ^ 31) : gw_bl x L ↔ 0 ≤ x ∧ x < nI L := by
  constructor
  · rintro ⟨j, h1, rfl⟩
    exact ⟨nI_pos' (by omega), nI_lt h1 hL⟩
  · rintro ⟨h1, h2⟩
    obtain ⟨j, h3, rfl⟩ := nI_of (x := x) (Int32.not_lt.mpr h1)
    exact ⟨j, (nI_ltI h3 hL).mp h2, rfl⟩
theorem gw_bl_le {x : Int32} {L : Nat} (hL : L < 2 ^ 31) : gw_bl x L ↔ 0 ≤ x ∧ x ≤ nI L - 1 := by
  rw [gw_bl_iff hL]
  cases L with
  | zero =>
    rw [nI_0]
    constructor
    · rintro ⟨h1, h2⟩
      exact absurd h1 (Int32.not_le.mpr h2)
    · rintro ⟨h1, h2⟩
      exact absurd (Int32.le_trans h1 h2) (by decide)
  | succ L =>
    rw [nI_pred]
    constructor
    · rintro ⟨h1, h2⟩
      obtain ⟨j, h3, rfl⟩ := nI_of (x := x) (Int32.not_lt.mpr h1)
      exact ⟨h1, nI_le (by have := (nI_ltI h3 hL).mp h2; omega) (by omega)⟩
    · rintro ⟨h1, h2⟩
      obtain ⟨j, h3, rfl⟩ := nI_of (x := x) (Int32.not_lt.mpr h1)
      exact ⟨h1, nI_lt (by have := (nI_leI h3 (by omega)).mp h2; omega) hL⟩
theorem gw_W_add {K X Y Z F : Nat → Int32} {m : Nat} {k x y z : Int32} (h : gw_W K X Y Z F m) (hf : gw_fit k x y z m) : gw_W (upd K m k) (upd X m x) (upd Y m y) (upd Z m z) (upd F m (nI m)) (m + 1) := by
  intro n hn
  by_cases e : n = m
  · subst e
    rw [pk_us, pk_us, pk_us, pk_us, pk_us]
    exact ⟨hf, fun _ => ⟨n, by omega, rfl⟩, fun _ => rfl⟩
  · obtain ⟨h1, h2, h3⟩ := h n (by omega)
    rw [pk_un e, pk_un e, pk_un e, pk_un e, pk_un e]
    exact ⟨h1, fun g => gw_bl_mono (by omega) (h2 g), h3⟩
theorem gw_W_ch {K X Y Z F : Nat → Int32} {m i : Nat} {k x y z : Int32} (h : gw_W K X Y Z F m) (hf : gw_fit k x y z i) (h0 : k ≠ 0) (h1 : k ≠ 1) : gw_W (upd K i k) (upd X i x) (upd Y i y) (upd Z i z) F m := by
  intro n hn
  by_cases e : n = i
  · subst e
    rw [pk_us, pk_us, pk_us, pk_us]
    exact ⟨hf, fun g => absurd g h1, fun g => absurd g h0⟩
  · rw [pk_un e, pk_un e, pk_un e, pk_un e]
    exact h n hn
theorem gw_W_nx {K X Y Z F : Nat → Int32} {m i j : Nat} (h : gw_W K X Y Z F m) (hk : K i = 1) (hj : j < m) : gw_W K X Y Z (upd F i (nI j)) m := by
  intro n hn
  obtain ⟨h1, h2, h3⟩ := h n hn
  by_cases e : n = i
  · subst e
    rw [pk_us]
    exact ⟨h1, fun _ => ⟨j, hj, rfl⟩, fun g => absurd (hk.symm.trans g) (by decide)⟩
  · rw [pk_un e]
    exact ⟨h1, h2, h3⟩
theorem gw_W_dr {K X Y Z F : Nat → Int32} {m : Nat} (h : gw_W K X Y Z F (m + 1)) (hd : ∀ n, n < m → K n = 1 → F n ≠ nI m) : gw_W K X Y Z F m := by
  intro n hn
  obtain ⟨h1, h2, h3⟩ := h n (by omega)
  refine ⟨h1, fun g => ?_, h3⟩
  obtain ⟨j, h4, h5⟩ := h2 g
  refine ⟨j, ?_, h5⟩
  apply Nat.lt_of_not_le
  intro g2
  exact hd n hn g (by rw [h5, show j = m by omega])
theorem gw_fit_k {k x y z : Int32} {L : Nat} (h : gw_fit k x y z L) : 0 ≤ k ∧ k ≤ 7 := by
  rcases h with rfl | rfl | ⟨rfl, _⟩ | ⟨rfl, _⟩ | ⟨rfl | rfl | rfl, _⟩ | ⟨rfl, _⟩ <;> decide
theorem gw_01_upd {H : Nat → Int32} {i : Nat} {x : Int32} (h : gw_01 H) (hx : x = 0 ∨ x = 1) : gw_01 (upd H i x) := by
  intro n
  by_cases e : n = i
  · subst e; rw [pk_us]; exact hx
  · rw [pk_un e]; exact h n
/-- the value that H tells of a source -/
def gw_hs (H : Nat → Int32) (n : Nat) : Bool := decide (H n = 1)
theorem gw_hs_b {H : Nat → Int32} (h : gw_01 H) (n : Nat) : H n = gw_b (gw_hs H n) := by
  unfold gw_hs
  rcases h n with e | e <;> rw [e] <;> decide
theorem gw_En_t {q : Nat → Bool} {A : Nat → Int32} {n : Nat} (h : gw_En q A n) (hq : q n = true) : gw_En q (upd A (gw_cnt q n) (nI n)) (n + 1) := by
  intro j hj hqj
  rcases Nat.lt_or_ge j n with g | g
  · have := gw_cnt_lt hqj g
    rw [pk_un (by omega)]
    exact h j g hqj
  · have e : j = n := by omega
    subst e
    exact pk_us
theorem gw_En_f {q : Nat → Bool} {A : Nat → Int32} {n : Nat} (h : gw_En q A n) (hq : q n = false) : gw_En q A (n + 1) := by
  intro j hj hqj
  rcases Nat.lt_or_ge j n with g | g
  · exact h j g hqj
  · have e : j = n := by omega
    subst e
    rw [hq] at hqj
    exact absurd hqj Bool.false_ne_true
theorem gw_En_le {q : Nat → Bool} {A : Nat → Int32} {n m : Nat} (h : gw_En q A m) (hn : n ≤ m) : gw_En q A n := fun j hj hq => h j (by omega) hq
theorem gw_En_at {q : Nat → Bool} {A : Nat → Int32} {m i : Nat} (h : gw_En q A m) (hi : i < gw_cnt q m) : ∃ n, n < m ∧ q n = true ∧ gw_cnt q n = i ∧ A i = nI n := by
  obtain ⟨n, h1, h2, rfl⟩ := gw_cnt_sur hi
  exact ⟨n, h1, h2, rfl, h n h1 h2⟩
theorem gw_sk_upd {K : Nat → Int32} {i : Nat} {k : Int32} {n : Nat} (h : n ≠ i) : gw_sk (upd K i k) n = gw_sk K n := by unfold gw_sk; rw [pk_un h]
theorem gw_rk_upd {K : Nat → Int32} {i : Nat} {k : Int32} {n : Nat} (h : n ≠ i) : gw_rk (upd K i k) n = gw_rk K n := by unfold gw_rk; rw [pk_un h]
theorem gw_csk_add {K : Nat → Int32} {m : Nat} {k : Int32} : gw_cnt (gw_sk (upd K m k)) m = gw_cnt (gw_sk K) m := gw_cnt_congr (fun j hj => gw_sk_upd (by omega))
theorem gw_crk_add {K : Nat → Int32} {m : Nat} {k : Int32} : gw_cnt (gw_rk (upd K m k)) m = gw_cnt (gw_rk K) m := gw_cnt_congr (fun j hj => gw_rk_upd (by omega))
theorem gw_sk_ch {K : Nat → Int32} {i : Nat} {k : Int32} (h0 : k ≠ 0) (h1 : k ≠ 1) (hs : gw_sk K i = false) (n : Nat) : gw_sk (upd K i k) n = gw_sk K n := by
  by_cases e : n = i
  · subst e
    rw [hs]
    unfold gw_sk
    rw [pk_us]
    exact decide_eq_false (fun g => g.elim h0 h1)
  · exact gw_sk_upd e
theorem gw_rk_ch {K : Nat → Int32} {i : Nat} {k : Int32} (h1 : k ≠ 1) (hs : gw_sk K i = false) (n : Nat) : gw_rk (upd K i k) n = gw_rk K n := by
  by_cases e : n = i
  · subst e
    have : gw_rk K n = false := by
      cases hr : gw_rk K n with
      | false => rfl
      | true => rw [gw_rk_sk hr] at hs; exact absurd hs.symm Bool.false_ne_true
    rw [this]
    unfold gw_rk
    rw [pk_us]
    exact decide_eq_false h1
  · exact gw_rk_upd e
theorem gw_sk_t {K : Nat → Int32} {n : Nat} : gw_sk K n = true ↔ K n = 0 ∨ K n = 1 := by unfold gw_sk; exact decide_eq_true_iff
theorem gw_sk_f {K : Nat → Int32} {n : Nat} : gw_sk K n = false ↔ ¬ (K n = 0 ∨ K n = 1) := by unfold gw_sk; exact decide_eq_false_iff_not
theorem gw_rk_t {K : Nat → Int32} {n : Nat} : gw_rk K n = true ↔ K n = 1 := by unfold gw_rk; exact decide_eq_true_iff
theorem gw_rk_f {K : Nat → Int32} {n : Nat} : gw_rk K n = false ↔ ¬ K n = 1 := by unfold gw_rk; exact decide_eq_false_iff_not
theorem gw_ik_t {K : Nat → Int32} {n : Nat} : gw_ik K n = true ↔ K n = 0 := by unfold gw_ik; exact decide_eq_true_iff
theorem gw_ik_f {K : Nat → Int32} {n : Nat} : gw_ik K n = false ↔ ¬ K n = 0 := by unfold gw_ik; exact decide_eq_false_iff_not
/-- the reference asks for kind < 2: with fits that is a source -/
theorem gw_k2 {k : Int32} (h0 : 0 ≤ k) : k < 2 ↔ k = 0 ∨ k = 1 := by
  obtain ⟨j, hj, rfl⟩ := nI_of (x := k) (Int32.not_lt.mpr h0)
  constructor
  · intro h
    have h1 := (nI_ltI (b := 2) hj (by decide)).mp h
    rcases (show j = 0 ∨ j = 1 by omega) with e | e
    · subst e; exact Or.inl rfl
    · subst e; exact Or.inr rfl
  · rintro (h | h) <;> rw [h] <;> decide
theorem gw_W_sk {K X Y Z F : Nat → Int32} {m n : Nat} (h : gw_W K X Y Z F m) (hn : n < m) : K n < 2 ↔ gw_sk K n = true := by
  rw [gw_sk_t]
  exact gw_k2 (gw_fit_k (h n hn).1).1
