/-! packing over places: the s-th source instead of the net -/
theorem gw_cnt_comp {p q Q : Nat → Bool} {m : Nat} (hQ : ∀ n, n < m → p n = true → Q (gw_cnt p n) = q n) (hqp : ∀ n, n < m → q n = true → p n = true) : gw_cnt Q (gw_cnt p m) = gw_cnt q m := by
  induction m with
  | zero => rfl
  | succ m ih =>
    have h0 := ih (fun n hn => hQ n (by omega)) (fun n hn => hqp n (by omega))
    cases hp : p m with
    | true =>
      have e := hQ m (by omega) hp
      rw [gw_cnt_t hp]
      cases hq : q m with
      | true => rw [gw_cnt_t (by rw [e, hq]), gw_cnt_t hq, h0]
      | false => rw [gw_cnt_f (by rw [e, hq]), gw_cnt_f hq, h0]
    | false =>
      rw [gw_cnt_f hp]
      cases hq : q m with
      | true => rw [hqp m (by omega) hq] at hp; exact absurd hp.symm Bool.false_ne_true
      | false => rw [gw_cnt_f hq, h0]
theorem gw_pk_comp {p q Q B b : Nat → Bool} {m : Nat} (hQ : ∀ n, n < m → p n = true → Q (gw_cnt p n) = q n) (hqp : ∀ n, n < m → q n = true → p n = true) (hB : ∀ n, n < m → q n = true → B (gw_cnt p n) = b n) : gw_pk Q B (gw_cnt p m) = gw_pk q b m := by
  induction m with
  | zero => rfl
  | succ m ih =>
    have h0 := ih (fun n hn => hQ n (by omega)) (fun n hn => hqp n (by omega)) (fun n hn => hB n (by omega))
    have h1 := gw_cnt_comp (p := p) (q := q) (Q := Q) (m := m) (fun n hn => hQ n (by omega)) (fun n hn => hqp n (by omega))
    cases hp : p m with
    | true =>
      have e := hQ m (by omega) hp
      rw [gw_cnt_t hp]
      cases hq : q m with
      | true => rw [gw_pk_t (by rw [e, hq]), gw_pk_t hq, h0, h1, hB m (by omega) hq]
      | false => rw [gw_pk_f (by rw [e, hq]), gw_pk_f hq, h0]
    | false =>
      rw [gw_cnt_f hp]
      cases hq : q m with
      | true => rw [hqp m (by omega) hq] at hp; exact absurd hp.symm Bool.false_ne_true
      | false => rw [gw_pk_f hq, h0]
/-! a tick in assignments -/
theorem gw_aft {K X Y Z F : Nat → Int32} {m a : Nat} (hm : m ≤ 32) (hW : gw_W K X Y Z F m) : gw_pk (gw_sk K) (fun n => gw_v K X Y Z m (gw_sa K a) (F n).toNatClampNeg) m = gw_jn K m (gw_of K m a) (gw_stp K X Y Z F m (gw_of K m a) (gw_co K m a)) := by
  apply gw_pk_congr
  intro j hj hs
  show gw_v K X Y Z m (gw_sa K a) (F j).toNatClampNeg = gw_sc K _ _ j
  unfold gw_sc
  rcases gw_sk_or hs with h | h
  · rw [if_pos h, gw_stp_a]
    exact (gw_pk_bit (q := gw_rk K) (b := fun n => gw_v K X Y Z m (gw_sa K a) (F n).toNatClampNeg) h hj).symm
  · rw [if_neg (by rw [gw_ik_rk h]; exact Bool.false_ne_true), (hW j hj).2.2 (gw_ik_t.mp h), nI_clamp (by omega)]
    unfold gw_v
    rw [gw_ev_src hj (by omega) hs]
    exact (gw_pk_bit h hj).symm
/-- the held values with the registers at configuration c -/
def gw_nw (K : Nat → Int32) (m : Nat) (H : Nat → Int32) (c j : Nat) : Int32 := if j < m ∧ gw_rk K j = true then gw_b (c.testBit (gw_cnt (gw_rk K) j)) else H j
def gw_c0 (K : Nat → Int32) (m : Nat) (H : Nat → Int32) : Nat := gw_pk (gw_rk K) (gw_hs H) m
def gw_w0 (K : Nat → Int32) (m : Nat) (H : Nat → Int32) : Nat := gw_pk (gw_ik K) (gw_hs H) m
def gw_a0 (K : Nat → Int32) (m : Nat) (H : Nat → Int32) : Nat := gw_pk (gw_sk K) (gw_hs H) m
theorem gw_hsb (b : Bool) : decide (gw_b b = 1) = b := by cases b <;> decide
theorem gw_nw_r {K H : Nat → Int32} {m c j : Nat} (hj : j < m) (hr : gw_rk K j = true) : gw_nw K m H c j = gw_b (c.testBit (gw_cnt (gw_rk K) j)) := if_pos ⟨hj, hr⟩
theorem gw_nw_o {K H : Nat → Int32} {m c j : Nat} (h : ¬ (j < m ∧ gw_rk K j = true)) : gw_nw K m H c j = H j := if_neg h
theorem gw_nw_01 {K H : Nat → Int32} {m c : Nat} (h : gw_01 H) : gw_01 (gw_nw K m H c) := by
  intro n
  unfold gw_nw
  split
  · cases c.testBit (gw_cnt (gw_rk K) n)
    · exact Or.inl rfl
    · exact Or.inr rfl
  · exact h n
theorem gw_nw_c0 {K H : Nat → Int32} {m : Nat} (h : gw_01 H) : gw_nw K m H (gw_c0 K m H) = H := by
  funext j
  by_cases g : j < m ∧ gw_rk K j = true
  · rw [gw_nw_r g.1 g.2]
    unfold gw_c0
    rw [gw_pk_bit g.2 g.1, ← gw_hs_b h]
  · exact gw_nw_o g
theorem gw_nw_nw {K H : Nat → Int32} {m c d : Nat} : gw_nw K m (gw_nw K m H c) d = gw_nw K m H d := by
  funext j
  by_cases g : j < m ∧ gw_rk K j = true
  · rw [gw_nw_r g.1 g.2, gw_nw_r g.1 g.2]
  · rw [gw_nw_o g, gw_nw_o g, gw_nw_o g]
theorem gw_c0_nw {K H : Nat → Int32} {m c : Nat} (hc : c < 2 ^ gw_cnt (gw_rk K) m) : gw_c0 K m (gw_nw K m H c) = c := by
  refine (gw_pk_of hc (fun j hj hq => ?_)).symm
  unfold gw_hs
  rw [gw_nw_r hj hq, gw_hsb]
theorem gw_w0_nw {K H : Nat → Int32} {m c : Nat} : gw_w0 K m (gw_nw K m H c) = gw_w0 K m H := by
  apply gw_pk_congr
  intro j hj hq
  unfold gw_hs
  rw [gw_nw_o (fun g => by rw [gw_ik_rk hq] at g; exact Bool.false_ne_true g.2)]
theorem gw_hs_sc {K H : Nat → Int32} {m n : Nat} (hn : n < m) (hs : gw_sk K n = true) : gw_hs H n = gw_sc K (gw_w0 K m H) (gw_c0 K m H) n := by
  unfold gw_sc
  rcases gw_sk_or hs with h | h
  · rw [if_pos h]
    exact (gw_pk_bit h hn).symm
  · rw [if_neg (by rw [gw_ik_rk h]; exact Bool.false_ne_true)]
    exact (gw_pk_bit h hn).symm
/-- present values, present tick -/
theorem gw_tk_hs {K X Y Z F H : Nat → Int32} {m : Nat} : gw_tk K X Y Z F m (gw_hs H) = gw_stp K X Y Z F m (gw_w0 K m H) (gw_c0 K m H) :=
  gw_tk_congr (fun _ hj hs => gw_hs_sc hj hs)
theorem gw_sa_a0 {K H : Nat → Int32} {m n : Nat} (hn : n < m) (hs : gw_sk K n = true) : gw_sa K (gw_a0 K m H) n = gw_hs H n := gw_pk_bit hs hn
theorem gw_co_a0 {K H : Nat → Int32} {m : Nat} : gw_co K m (gw_a0 K m H) = gw_c0 K m H := gw_pk_congr (fun _ hj hr => gw_sa_a0 hj (gw_rk_sk hr))
theorem gw_of_a0 {K H : Nat → Int32} {m : Nat} : gw_of K m (gw_a0 K m H) = gw_w0 K m H := gw_pk_congr (fun _ hj hr => gw_sa_a0 hj (gw_ik_sk hr))
theorem gw_a0_lt (K H : Nat → Int32) (m : Nat) : gw_a0 K m H < 2 ^ gw_cnt (gw_sk K) m := gw_pk_lt _ _ _
theorem gw_a0_jn {K H : Nat → Int32} {m : Nat} : gw_a0 K m H = gw_jn K m (gw_w0 K m H) (gw_c0 K m H) := by
  rw [← gw_of_a0, ← gw_co_a0, gw_jn_a (gw_a0_lt K H m)]
/-- what the component writes back: the bits of an assignment at all sources below n -/
def gw_ho (K : Nat → Int32) (n : Nat) (H : Nat → Int32) (a j : Nat) : Int32 := if j < n ∧ gw_sk K j = true then gw_b (gw_sa K a j) else H j
theorem gw_ho_jn {K H : Nat → Int32} {m c : Nat} (h : gw_01 H) : gw_ho K m H (gw_jn K m (gw_w0 K m H) c) = gw_nw K m H c := by
  funext j
  unfold gw_ho
  by_cases g : j < m ∧ gw_sk K j = true
  · rw [if_pos g, gw_sa_j g.1 g.2]
    unfold gw_sc
    rcases gw_sk_or g.2 with hr | hi
    · rw [if_pos hr, gw_nw_r g.1 hr]
    · rw [if_neg (by rw [gw_ik_rk hi]; exact Bool.false_ne_true), gw_nw_o (fun g => by rw [gw_ik_rk hi] at g; exact Bool.false_ne_true g.2)]
      unfold gw_w0
      rw [gw_pk_bit hi g.1, ← gw_hs_b h]
  · rw [if_neg g, gw_nw_o (fun g2 => g ⟨g2.1, gw_rk_sk g2.2⟩)]
theorem gw_ho_0 {K H : Nat → Int32} {a : Nat} : gw_ho K 0 H a = H := by
  funext j
  exact if_neg (fun g => absurd g.1 (Nat.not_lt_zero _))
theorem gw_ho_t {K H : Nat → Int32} {a n : Nat} (hs : gw_sk K n = true) : upd (gw_ho K n H a) n (gw_b (gw_sa K a n)) = gw_ho K (n + 1) H a := by
  funext j
  by_cases e : j = n
  · subst e
    rw [pk_us]
    exact (if_pos ⟨by omega, hs⟩).symm
  · rw [pk_un e]
    unfold gw_ho
    by_cases g : j < n ∧ gw_sk K j = true
    · rw [if_pos g, if_pos ⟨by omega, g.2⟩]
    · rw [if_neg g, if_neg (fun g2 => g ⟨by omega, g2.2⟩)]
theorem gw_ho_f {K H : Nat → Int32} {a n : Nat} (hs : gw_sk K n = false) : gw_ho K n H a = gw_ho K (n + 1) H a := by
  funext j
  unfold gw_ho
  by_cases g : j < n ∧ gw_sk K j = true
  · rw [if_pos g, if_pos ⟨by omega, g.2⟩]
  · rw [if_neg g, if_neg (fun g2 => ?_)]
    by_cases e : j = n
    · subst e; rw [hs] at g2; exact Bool.false_ne_true g2.2
    · exact g ⟨by omega, g2.2⟩
/-- the same iteration from any place of the cycle on -/
theorem gw_rho_u {F : Nat → Nat} {c t0 t1 u n : Nat} (h : gw_Rho F c t0 t1) (hu : t0 ≤ u) (hn : u ≤ n) : gw_it F (u + (n - u) % (t1 - t0)) c = gw_it F n c := by
  have e := gw_rho_m h ((n - u) / (t1 - t0)) (u + (n - u) % (t1 - t0)) (by omega)
  rw [← e]
  have e2 := Nat.mod_add_div (n - u) (t1 - t0)
  rw [Nat.mul_comm] at e2
  rw [show u + (n - u) % (t1 - t0) + (n - u) / (t1 - t0) * (t1 - t0) = n by omega]
/-! a place that a function feels: the two ways of asking -/
theorem gw_felt {T : Nat → Bool} {s p : Nat} (hp : p < s) : (∃ a, a < 2 ^ s ∧ T a ≠ T (a ^^^ 2 ^ p)) ↔ ∃ a, a < 2 ^ s ∧ a.testBit p = false ∧ T (a ||| 2 ^ p) ≠ T a := by
  have h2 : (2 : Nat) ^ p < 2 ^ s := Nat.pow_lt_pow_right (by omega) hp
  have key : ∀ a : Nat, a.testBit p = false → a ^^^ 2 ^ p = a ||| 2 ^ p := fun a ha => by
    apply Nat.eq_of_testBit_eq
    intro i
    rw [Nat.testBit_xor, Nat.testBit_or, Nat.testBit_two_pow]
    by_cases e : p = i
    · subst e; rw [ha]; simp
    · rw [decide_eq_false e]; simp
  constructor
  · rintro ⟨a, ha, h⟩
    cases hb : a.testBit p with
    | false =>
      refine ⟨a, ha, hb, ?_⟩
      rw [← key a hb]
      exact fun e => h e.symm
    | true =>
      have hb2 : (a ^^^ 2 ^ p).testBit p = false := by
        rw [Nat.testBit_xor, Nat.testBit_two_pow_self, hb]; rfl
      refine ⟨a ^^^ 2 ^ p, Nat.xor_lt_two_pow ha h2, hb2, ?_⟩
      rw [← key _ hb2, Nat.xor_assoc, Nat.xor_self, Nat.xor_zero]
      exact h
  · rintro ⟨a, ha, hb, h⟩
    refine ⟨a, ha, ?_⟩
    rw [key a hb]
    exact fun e => h e.symm
/-! the parts of the inputs' mask are the offsets -/
def gw_msk (K : Nat → Int32) (m : Nat) : Nat := gw_pk (gw_sk K) (gw_ik K) m
theorem gw_msk_r {K : Nat → Int32} {m b n : Nat} (hb : b &&& gw_msk K m = b) (hn : n < m) (hr : gw_rk K n = true) : b.testBit (gw_cnt (gw_sk K) n) = false := by
  have hi : gw_ik K n = false := by
    cases h : gw_ik K n with
    | false => rfl
    | true => rw [gw_ik_rk h] at hr; exact absurd hr Bool.false_ne_true
  rw [← hb, Nat.testBit_and]
  unfold gw_msk
  rw [gw_pk_bit (gw_rk_sk hr) hn, hi, Bool.and_false]
theorem gw_msk_lt {K : Nat → Int32} {m b : Nat} (hb : b &&& gw_msk K m = b) : b < 2 ^ gw_cnt (gw_sk K) m := by
  rw [← hb]
  exact Nat.lt_of_le_of_lt Nat.and_le_right (gw_pk_lt _ _ _)
theorem gw_msk_le {K : Nat → Int32} {m b : Nat} (hb : b &&& gw_msk K m = b) : b ≤ gw_msk K m := by
  rw [← hb]
  exact Nat.and_le_right
theorem gw_msk_w {K : Nat → Int32} {m w : Nat} : gw_jn K m w 0 &&& gw_msk K m = gw_jn K m w 0 := by
  refine gw_num_ext (q := gw_sk K) (n := m) (Nat.lt_of_le_of_lt Nat.and_le_left (gw_jn_lt K m w 0)) (gw_jn_lt K m w 0) (fun j hj hs => ?_)
  rw [Nat.testBit_and]
  unfold gw_msk gw_jn
  rw [gw_pk_bit hs hj, gw_pk_bit hs hj]
  unfold gw_sc
  rcases gw_sk_or hs with h | h
  · rw [if_pos h, Nat.zero_testBit, Bool.false_and]
  · rw [h, Bool.and_true]
theorem gw_join {K : Nat → Int32} {m b c a : Nat} (hb : b &&& gw_msk K m = b) (ha : a < 2 ^ gw_cnt (gw_sk K) m) (h : ∀ n, n < m → gw_sk K n = true → a.testBit (gw_cnt (gw_sk K) n) = (b.testBit (gw_cnt (gw_sk K) n) || (gw_rk K n && c.testBit (gw_cnt (gw_rk K) n)))) : a = gw_jn K m (gw_of K m b) c := by
  refine gw_pk_of ha (fun j hj hs => ?_)
  rw [h j hj hs]
  unfold gw_sc
  rcases gw_sk_or hs with g | g
  · rw [if_pos g, gw_msk_r hb hj g, g]; rfl
  · rw [if_neg (by rw [gw_ik_rk g]; exact Bool.false_ne_true), gw_ik_rk g, Bool.false_and, Bool.or_false]
    exact (gw_pk_bit (b := gw_sa K b) g hj).symm
