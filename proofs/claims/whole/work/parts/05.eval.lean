/-! the pure circuit: kinds K, operands X Y Z (as both sides hold them) -/
def gw_sk (K : Nat → Int32) (n : Nat) : Bool := decide (K n = 0 ∨ K n = 1)
def gw_rk (K : Nat → Int32) (n : Nat) : Bool := decide (K n = 1)
def gw_ik (K : Nat → Int32) (n : Nat) : Bool := decide (K n = 0)
/-- what a gate n answers, its operands having the values v -/
def gw_gate (K X Y Z : Nat → Int32) (v : Nat → Bool) (n : Nat) : Bool :=
  if K n = 2 then decide (X n = 1)
  else if K n = 3 then !(v (X n).toNatClampNeg)
  else if K n = 4 then (v (X n).toNatClampNeg && v (Y n).toNatClampNeg)
  else if K n = 5 then (v (X n).toNatClampNeg || v (Y n).toNatClampNeg)
  else if K n = 6 then (v (X n).toNatClampNeg ^^ v (Y n).toNatClampNeg)
  else if v (X n).toNatClampNeg = true then v (Y n).toNatClampNeg else v (Z n).toNatClampNeg
/-- the values of the nets below n: the sources have s; net f is held at o -/
def gw_ev (K X Y Z : Nat → Int32) (s : Nat → Bool) (f : Nat) (o : Bool) : Nat → Nat → Bool
  | 0 => fun _ => false
  | n + 1 => fun j => if j = n then (if n = f then o else if gw_sk K n = true then s n else gw_gate K X Y Z (gw_ev K X Y Z s f o n) n) else gw_ev K X Y Z s f o n j
section
variable {K X Y Z : Nat → Int32} {s s' : Nat → Bool} {f : Nat} {o : Bool}
theorem gw_ev_at {n : Nat} : gw_ev K X Y Z s f o (n + 1) n = (if n = f then o else if gw_sk K n = true then s n else gw_gate K X Y Z (gw_ev K X Y Z s f o n) n) := by
  show (if n = n then _ else _) = _
  rw [if_pos rfl]
theorem gw_ev_ne {n j : Nat} (h : j ≠ n) : gw_ev K X Y Z s f o (n + 1) j = gw_ev K X Y Z s f o n j := by
  show (if j = n then _ else _) = _
  rw [if_neg h]
theorem gw_ev_st {j n m : Nat} (h1 : j < n) (h2 : n ≤ m) : gw_ev K X Y Z s f o m j = gw_ev K X Y Z s f o n j := by
  induction m with
  | zero => exact absurd (Nat.lt_of_lt_of_le h1 h2) (Nat.not_lt_zero _)
  | succ m ih =>
    rcases Nat.lt_or_ge m n with h | h
    · rw [show n = m + 1 by omega]
    · rw [gw_ev_ne (by omega), ih h]
theorem gw_ev_hi {j n : Nat} (h : n ≤ j) : gw_ev K X Y Z s f o n j = false := by
  induction n with
  | zero => rfl
  | succ n ih => rw [gw_ev_ne (by omega), ih (by omega)]
theorem gw_ev_congr {n : Nat} (h : ∀ j, j < n → gw_sk K j = true → s j = s' j) : gw_ev K X Y Z s f o n = gw_ev K X Y Z s' f o n := by
  induction n with
  | zero => rfl
  | succ n ih =>
    have e := ih (fun j hj => h j (by omega))
    funext j
    by_cases hj : j = n
    · subst hj
      rw [gw_ev_at, gw_ev_at, e]
      by_cases hf : j = f
      · rw [if_pos hf, if_pos hf]
      · rw [if_neg hf, if_neg hf]
        by_cases hs : gw_sk K j = true
        · rw [if_pos hs, if_pos hs, h j (by omega) hs]
        · rw [if_neg hs, if_neg hs]
    · rw [gw_ev_ne hj, gw_ev_ne hj, e]
theorem gw_ev_src {j n : Nat} (h : j < n) (hf : j ≠ f) (hs : gw_sk K j = true) : gw_ev K X Y Z s f o n j = s j := by
  rw [gw_ev_st (n := j + 1) (by omega) h, gw_ev_at, if_neg hf, if_pos hs]
end
/-- the source values of assignment a, and of configuration c with inputs w -/
def gw_sa (K : Nat → Int32) (a n : Nat) : Bool := a.testBit (gw_cnt (gw_sk K) n)
def gw_sc (K : Nat → Int32) (w c n : Nat) : Bool := if gw_rk K n = true then c.testBit (gw_cnt (gw_rk K) n) else w.testBit (gw_cnt (gw_ik K) n)
/-- configuration and inputs of assignment a; the assignment of both -/
def gw_co (K : Nat → Int32) (m a : Nat) : Nat := gw_pk (gw_rk K) (gw_sa K a) m
def gw_of (K : Nat → Int32) (m a : Nat) : Nat := gw_pk (gw_ik K) (gw_sa K a) m
def gw_jn (K : Nat → Int32) (m w c : Nat) : Nat := gw_pk (gw_sk K) (gw_sc K w c) m
theorem gw_rk_sk {K : Nat → Int32} {n : Nat} (h : gw_rk K n = true) : gw_sk K n = true := by
  unfold gw_rk at h
  unfold gw_sk
  exact decide_eq_true (Or.inr (of_decide_eq_true h))
theorem gw_ik_sk {K : Nat → Int32} {n : Nat} (h : gw_ik K n = true) : gw_sk K n = true := by
  unfold gw_ik at h
  unfold gw_sk
  exact decide_eq_true (Or.inl (of_decide_eq_true h))
theorem gw_ik_rk {K : Nat → Int32} {n : Nat} (h : gw_ik K n = true) : gw_rk K n = false := by
  unfold gw_ik at h
  unfold gw_rk
  apply decide_eq_false
  rw [of_decide_eq_true h]
  decide
theorem gw_sk_or {K : Nat → Int32} {n : Nat} (h : gw_sk K n = true) : gw_rk K n = true ∨ gw_ik K n = true := by
  unfold gw_sk at h
  unfold gw_rk gw_ik
  rcases of_decide_eq_true h with e | e
  · exact Or.inr (decide_eq_true e)
  · exact Or.inl (decide_eq_true e)
theorem gw_cnt_sri (K : Nat → Int32) (n : Nat) : gw_cnt (gw_sk K) n = gw_cnt (gw_rk K) n + gw_cnt (gw_ik K) n := by
  apply gw_cnt_add
  intro j _
  cases hr : gw_rk K j with
  | true =>
    rw [gw_rk_sk hr]
    cases hi : gw_ik K j with
    | true => rw [gw_ik_rk hi] at hr; exact absurd hr Bool.false_ne_true
    | false => rfl
  | false =>
    cases hi : gw_ik K j with
    | true => rw [gw_ik_sk hi]; rfl
    | false =>
      cases hs : gw_sk K j with
      | true => rcases gw_sk_or hs with e | e <;> simp_all
      | false => rfl
theorem gw_co_lt (K : Nat → Int32) (m a : Nat) : gw_co K m a < 2 ^ gw_cnt (gw_rk K) m := gw_pk_lt _ _ _
theorem gw_of_lt (K : Nat → Int32) (m a : Nat) : gw_of K m a < 2 ^ gw_cnt (gw_ik K) m := gw_pk_lt _ _ _
theorem gw_jn_lt (K : Nat → Int32) (m w c : Nat) : gw_jn K m w c < 2 ^ gw_cnt (gw_sk K) m := gw_pk_lt _ _ _
/-- an assignment's source values are those of its configuration and its inputs -/
theorem gw_sc_a {K : Nat → Int32} {m a n : Nat} (hn : n < m) (hs : gw_sk K n = true) : gw_sc K (gw_of K m a) (gw_co K m a) n = gw_sa K a n := by
  unfold gw_sc
  rcases gw_sk_or hs with h | h
  · rw [if_pos h]; exact gw_pk_bit h hn
  · rw [if_neg (by rw [gw_ik_rk h]; exact Bool.false_ne_true)]; exact gw_pk_bit h hn
theorem gw_sa_j {K : Nat → Int32} {m w c n : Nat} (hn : n < m) (hs : gw_sk K n = true) : gw_sa K (gw_jn K m w c) n = gw_sc K w c n := gw_pk_bit hs hn
theorem gw_co_j {K : Nat → Int32} {m w c : Nat} (hc : c < 2 ^ gw_cnt (gw_rk K) m) : gw_co K m (gw_jn K m w c) = c := by
  refine (gw_pk_of hc (fun j hj hq => ?_)).symm
  rw [gw_sa_j hj (gw_rk_sk hq)]
  unfold gw_sc
  rw [if_pos hq]
theorem gw_of_j {K : Nat → Int32} {m w c : Nat} (hw : w < 2 ^ gw_cnt (gw_ik K) m) : gw_of K m (gw_jn K m w c) = w := by
  refine (gw_pk_of hw (fun j hj hq => ?_)).symm
  rw [gw_sa_j hj (gw_ik_sk hq)]
  unfold gw_sc
  rw [if_neg (by rw [gw_ik_rk hq]; exact Bool.false_ne_true)]
theorem gw_jn_a {K : Nat → Int32} {m a : Nat} (ha : a < 2 ^ gw_cnt (gw_sk K) m) : gw_jn K m (gw_of K m a) (gw_co K m a) = a :=
  (gw_pk_of ha (fun _ hj hq => (gw_sc_a hj hq).symm)).symm
/-- value of net j with source values s, among m nets -/
def gw_v (K X Y Z : Nat → Int32) (m : Nat) (s : Nat → Bool) (j : Nat) : Bool := gw_ev K X Y Z s 32 false m j
/-- a tick: the configuration after, with source values s; what net shows -/
def gw_tk (K X Y Z F : Nat → Int32) (m : Nat) (s : Nat → Bool) : Nat := gw_pk (gw_rk K) (fun n => gw_v K X Y Z m s (F n).toNatClampNeg) m
def gw_stp (K X Y Z F : Nat → Int32) (m w c : Nat) : Nat := gw_tk K X Y Z F m (gw_sc K w c)
def gw_sh (K X Y Z : Nat → Int32) (m net w c : Nat) : Bool := gw_v K X Y Z m (gw_sc K w c) net
theorem gw_stp_lt (K X Y Z F : Nat → Int32) (m w c : Nat) : gw_stp K X Y Z F m w c < 2 ^ gw_cnt (gw_rk K) m := gw_pk_lt _ _ _
theorem gw_v_congr {K X Y Z : Nat → Int32} {m : Nat} {s s' : Nat → Bool} (h : ∀ j, j < m → gw_sk K j = true → s j = s' j) : gw_v K X Y Z m s = gw_v K X Y Z m s' := by
  funext j
  unfold gw_v
  rw [gw_ev_congr h]
theorem gw_tk_congr {K X Y Z F : Nat → Int32} {m : Nat} {s s' : Nat → Bool} (h : ∀ j, j < m → gw_sk K j = true → s j = s' j) : gw_tk K X Y Z F m s = gw_tk K X Y Z F m s' := by
  unfold gw_tk
  rw [gw_v_congr h]
theorem gw_stp_a {K X Y Z F : Nat → Int32} {m a : Nat} : gw_stp K X Y Z F m (gw_of K m a) (gw_co K m a) = gw_tk K X Y Z F m (gw_sa K a) :=
  gw_tk_congr (fun _ hj hs => gw_sc_a hj hs)
theorem gw_sh_a {K X Y Z : Nat → Int32} {m net a : Nat} : gw_sh K X Y Z m net (gw_of K m a) (gw_co K m a) = gw_v K X Y Z m (gw_sa K a) net := by
  unfold gw_sh
  rw [gw_v_congr (fun _ hj hs => gw_sc_a hj hs)]
