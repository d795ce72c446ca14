/-! prime cubes in the component -/
theorem gw_t6 {k : Nat} (h : k ≤ 6) : 3 ^ k ≤ 729 := Nat.le_trans (Nat.pow_le_pow_right (by omega) h) (by decide)
theorem gw_bn (b : Bool) : gw_b b = nI b.toNat := by cases b <;> rfl
theorem gw_digit {c k : Nat} (hc : c < 2 ^ 31) (hk : k ≤ 6) : (nI c / nI (3 ^ k)) - (nI c / nI (3 ^ k)) / 3 * 3 = nI (gw_dg c k) := by
  have h1 := gw_t6 hk
  have h2 : c / 3 ^ k ≤ c := Nat.div_le_self _ _
  rw [pk_div hc (gw_p3 k) (by omega)]
  exact pk_rem (d := 3) (by omega) (by omega) (by omega)
/-- the table over the needed places -/
def gw_tb (f : Nat → Bool) (dep : Nat → Nat) (n : Nat) (a : Nat) : Bool := f (gw_nm dep (fun k => a.testBit k) n)
theorem gw_dg01 {c k : Nat} (h : gw_dg c k ≠ 2) : nI (gw_dg c k) = gw_b (decide (gw_dg c k = 1)) := by
  have h1 := gw_dg_lt c k
  rcases (show gw_dg c k = 0 ∨ gw_dg c k = 1 by omega) with e | e <;> rw [e] <;> rfl
section
variable {m s r : Nat} {tl pe : Int32} {K X Y Z F H xO xN xC xS xL xE xG xW xM xP : Nat → Int32}
theorem gx_cov_l {post : Int32 → Prop} {n c : Nat} {f : Nat → Bool} {dep : Nat → Nat} (h10 : s ≤ 10) (hn : n ≤ 6) (hc : c < 3 ^ n) (hd : ∀ k, k < n → dep k < s ∧ xN k = nI (dep k)) (hO : ∀ a, a < 2 ^ s → xO a = gw_b (f a)) (hC : ∀ x, x < c → gw_tv (gw_hd n (gw_tb f dep n) x) (xC x)) (h : ∀ z, gw_tv (gw_hd n (gw_tb f dep n) c) z → post z) : ∀ d i g, i + d = n → d < g → (∀ k, k < i → gw_dg c k ≠ 2) → wX_isCovered_8 post (nI c) (nI n) (nI m) (nI s) (nI r) tl pe K X Y Z F H xO xN xC xS xL xE xG xW xM xP g (nI (gw_nm dep (fun k => decide (gw_dg c k = 1)) i)) (nI (3 ^ i)) (nI i) := by
  have hc2 := gw_t6 hn
  have hN2 := gw_p10 h10
  intro d
  induction d with
  | zero =>
    intro i g h1 h2 h3
    obtain ⟨g, rfl⟩ := gw_fz h2
    have e : i = n := by omega
    subst e
    have hlt : gw_nm dep (fun k => decide (gw_dg c k = 1)) i < 2 ^ s := gw_nm_lt (fun k hk => (hd k hk).1)
    have ca : (nI (gw_nm dep (fun k => decide (gw_dg c k = 1)) i)).toNatClampNeg = gw_nm dep (fun k => decide (gw_dg c k = 1)) i := nI_clamp (by omega)
    rw [wX_isCovered_8]
    refine br_t (nI_le (by omega) (by omega)) ?_
    rw [ca, hO _ hlt]
    exact ⟨vp_in_nI (by omega) (by omega), gw_nbb _, h _ (gw_tv_iff (gw_tv_b _) (gw_hd_full (fun a _ => rfl) h3).symm)⟩
  | succ d ih =>
    intro i g h1 h2 h3
    obtain ⟨g, rfl⟩ := gw_fz h2
    have hw := gw_t6 (show i ≤ 6 by omega)
    have hw0 := gw_p3 i
    obtain ⟨hdl, hde⟩ := hd i (by omega)
    have ci : (nI i).toNatClampNeg = i := nI_clamp (by omega)
    rw [wX_isCovered_8]
    refine br_f (nI_ge (by omega) (by omega)) ⟨nI_ne0 hw0 (by omega), by decide, nm_r (gw_digit (by omega) (by omega)) ?_⟩
    by_cases d2 : gw_dg c i = 2
    · obtain ⟨p0, _, _⟩ := gw_dg_sub (c := c) (k := i) (e := 1) (by omega)
      obtain ⟨q0, _, _⟩ := gw_dg_sub (c := c) (k := i) (e := 2) (by omega)
      have sp := gw_hd_split (T := gw_tb f dep n) (show i < n by omega) d2
      have e1 : nI c - nI (3 ^ i) = nI (c - 3 ^ i) := pk_sub (by omega)
      have e2 : (2 : Int32) * nI (3 ^ i) = nI (2 * 3 ^ i) := pk_mul 2 _
      have e3 : nI c - nI (2 * 3 ^ i) = nI (c - 2 * 3 ^ i) := pk_sub (by omega)
      have c1 : (nI (c - 3 ^ i)).toNatClampNeg = c - 3 ^ i := nI_clamp (by omega)
      have c2 : (nI (c - 2 * 3 ^ i)).toNatClampNeg = c - 2 * 3 ^ i := nI_clamp (by omega)
      have t1 := hC (c - 3 ^ i) (by omega)
      have t2 := hC (c - 2 * 3 ^ i) (by omega)
      rw [e1, e2, e3, c1, c2]
      refine br_t (by rw [d2]; rfl) ⟨vp_in_nI (by omega) (by omega), br_c (fun q => h 0 (gw_tv_f (fun g => (gw_tv_0 t1).mp q (sp.mp g).1))) (fun q => ⟨vp_in_nI (by omega) (by omega), br_c (fun q2 => h 0 (gw_tv_f (fun g => (gw_tv_0 t2).mp q2 (sp.mp g).2))) (fun q2 => h 1 (gw_tv_t (sp.mpr ⟨?_, ?_⟩)))⟩)⟩
      · exact Classical.byContradiction (fun g => q ((gw_tv_0 t1).mpr g))
      · exact Classical.byContradiction (fun g => q2 ((gw_tv_0 t2).mpr g))
    · have hl3 := gw_dg_lt c i
      refine br_f (fun q => d2 ((nI_eq (b := 2) (by omega) (by decide)).mp q)) ⟨vp_in_nI (by omega) (by omega), ?_⟩
      rw [ci, hde, gw_dg01 d2]
      refine nm_r (gw_or _ _ (by omega)) (nm_r (e' := nI (3 ^ (i + 1))) (by rw [Nat.pow_succ]; exact pk_mul _ 3) (nm_r (nI_1 i) (ih (i + 1) g (by omega) (by omega) (lt_s h3 d2))))
theorem gx_cov {post : Int32 → Prop} {n c : Nat} {f : Nat → Bool} {dep : Nat → Nat} (h10 : s ≤ 10) (hn : n ≤ 6) (hc : c < 3 ^ n) (hd : ∀ k, k < n → dep k < s ∧ xN k = nI (dep k)) (hO : ∀ a, a < 2 ^ s → xO a = gw_b (f a)) (hC : ∀ x, x < c → gw_tv (gw_hd n (gw_tb f dep n) x) (xC x)) (h : ∀ z, gw_tv (gw_hd n (gw_tb f dep n) c) z → post z) : wpX_isCovered post (nI m, nI s, nI r, tl, pe, K, X, Y, Z, F, H, xO, xN, xC, xS, xL, xE, xG, xW, xM, xP) (nI c) (nI n) :=
  ⟨n + 1, gx_cov_l h10 hn hc hd hO hC h n 0 (n + 1) (by omega) (by omega) (fun k hk => absurd hk (Nat.not_lt_zero _))⟩
theorem gx_wide_l {post : Int32 → Prop} {n c : Nat} {T : Nat → Bool} (hn : n ≤ 6) (hc : c < 3 ^ n) (hC : ∀ x, x < 3 ^ n → gw_tv (gw_hd n T x) (xC x)) (h : ∀ z, gw_tv (∃ k, k < n ∧ gw_dg c k ≠ 2 ∧ gw_hd n T (c + (2 - gw_dg c k) * 3 ^ k)) z → post z) : ∀ d i g, i + d = n → d < g → (∀ k, k < i → gw_dg c k ≠ 2 → ¬ gw_hd n T (c + (2 - gw_dg c k) * 3 ^ k)) → wX_hasWiderCube_5 post (nI c) (nI n) (nI m) (nI s) (nI r) tl pe K X Y Z F H xO xN xC xS xL xE xG xW xM xP g (nI (3 ^ i)) (nI i) := by
  have hc2 := gw_t6 hn
  intro d
  induction d with
  | zero =>
    intro i g h1 h2 h3
    obtain ⟨g, rfl⟩ := gw_fz h2
    rw [wX_hasWiderCube_5]
    refine br_t (nI_le (by omega) (by omega)) (h 0 (gw_tv_f ?_))
    rintro ⟨k, h4, h5, h6⟩
    exact h3 k (by omega) h5 h6
  | succ d ih =>
    intro i g h1 h2 h3
    obtain ⟨g, rfl⟩ := gw_fz h2
    have hw := gw_t6 (show i ≤ 6 by omega)
    have hw0 := gw_p3 i
    have hl3 := gw_dg_lt c i
    have next : (gw_dg c i ≠ 2 → ¬ gw_hd n T (c + (2 - gw_dg c i) * 3 ^ i)) → ∀ x3_6 : Int32, x3_6 = nI (3 ^ i) * 3 → ∀ x4_7 : Int32, x4_7 = nI i + 1 → wX_hasWiderCube_5 post (nI c) (nI n) (nI m) (nI s) (nI r) tl pe K X Y Z F H xO xN xC xS xL xE xG xW xM xP g x3_6 x4_7 := fun hh =>
      nm_r (e' := nI (3 ^ (i + 1))) (by rw [Nat.pow_succ]; exact pk_mul _ 3) (nm_r (nI_1 i) (ih (i + 1) g (by omega) (by omega) (lt_s h3 hh)))
    rw [wX_hasWiderCube_5]
    refine br_f (nI_ge (by omega) (by omega)) ⟨nI_ne0 hw0 (by omega), by decide, nm_r (gw_digit (by omega) (by omega)) ?_⟩
    by_cases d2 : gw_dg c i = 2
    · exact br_t (by rw [d2]; rfl) (next (fun q => absurd d2 q))
    · have e1 : (2 : Int32) - nI (gw_dg c i) = nI (2 - gw_dg c i) := pk_sub (a := 2) (by omega)
      have hlt : c + (2 - gw_dg c i) * 3 ^ i < 3 ^ n := gw_dg_top (by omega) hc (by omega)
      have cc : (nI (c + (2 - gw_dg c i) * 3 ^ i)).toNatClampNeg = c + (2 - gw_dg c i) * 3 ^ i := nI_clamp (by omega)
      have tv := hC _ hlt
      rw [e1, pk_mul, nI_add, cc]
      exact br_f (fun q => d2 ((nI_eq (b := 2) (by omega) (by decide)).mp q)) ⟨vp_in_nI (by omega) (by omega), br_c (fun q => next (fun _ => (gw_tv_0 tv).mp q)) (fun q => h 1 (gw_tv_t ⟨i, by omega, d2, Classical.byContradiction (fun g => q ((gw_tv_0 tv).mpr g))⟩))⟩
theorem gx_wide {post : Int32 → Prop} {n c : Nat} {T : Nat → Bool} (hn : n ≤ 6) (hc : c < 3 ^ n) (hC : ∀ x, x < 3 ^ n → gw_tv (gw_hd n T x) (xC x)) (h : ∀ z, gw_tv (∃ k, k < n ∧ gw_dg c k ≠ 2 ∧ gw_hd n T (c + (2 - gw_dg c k) * 3 ^ k)) z → post z) : wpX_hasWiderCube post (nI m, nI s, nI r, tl, pe, K, X, Y, Z, F, H, xO, xN, xC, xS, xL, xE, xG, xW, xM, xP) (nI c) (nI n) :=
  ⟨n + 1, gx_wide_l hn hc hC h n 0 (n + 1) (by omega) (by omega) (fun k hk => absurd hk (Nat.not_lt_zero _))⟩
theorem gx_cp35_l {post : Int32 → SX → Prop} {n N : Nat} {T : Nat → Bool} (hn : n ≤ 6) (hN : N = 3 ^ n) (hC : ∀ x, x < 3 ^ n → gw_tv (gw_hd n T x) (xC x)) (h : post (nI (gw_cnt (gw_dc (gw_pr n T)) N)) (nI m, nI s, nI r, tl, pe, K, X, Y, Z, F, H, xO, xN, xC, xS, xL, xE, xG, xW, xM, xP)) : ∀ d c g, c + d = N → d < g → wX_countPrimes_35 post (nI n) (nI N) (nI m) (nI s) (nI r) tl pe K X Y Z F H xO xN xC xS xL xE xG xW xM xP g (nI (gw_cnt (gw_dc (gw_pr n T)) c)) (nI c) := by
  have hc2 := gw_t6 hn
  intro d
  induction d with
  | zero =>
    intro c g h1 h2
    obtain ⟨g, rfl⟩ := gw_fz h2
    have e : c = N := by omega
    rw [wX_countPrimes_35]
    refine br_t (nI_le (by omega) (by omega)) ?_
    rw [e]
    exact h
  | succ d ih =>
    intro c g h1 h2
    obtain ⟨g, rfl⟩ := gw_fz h2
    have cc : (nI c).toNatClampNeg = c := nI_clamp (by omega)
    have tv := hC c (by omega)
    have ihn := ih (c + 1) g (by omega) (by omega)
    have no : ¬ gw_pr n T c → wX_countPrimes_35 post (nI n) (nI N) (nI m) (nI s) (nI r) tl pe K X Y Z F H xO xN xC xS xL xE xG xW xM xP g (nI (gw_cnt (gw_dc (gw_pr n T)) c)) (nI (c + 1)) := fun q => by
      rw [gw_dc_sf q] at ihn
      exact ihn
    rw [wX_countPrimes_35]
    refine br_f (nI_ge (by omega) (by omega)) ⟨vp_in_nI (by omega) (by omega), ?_⟩
    rw [cc]
    refine br_c (fun q => nm_r (nI_1 c) (no (fun p => (gw_tv_0 tv).mp q p.1))) (fun q => gx_wide hn (by omega) hC (fun z hz => br_c (fun q2 => nm_r (nI_1 _) (nm_r (nI_1 c) ?_)) (fun q2 => nm_r (nI_1 c) (no (fun p => ?_)))))
    · have hp : gw_pr n T c := ⟨Classical.byContradiction (fun g => q ((gw_tv_0 tv).mpr g)), fun k hk hk2 hh => (gw_tv_0 hz).mp q2 ⟨k, hk, hk2, hh⟩⟩
      rw [gw_dc_st hp] at ihn
      exact ihn
    · refine q2 ((gw_tv_0 hz).mpr ?_)
      rintro ⟨k, hk, hk2, hh⟩
      exact p.2 k hk hk2 hh
theorem gx_cp7_l {post : Int32 → SX → Prop} {n N : Nat} {f : Nat → Bool} {dep : Nat → Nat} (h10 : s ≤ 10) (hn : n ≤ 6) (hN : N = 3 ^ n) (hd : ∀ k, k < n → dep k < s ∧ xN k = nI (dep k)) (hO : ∀ a, a < 2 ^ s → xO a = gw_b (f a)) (h : ∀ C, post (nI (gw_cnt (gw_dc (gw_pr n (gw_tb f dep n))) N)) (nI m, nI s, nI r, tl, pe, K, X, Y, Z, F, H, xO, xN, C, xS, xL, xE, xG, xW, xM, xP)) : ∀ d c g C, c + d = N → d < g → (∀ x, x < c → gw_tv (gw_hd n (gw_tb f dep n) x) (C x)) → wX_countPrimes_7 post (nI n) (nI N) (nI m) (nI s) (nI r) tl pe g (nI c) K X Y Z F H xO xN C xS xL xE xG xW xM xP := by
  have hc2 := gw_t6 hn
  intro d
  induction d with
  | zero =>
    intro c g C h1 h2 hC
    obtain ⟨g, rfl⟩ := gw_fz h2
    have e : c = N := by omega
    rw [wX_countPrimes_7]
    exact br_t (nI_le (by omega) (by omega)) ⟨N + 1, gx_cp35_l hn hN (fun x hx => hC x (by omega)) (h C) N 0 (N + 1) (by omega) (by omega)⟩
  | succ d ih =>
    intro c g C h1 h2 hC
    obtain ⟨g, rfl⟩ := gw_fz h2
    have cc : (nI c).toNatClampNeg = c := nI_clamp (by omega)
    rw [wX_countPrimes_7]
    refine br_f (nI_ge (by omega) (by omega)) (gx_cov h10 hn (by omega) hd hO hC (fun z hz => ⟨vp_in_nI (by omega) (by omega), nm_r (e' := upd C c z) (by rw [cc, gw_nar (gw_tv_01 hz)]) (nm_r (nI_1 c) (ih (c + 1) g _ (by omega) (by omega) (fun x hx => ?_)))⟩))
    by_cases e : x = c
    · subst e; rw [pk_us]; exact hz
    · rw [pk_un e]; exact hC x (by omega)
theorem gx_p3_l {post : Int32 → Prop} {n : Nat} (hn : n ≤ 6) (h : post (nI (3 ^ n))) : ∀ d i g, i + d = n → d < g → wX_powerOfThree_4 post (nI n) g (nI (3 ^ i)) (nI i) := by
  intro d
  induction d with
  | zero =>
    intro i g h1 h2
    obtain ⟨g, rfl⟩ := gw_fz h2
    have e : i = n := by omega
    rw [wX_powerOfThree_4]
    refine br_t (nI_le (by omega) (by omega)) ?_
    rw [e]
    exact h
  | succ d ih =>
    intro i g h1 h2
    obtain ⟨g, rfl⟩ := gw_fz h2
    rw [wX_powerOfThree_4]
    exact br_f (nI_ge (by omega) (by omega)) (nm_r (e' := nI (3 ^ (i + 1))) (by rw [Nat.pow_succ]; exact pk_mul _ 3) (nm_r (nI_1 i) (ih (i + 1) g (by omega) (by omega))))
theorem gx_cp {post : Int32 → SX → Prop} {n : Nat} {f : Nat → Bool} {dep : Nat → Nat} (h10 : s ≤ 10) (hn : n ≤ 6) (hd : ∀ k, k < n → dep k < s ∧ xN k = nI (dep k)) (hO : ∀ a, a < 2 ^ s → xO a = gw_b (f a)) (h : ∀ C, post (nI (gw_cnt (gw_dc (gw_pr n (gw_tb f dep n))) (3 ^ n))) (nI m, nI s, nI r, tl, pe, K, X, Y, Z, F, H, xO, xN, C, xS, xL, xE, xG, xW, xM, xP)) : wpX_countPrimes post (nI m, nI s, nI r, tl, pe, K, X, Y, Z, F, H, xO, xN, xC, xS, xL, xE, xG, xW, xM, xP) (nI n) := by
  unfold wpX_countPrimes
  dsimp only
  refine ⟨n + 1, gx_p3_l hn ⟨3 ^ n + 1, ?_⟩ n 0 (n + 1) (by omega) (by omega)⟩
  exact gx_cp7_l h10 hn rfl hd hO h (3 ^ n) 0 (3 ^ n + 1) xC (by omega) (by omega) (fun x hx => absurd hx (Nat.not_lt_zero _))
/-- a place that is felt -/
def gw_ft (f : Nat → Bool) (s p : Nat) : Prop := ∃ a, a < 2 ^ s ∧ f a ≠ f (a ^^^ 2 ^ p)
/-- dep lists the felt places in their order -/
def gw_dp (f : Nat → Bool) (s : Nat) (dep : Nat → Nat) : Prop := ∀ p, p < s → gw_ft f s p → dep (gw_cnt (gw_dc (gw_ft f s)) p) = p
theorem gw_dp_ex (f : Nat → Bool) (s : Nat) : ∃ dep, gw_dp f s dep ∧ ∀ k, k < gw_cnt (gw_dc (gw_ft f s)) s → dep k < s := by
  have ex : ∀ k, k < gw_cnt (gw_dc (gw_ft f s)) s → ∃ p, p < s ∧ gw_dc (gw_ft f s) p = true ∧ gw_cnt (gw_dc (gw_ft f s)) p = k := fun k hk => gw_cnt_sur hk
  refine ⟨fun k => if h : k < gw_cnt (gw_dc (gw_ft f s)) s then (ex k h).choose else 0, fun p hp hf => ?_, fun k hk => ?_⟩
  · have hq := gw_dc_t.mpr hf
    have hlt := gw_cnt_lt hq hp
    show (if h : gw_cnt (gw_dc (gw_ft f s)) p < gw_cnt (gw_dc (gw_ft f s)) s then (ex _ h).choose else 0) = p
    rw [dif_pos hlt]
    have sp := (ex _ hlt).choose_spec
    exact gw_cnt_inj sp.2.1 hq sp.2.2
  · show (if h : k < gw_cnt (gw_dc (gw_ft f s)) s then (ex _ h).choose else 0) < s
    rw [dif_pos hk]
    exact (ex _ hk).choose_spec.1
theorem gw_dp_at {f : Nat → Bool} {A : Nat → Int32} {dep : Nat → Nat} (hd : gw_dp f s dep) (hE : gw_En (gw_dc (gw_ft f s)) A s) {k : Nat} (hk : k < gw_cnt (gw_dc (gw_ft f s)) s) : dep k < s ∧ A k = nI (dep k) := by
  obtain ⟨p, h1, h2, h3, h4⟩ := gw_En_at hE hk
  have := hd p h1 (gw_dc_t.mp h2)
  rw [h3] at this
  rw [this]
  exact ⟨h1, h4⟩
theorem gx_pr_l {post : Int32 → SX → Prop} {f : Nat → Bool} {dep : Nat → Nat} (h10 : s ≤ 10) (hO : ∀ a, a < 2 ^ s → xO a = gw_b (f a)) (hd : gw_dp f s dep) (c0 : ∀ A, 6 < gw_cnt (gw_dc (gw_ft f s)) s → post (-2) (nI m, nI s, nI r, tl, pe, K, X, Y, Z, F, H, xO, A, xC, xS, xL, xE, xG, xW, xM, xP)) (c1 : ∀ A C, gw_cnt (gw_dc (gw_ft f s)) s ≤ 6 → post (nI (gw_cnt (gw_dc (gw_pr (gw_cnt (gw_dc (gw_ft f s)) s) (gw_tb f dep (gw_cnt (gw_dc (gw_ft f s)) s)))) (3 ^ gw_cnt (gw_dc (gw_ft f s)) s))) (nI m, nI s, nI r, tl, pe, K, X, Y, Z, F, H, xO, A, C, xS, xL, xE, xG, xW, xM, xP)) : ∀ d p g A, p + d = s → d < g → gw_cnt (gw_dc (gw_ft f s)) p ≤ 6 → gw_En (gw_dc (gw_ft f s)) A p → wX_primes_19 post (nI m) (nI s) (nI r) tl pe g (nI (gw_cnt (gw_dc (gw_ft f s)) p)) (nI p) K X Y Z F H xO A xC xS xL xE xG xW xM xP := by
  intro d
  induction d with
  | zero =>
    intro p g A h1 h2 h3 hA
    obtain ⟨g, rfl⟩ := gw_fz h2
    have e : p = s := by omega
    rw [wX_primes_19]
    rw [e] at h3 hA ⊢
    exact br_t (nI_le (by omega) (by omega)) (gx_cp h10 h3 (fun k hk => gw_dp_at hd hA hk) hO (fun C => c1 A C h3))
  | succ d ih =>
    intro p g A h1 h2 h3 hA
    obtain ⟨g, rfl⟩ := gw_fz h2
    rw [wX_primes_19]
    refine br_f (nI_ge (by omega) (by omega)) (gx_felt (T := f) h10 (by omega) hO (fun z hz => br_c (fun q => nm_r (nI_1 p) ?_) (fun q => ?_)))
    · have hf : gw_dc (gw_ft f s) p = false := gw_dc_f.mpr ((gw_tv_0 hz).mp q)
      have ihn := ih (p + 1) g A (by omega) (by omega) (by rw [gw_cnt_f hf]; exact h3) (gw_En_f hA hf)
      rw [gw_cnt_f hf] at ihn
      exact ihn
    · have hf : gw_dc (gw_ft f s) p = true := gw_dc_t.mpr (Classical.byContradiction (fun g => q ((gw_tv_0 hz).mpr g)))
      have hlt := gw_cnt_lt hf (show p < s by omega)
      by_cases c6 : gw_cnt (gw_dc (gw_ft f s)) p = 6
      · exact br_t (by rw [c6]; rfl) (c0 A (by omega))
      · have cc : (nI (gw_cnt (gw_dc (gw_ft f s)) p)).toNatClampNeg = gw_cnt (gw_dc (gw_ft f s)) p := nI_clamp (by omega)
        have ihn := ih (p + 1) g (upd A (gw_cnt (gw_dc (gw_ft f s)) p) (nI p)) (by omega) (by omega) (by rw [gw_cnt_t hf]; omega) (gw_En_t hA hf)
        rw [gw_cnt_t hf] at ihn
        rw [cc]
        exact br_f (fun q => c6 ((nI_eq (b := 6) (by omega) (by decide)).mp q)) ⟨vp_in_nI (by omega) (by omega), nm_e (nm_r (nI_1 _) (nm_r (nI_1 p) ihn))⟩
theorem gx_primes {post : Int32 → SX → Prop} {net : Nat} {dep : Nat → Nat} (hm : m ≤ 32) (hW : gw_W K X Y Z F m) (hn : net < m) (h10 : s ≤ 10) (hd : gw_dp (gw_T K X Y Z m net) s dep) (c0 : ∀ O A, 6 < gw_cnt (gw_dc (gw_ft (gw_T K X Y Z m net) s)) s → post (-2) (nI m, nI s, nI r, tl, pe, K, X, Y, Z, F, H, O, A, xC, xS, xL, xE, xG, xW, xM, xP)) (c1 : ∀ O A C, gw_cnt (gw_dc (gw_ft (gw_T K X Y Z m net) s)) s ≤ 6 → post (nI (gw_cnt (gw_dc (gw_pr (gw_cnt (gw_dc (gw_ft (gw_T K X Y Z m net) s)) s) (gw_tb (gw_T K X Y Z m net) dep (gw_cnt (gw_dc (gw_ft (gw_T K X Y Z m net) s)) s)))) (3 ^ gw_cnt (gw_dc (gw_ft (gw_T K X Y Z m net) s)) s))) (nI m, nI s, nI r, tl, pe, K, X, Y, Z, F, H, O, A, C, xS, xL, xE, xG, xW, xM, xP)) : wpX_primes post (nI m, nI s, nI r, tl, pe, K, X, Y, Z, F, H, xO, xN, xC, xS, xL, xE, xG, xW, xM, xP) (nI net) := by
  unfold wpX_primes
  dsimp only
  refine gx_net hm hn (br_f gw_n10 (gx_tab hm hW hn h10 (fun O hO => ⟨s + 1, ?_⟩)))
  exact gx_pr_l h10 hO hd (c0 O) (c1 O) s 0 (s + 1) xN (by omega) (by omega) (Nat.zero_le _) (fun p hp => absurd hp (Nat.not_lt_zero _))
end
