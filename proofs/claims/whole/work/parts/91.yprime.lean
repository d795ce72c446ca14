/-! prime cubes in the reference; the owed row -/
theorem gw_dgr {c k : Nat} (hc : c < 2 ^ 31) : nI (c / 3 ^ k) - nI (c / 3 ^ k) / 3 * 3 = nI (gw_dg c k) := by
  have h2 : c / 3 ^ k ≤ c := Nat.div_le_self _ _
  exact pk_rem (d := 3) (by omega) (by omega) (by omega)
theorem gw_dgd {c k : Nat} (hc : c < 2 ^ 31) : (nI (c / 3 ^ k) / 3 : Int32) = nI (c / 3 ^ (k + 1)) := by
  have h2 : c / 3 ^ k ≤ c := Nat.div_le_self _ _
  rw [Nat.pow_succ, ← Nat.div_div_eq_div_mul]
  exact pk_div (d := 3) (by omega) (by omega) (by omega)
section
variable {m s r : Nat} {K X Y Z F H yA yO yS yR yL yN yD yT yM yF yW yP : Nat → Int32}
theorem gy_h18_l {post : Int32 → Prop} {J : Int32 → Prop} {n c a : Nat} {T : Nat → Bool} (hn : n ≤ 6) (hc : c < 3 ^ n) (ha : a < 2 ^ n) (hT : ∀ b, b < 2 ^ n → yT b = gw_b (T b)) (h0 : gw_mt n c a → T a = false → post 0) (h1 : (gw_mt n c a → T a = true) → J (nI (a + 1))) : ∀ d k g z, k + d = n → d < g → gw_tv (∀ j, j < k → gw_dg c j = 2 ∨ gw_dg c j = (a.testBit j).toNat) z → wY_holds_18 post J (nI c) (nI n) (nI a) (nI m) (nI s) (nI r) K X Y Z F H yA yO yS yR yL yN yD yT yM yF yW yP g z (nI (c / 3 ^ k)) (nI k) := by
  have hc2 := gw_t6 hn
  have hn2 := gw_p6 hn
  intro d
  induction d with
  | zero =>
    intro k g z e1 e2 hz
    obtain ⟨g, rfl⟩ := gw_fz e2
    have e : k = n := by omega
    subst e
    have ca : (nI a).toNatClampNeg = a := nI_clamp (by omega)
    rw [wY_holds_18]
    refine br_t (nI_le (by omega) (by omega)) ?_
    rw [ca, hT a ha]
    rcases hz with ⟨p, ez⟩ | ⟨p, ez⟩
    · rw [ez]
      refine br_f gw_n10 ⟨vp_in_nI (by omega) (by omega), ?_⟩
      cases hb : T a with
      | true => exact br_f (by decide) (nm_r (nI_1 a) (h1 (fun _ => hb)))
      | false => exact br_t rfl (h0 p hb)
    · rw [ez]
      exact br_t rfl (nm_r (nI_1 a) (h1 (fun q => absurd q p)))
  | succ d ih =>
    intro k g z e1 e2 hz
    obtain ⟨g, rfl⟩ := gw_fz e2
    have hl3 := gw_dg_lt c k
    have next : ∀ z' : Int32, gw_tv (∀ j, j < k + 1 → gw_dg c j = 2 ∨ gw_dg c j = (a.testBit j).toNat) z' → ∀ x5 : Int32, x5 = nI (c / 3 ^ k) / 3 → ∀ x6 : Int32, x6 = nI k + 1 → wY_holds_18 post J (nI c) (nI n) (nI a) (nI m) (nI s) (nI r) K X Y Z F H yA yO yS yR yL yN yD yT yM yF yW yP g z' x5 x6 := fun z' hz' =>
      nm_r (gw_dgd (by omega)) (nm_r (nI_1 k) (ih (k + 1) g z' (by omega) (by omega) hz'))
    rw [wY_holds_18]
    dsimp only
    rw [gw_dgr (by omega), gw_sbit (by omega) (by omega), gw_bn]
    refine br_f (nI_ge (by omega) (by omega)) ⟨by decide, ?_⟩
    by_cases d2 : gw_dg c k = 2
    · refine br_t (nI_le (a := 2) (by omega) (by omega)) ⟨by decide, next z (gw_tv_iff hz ⟨fun p => lt_s p (Or.inl d2), fun p j hj => p j (by omega)⟩)⟩
    · refine br_f (nI_ge (b := 2) (by omega) (by decide)) ⟨by decide, ?_⟩
      have hbt : (a.testBit k).toNat < 2 ^ 31 := by cases a.testBit k <;> decide
      rw [nI_eq (by omega) hbt]
      refine br_c (fun q => ⟨by decide, next z (gw_tv_iff hz ⟨fun p => lt_s p (Or.inr q), fun p j hj => p j (by omega)⟩)⟩) (fun q => ⟨by decide, next 0 (gw_tv_f (fun p => ?_))⟩)
      rcases p k (by omega) with q2 | q2
      · exact d2 q2
      · exact q q2
theorem gy_h2_l {post : Int32 → Prop} {n c N : Nat} {T : Nat → Bool} (hn : n ≤ 6) (hN : N = 2 ^ n) (hc : c < 3 ^ n) (hT : ∀ b, b < 2 ^ n → yT b = gw_b (T b)) (h : ∀ z, gw_tv (gw_hd n T c) z → post z) : ∀ d a g, a + d = N → d < g → (∀ b, b < a → gw_mt n c b → T b = true) → wY_holds_2 post (nI c) (nI n) (nI m) (nI s) (nI r) K X Y Z F H yA yO yS yR yL yN yD yT yM yF yW yP g (nI a) := by
  have hn2 := gw_p6 hn
  intro d
  induction d with
  | zero =>
    intro a g e1 e2 h3
    obtain ⟨g, rfl⟩ := gw_fz e2
    rw [wY_holds_2, gw_pow (by omega), ← hN]
    exact br_t (nI_le (by omega) (by omega)) (h 1 (gw_tv_t (fun b hb hm => h3 b (by omega) hm)))
  | succ d ih =>
    intro a g e1 e2 h3
    obtain ⟨g, rfl⟩ := gw_fz e2
    rw [wY_holds_2, gw_pow (by omega), ← hN]
    refine br_f (nI_ge (by omega) (by omega)) ⟨n + 1, ?_⟩
    have g := gy_h18_l (s := s) (r := r) (m := m) (K := K) (X := X) (Y := Y) (Z := Z) (F := F) (H := H) (yA := yA) (yO := yO) (yS := yS) (yR := yR) (yL := yL) (yN := yN) (yD := yD) (yT := yT) (yM := yM) (yF := yF) (yW := yW) (yP := yP) (post := post) (J := wY_holds_2 post (nI c) (nI n) (nI m) (nI s) (nI r) K X Y Z F H yA yO yS yR yL yN yD yT yM yF yW yP g) (T := T) (a := a) hn hc (by omega) hT (fun p q => h 0 (gw_tv_f (fun hh => by rw [hh a (by omega) p] at q; exact absurd q.symm Bool.false_ne_true))) (fun p => ih (a + 1) g (by omega) (by omega) (lt_s h3 p)) n 0 (n + 1) 1 (by omega) (by omega) (gw_tv_t (fun j hj => absurd hj (Nat.not_lt_zero _)))
    rw [Nat.pow_zero, Nat.div_one] at g
    exact g
theorem gy_holds {post : Int32 → Prop} {n c : Nat} {T : Nat → Bool} (hn : n ≤ 6) (hc : c < 3 ^ n) (hT : ∀ b, b < 2 ^ n → yT b = gw_b (T b)) (h : ∀ z, gw_tv (gw_hd n T c) z → post z) : wpY_holds post (nI m, nI s, nI r, K, X, Y, Z, F, H, yA, yO, yS, yR, yL, yN, yD, yT, yM, yF, yW, yP) (nI c) (nI n) :=
  ⟨2 ^ n + 1, gy_h2_l hn rfl hc hT h (2 ^ n) 0 (2 ^ n + 1) (by omega) (by omega) (fun b hb => absurd hb (Nat.not_lt_zero _))⟩
theorem gy_p178_l {post : Int32 → SY → Prop} {J : Int32 → Int32 → Prop} {n c f : Nat} {x3 : Int32} {T : Nat → Bool} (hn : n ≤ 6) (hc : c < 3 ^ n) (hT : ∀ b, b < 2 ^ n → yT b = gw_b (T b)) (h1 : gw_pr n T c → J (nI (f + 1)) (nI (c + 1))) (h0 : ¬ gw_pr n T c → J (nI f) (nI (c + 1))) : ∀ d k g z, k + d = n → d < g → gw_tv (gw_hd n T c ∧ ∀ j, j < k → gw_dg c j ≠ 2 → ¬ gw_hd n T (c + (2 - gw_dg c j) * 3 ^ j)) z → wY_primes_178 post J (nI n) x3 (nI f) (nI c) (nI m) (nI s) (nI r) K X Y Z F H yA yO yS yR yL yN yD yT yM yF yW yP g z (nI (3 ^ k)) (nI k) := by
  have hc2 := gw_t6 hn
  intro d
  induction d with
  | zero =>
    intro k g z e1 e2 hz
    obtain ⟨g, rfl⟩ := gw_fz e2
    have e : k = n := by omega
    subst e
    rw [wY_primes_178]
    refine br_t (nI_le (by omega) (by omega)) ?_
    rcases hz with ⟨p, ez⟩ | ⟨p, ez⟩
    · rw [ez]; exact br_f gw_n10 (nm_r (nI_1 f) (nm_r (nI_1 c) (h1 p)))
    · rw [ez]; exact br_t rfl (nm_r (nI_1 c) (h0 p))
  | succ d ih =>
    intro k g z e1 e2 hz
    obtain ⟨g, rfl⟩ := gw_fz e2
    have hw := gw_t6 (show k ≤ 6 by omega)
    have hw0 := gw_p3 k
    have hl3 := gw_dg_lt c k
    have next : ∀ z' : Int32, gw_tv (gw_hd n T c ∧ ∀ j, j < k + 1 → gw_dg c j ≠ 2 → ¬ gw_hd n T (c + (2 - gw_dg c j) * 3 ^ j)) z' → ∀ x7 : Int32, x7 = nI (3 ^ k) * 3 → ∀ x8 : Int32, x8 = nI k + 1 → wY_primes_178 post J (nI n) x3 (nI f) (nI c) (nI m) (nI s) (nI r) K X Y Z F H yA yO yS yR yL yN yD yT yM yF yW yP g z' x7 x8 := fun z' hz' =>
      nm_r (e' := nI (3 ^ (k + 1))) (by rw [Nat.pow_succ]; exact pk_mul _ 3) (nm_r (nI_1 k) (ih (k + 1) g z' (by omega) (by omega) hz'))
    rw [wY_primes_178]
    refine br_f (nI_ge (by omega) (by omega)) (br_c (fun q => ?_) (fun q => ⟨nI_ne0 hw0 (by omega), by decide, nm_r (gw_digit (by omega) (by omega)) ?_⟩))
    · rw [q]
      exact br_t rfl (nm_r (nI_1 c) (h0 (fun p => (gw_tv_0 hz).mp q ⟨p.1, fun j hj => p.2 j (by omega)⟩)))
    · have hp := Classical.byContradiction (fun n => q ((gw_tv_0 hz).mpr n))
      by_cases d2 : gw_dg c k = 2
      · exact br_t (nI_le (a := 2) (by omega) (by omega)) (next z (gw_tv_iff hz ⟨fun p => ⟨p.1, lt_s p.2 (fun q2 => absurd d2 q2)⟩, fun p => ⟨p.1, fun j hj => p.2 j (by omega)⟩⟩))
      · have e1' : (2 : Int32) - nI (gw_dg c k) = nI (2 - gw_dg c k) := pk_sub (a := 2) (by omega)
        have hlt : c + (2 - gw_dg c k) * 3 ^ k < 3 ^ n := gw_dg_top (by omega) hc (by omega)
        rw [e1', pk_mul, nI_add]
        refine br_f (nI_ge (b := 2) (by omega) (by decide)) (gy_holds hn hlt hT (fun z2 hz2 => br_c (fun q2 => next z (gw_tv_iff hz ⟨fun p => ⟨p.1, lt_s p.2 (fun _ => (gw_tv_0 hz2).mp q2)⟩, fun p => ⟨p.1, fun j hj => p.2 j (by omega)⟩⟩)) (fun q2 => next 0 (gw_tv_f (fun p => ?_)))))
        exact q2 ((gw_tv_0 hz2).mpr (p.2 k (by omega) d2))
theorem gy_p157_l {post : Int32 → SY → Prop} {n N : Nat} {T : Nat → Bool} (hn : n ≤ 6) (hN : N = 3 ^ n) (hT : ∀ b, b < 2 ^ n → yT b = gw_b (T b)) (h : post (nI (gw_cnt (gw_dc (gw_pr n T)) N)) (nI m, nI s, nI r, K, X, Y, Z, F, H, yA, yO, yS, yR, yL, yN, yD, yT, yM, yF, yW, yP)) : ∀ d c g, c + d = N → d < g → wY_primes_157 post (nI n) (nI N) (nI m) (nI s) (nI r) K X Y Z F H yA yO yS yR yL yN yD yT yM yF yW yP g (nI (gw_cnt (gw_dc (gw_pr n T)) c)) (nI c) := by
  have hc2 := gw_t6 hn
  intro d
  induction d with
  | zero =>
    intro c g h1 h2
    obtain ⟨g, rfl⟩ := gw_fz h2
    have e : c = N := by omega
    rw [wY_primes_157]
    refine br_t (nI_le (by omega) (by omega)) ?_
    rw [e]
    exact h
  | succ d ih =>
    intro c g h1 h2
    obtain ⟨g, rfl⟩ := gw_fz h2
    have ihn := ih (c + 1) g (by omega) (by omega)
    rw [wY_primes_157]
    refine br_f (nI_ge (by omega) (by omega)) (gy_holds hn (by omega) hT (fun z hz => ⟨n + 1, gy_p178_l hn (by omega) hT (fun p => ?_) (fun p => ?_) n 0 (n + 1) z (by omega) (by omega) (gw_tv_iff hz ⟨fun p => ⟨p, fun j hj => absurd hj (Nat.not_lt_zero _)⟩, fun p => p.1⟩)⟩))
    · rw [gw_dc_st p] at ihn
      exact ihn
    · rw [gw_dc_sf p] at ihn
      exact ihn
theorem gy_p135_l {post : Int32 → SY → Prop} {n : Nat} {T : Nat → Bool} (hn : n ≤ 6) (hT : ∀ b, b < 2 ^ n → yT b = gw_b (T b)) (h : post (nI (gw_cnt (gw_dc (gw_pr n T)) (3 ^ n))) (nI m, nI s, nI r, K, X, Y, Z, F, H, yA, yO, yS, yR, yL, yN, yD, yT, yM, yF, yW, yP)) : ∀ d i g, i + d = n → d < g → wY_primes_135 post (nI n) (nI m) (nI s) (nI r) K X Y Z F H yA yO yS yR yL yN yD yT yM yF yW yP g (nI (3 ^ i)) (nI i) := by
  intro d
  induction d with
  | zero =>
    intro i g h1 h2
    obtain ⟨g, rfl⟩ := gw_fz h2
    have e : i = n := by omega
    rw [wY_primes_135]
    rw [e]
    exact br_t (nI_le (by omega) (by omega)) ⟨3 ^ n + 1, gy_p157_l hn rfl hT h (3 ^ n) 0 (3 ^ n + 1) (by omega) (by omega)⟩
  | succ d ih =>
    intro i g h1 h2
    obtain ⟨g, rfl⟩ := gw_fz h2
    rw [wY_primes_135]
    exact br_f (nI_ge (by omega) (by omega)) (nm_r (e' := nI (3 ^ (i + 1))) (by rw [Nat.pow_succ]; exact pk_mul _ 3) (nm_r (nI_1 i) (ih (i + 1) g (by omega) (by omega))))
theorem gy_p75_l {post : Int32 → SY → Prop} {J : Int32 → Int32 → Int32 → Int32 → (Nat → Int32) → (Nat → Int32) → (Nat → Int32) → (Nat → Int32) → (Nat → Int32) → (Nat → Int32) → (Nat → Int32) → (Nat → Int32) → (Nat → Int32) → (Nat → Int32) → (Nat → Int32) → (Nat → Int32) → (Nat → Int32) → (Nat → Int32) → (Nat → Int32) → (Nat → Int32) → (Nat → Int32) → (Nat → Int32) → Prop} {net n a : Nat} {dep : Nat → Nat} (hm : m ≤ 32) (hW : gw_W K X Y Z F m) (hnet : net < m) (hs : s = gw_cnt (gw_sk K) m) (h10 : s ≤ 10) (hS : gw_En (gw_sk K) yS m) (hn : n ≤ 6) (ha : a < 2 ^ n) (hd : ∀ k, k < n → dep k < s ∧ yD k = nI (dep k)) (h : ∀ A, J (nI (a + 1)) (nI m) (nI s) (nI r) K X Y Z F H A yO yS yR yL yN yD (upd yT a (gw_b (gw_tb (gw_T K X Y Z m net) dep n a))) yM yF yW yP) : ∀ d k g, k + d = n → d < g → wY_primes_75 post J (nI net) (nI n) (nI a) (nI m) (nI s) (nI r) K X Y Z F H yA yO yS yR yL yN yD yT yM yF yW yP g (nI (gw_nm dep (fun k => a.testBit k) k)) (nI k) := by
  have hn2 := gw_p6 hn
  have hN2 := gw_p10 h10
  intro d
  induction d with
  | zero =>
    intro k g e1 e2
    obtain ⟨g, rfl⟩ := gw_fz e2
    have e : k = n := by omega
    subst e
    have hlt : gw_nm dep (fun k => a.testBit k) k < 2 ^ s := gw_nm_lt (fun j hj => (hd j hj).1)
    have cn : (nI net).toNatClampNeg = net := nI_clamp (by omega)
    have ca : (nI a).toNatClampNeg = a := nI_clamp (by omega)
    rw [wY_primes_75]
    refine br_t (nI_le (by omega) (by omega)) (gy_assign (by omega) hm hW hs h10 hS (fun A hA => ?_))
    dsimp only
    rw [cn, ca, hA net hnet, gw_narb]
    exact ⟨vp_in_nI (by omega) (by omega), vp_in_nI (by omega) (by omega), nm_e (nm_r (nI_1 a) (h A))⟩
  | succ d ih =>
    intro k g e1 e2
    obtain ⟨g, rfl⟩ := gw_fz e2
    have ck : (nI k).toNatClampNeg = k := nI_clamp (by omega)
    obtain ⟨hdl, hde⟩ := hd k (by omega)
    rw [wY_primes_75]
    refine br_f (nI_ge (by omega) (by omega)) ⟨vp_in_nI (by omega) (by omega), ?_⟩
    rw [ck, hde, gw_sbit (by omega) (by omega)]
    exact nm_r (gw_or _ _ (by omega)) (nm_r (nI_1 k) (ih (k + 1) g (by omega) (by omega)))
theorem gy_p62_l {post : Int32 → SY → Prop} {net n N : Nat} {dep : Nat → Nat} (hm : m ≤ 32) (hW : gw_W K X Y Z F m) (hnet : net < m) (hs : s = gw_cnt (gw_sk K) m) (h10 : s ≤ 10) (hS : gw_En (gw_sk K) yS m) (hn : n ≤ 6) (hN : N = 2 ^ n) (hd : ∀ k, k < n → dep k < s ∧ yD k = nI (dep k)) (h : ∀ A B, post (nI (gw_cnt (gw_dc (gw_pr n (gw_tb (gw_T K X Y Z m net) dep n))) (3 ^ n))) (nI m, nI s, nI r, K, X, Y, Z, F, H, A, yO, yS, yR, yL, yN, yD, B, yM, yF, yW, yP)) : ∀ d a g A B, a + d = N → d < g → (∀ b, b < a → B b = gw_b (gw_tb (gw_T K X Y Z m net) dep n b)) → wY_primes_62 post (nI net) (nI n) g (nI a) (nI m) (nI s) (nI r) K X Y Z F H A yO yS yR yL yN yD B yM yF yW yP := by
  have hn2 := gw_p6 hn
  intro d
  induction d with
  | zero =>
    intro a g A B e1 e2 hB
    obtain ⟨g, rfl⟩ := gw_fz e2
    rw [wY_primes_62, gw_pow (by omega), ← hN]
    exact br_t (nI_le (by omega) (by omega)) ⟨n + 1, gy_p135_l hn (fun b hb => hB b (by omega)) (h A B) n 0 (n + 1) (by omega) (by omega)⟩
  | succ d ih =>
    intro a g A B e1 e2 hB
    obtain ⟨g, rfl⟩ := gw_fz e2
    rw [wY_primes_62, gw_pow (by omega), ← hN]
    refine br_f (nI_ge (by omega) (by omega)) ⟨n + 1, gy_p75_l hm hW hnet hs h10 hS hn (by omega) hd (fun A' => ?_) n 0 (n + 1) (by omega) (by omega)⟩
    refine ih (a + 1) g A' _ (by omega) (by omega) (fun b hb => ?_)
    by_cases e : b = a
    · subst e; exact pk_us
    · rw [pk_un e]; exact hB b (by omega)
theorem gy_p14_l {post : Int32 → SY → Prop} {net : Nat} {dep : Nat → Nat} (hm : m ≤ 32) (hW : gw_W K X Y Z F m) (hnet : net < m) (hs : s = gw_cnt (gw_sk K) m) (h10 : s ≤ 10) (hS : gw_En (gw_sk K) yS m) (hd : gw_dp (gw_T K X Y Z m net) s dep) (c0 : ∀ A D, 6 < gw_cnt (gw_dc (gw_ft (gw_T K X Y Z m net) s)) s → post (-2) (nI m, nI s, nI r, K, X, Y, Z, F, H, A, yO, yS, yR, yL, yN, D, yT, yM, yF, yW, yP)) (c1 : ∀ A D B, gw_cnt (gw_dc (gw_ft (gw_T K X Y Z m net) s)) s ≤ 6 → post (nI (gw_cnt (gw_dc (gw_pr (gw_cnt (gw_dc (gw_ft (gw_T K X Y Z m net) s)) s) (gw_tb (gw_T K X Y Z m net) dep (gw_cnt (gw_dc (gw_ft (gw_T K X Y Z m net) s)) s)))) (3 ^ gw_cnt (gw_dc (gw_ft (gw_T K X Y Z m net) s)) s))) (nI m, nI s, nI r, K, X, Y, Z, F, H, A, yO, yS, yR, yL, yN, D, B, yM, yF, yW, yP)) : ∀ d p g A D, p + d = s → d < g → gw_En (gw_dc (gw_ft (gw_T K X Y Z m net) s)) D p → wY_primes_14 post (nI net) g (nI (gw_cnt (gw_dc (gw_ft (gw_T K X Y Z m net) s)) p)) (nI p) (nI m) (nI s) (nI r) K X Y Z F H A yO yS yR yL yN D yT yM yF yW yP := by
  intro d
  induction d with
  | zero =>
    intro p g A D e1 e2 hD
    obtain ⟨g, rfl⟩ := gw_fz e2
    have e : p = s := by omega
    have hle := gw_cnt_le (gw_dc (gw_ft (gw_T K X Y Z m net) s)) s
    rw [wY_primes_14]
    rw [e] at hD ⊢
    refine br_t (nI_le (by omega) (by omega)) ?_
    rcases Nat.lt_or_ge 6 (gw_cnt (gw_dc (gw_ft (gw_T K X Y Z m net) s)) s) with l | l
    · exact br_f (nI_ge (a := 6) l (by omega)) (c0 A D l)
    · exact br_t (nI_le (b := 6) l (by decide)) ⟨2 ^ gw_cnt (gw_dc (gw_ft (gw_T K X Y Z m net) s)) s + 1, gy_p62_l hm hW hnet hs h10 hS l rfl (fun k hk => gw_dp_at hd hD hk) (fun A' B => c1 A' D B l) (2 ^ gw_cnt (gw_dc (gw_ft (gw_T K X Y Z m net) s)) s) 0 _ A yT (by omega) (by omega) (fun b hb => absurd hb (Nat.not_lt_zero _))⟩
  | succ d ih =>
    intro p g A D e1 e2 hD
    obtain ⟨g, rfl⟩ := gw_fz e2
    have hle := gw_cnt_le (gw_dc (gw_ft (gw_T K X Y Z m net) s)) p
    rw [wY_primes_14]
    refine br_f (nI_ge (by omega) (by omega)) (gy_leans hm hW hs h10 hS hnet (by omega) (fun A' z hz' => ?_))
    have hz : gw_tv (gw_ft (gw_T K X Y Z m net) s p) z := gw_tv_iff hz' (gw_felt (show p < s by omega)).symm
    refine br_c (fun q => nm_r (nI_1 p) ?_) (fun q => ?_)
    · have hf : gw_dc (gw_ft (gw_T K X Y Z m net) s) p = false := gw_dc_f.mpr ((gw_tv_0 hz).mp q)
      have ihn := ih (p + 1) g A' D (by omega) (by omega) (gw_En_f hD hf)
      rw [gw_cnt_f hf] at ihn
      exact ihn
    · have hf : gw_dc (gw_ft (gw_T K X Y Z m net) s) p = true := gw_dc_t.mpr (Classical.byContradiction (fun g => q ((gw_tv_0 hz).mpr g)))
      have cc : (nI (gw_cnt (gw_dc (gw_ft (gw_T K X Y Z m net) s)) p)).toNatClampNeg = gw_cnt (gw_dc (gw_ft (gw_T K X Y Z m net) s)) p := nI_clamp (by omega)
      have ihn := ih (p + 1) g A' (upd D (gw_cnt (gw_dc (gw_ft (gw_T K X Y Z m net) s)) p) (nI p)) (by omega) (by omega) (gw_En_t hD hf)
      rw [gw_cnt_t hf] at ihn
      exact nm_r (nI_1 _) ⟨vp_in_nI (by omega) (by omega), nm_r (by rw [cc]) (nm_r (nI_1 p) ihn)⟩
theorem gy_primes {post : Int32 → SY → Prop} {net : Nat} {dep : Nat → Nat} (hm : m ≤ 32) (hW : gw_W K X Y Z F m) (hnet : net < m) (hs : s = gw_cnt (gw_sk K) m) (h10 : s ≤ 10) (hS : gw_En (gw_sk K) yS m) (hd : gw_dp (gw_T K X Y Z m net) s dep) (c0 : ∀ A D, 6 < gw_cnt (gw_dc (gw_ft (gw_T K X Y Z m net) s)) s → post (-2) (nI m, nI s, nI r, K, X, Y, Z, F, H, A, yO, yS, yR, yL, yN, D, yT, yM, yF, yW, yP)) (c1 : ∀ A D B, gw_cnt (gw_dc (gw_ft (gw_T K X Y Z m net) s)) s ≤ 6 → post (nI (gw_cnt (gw_dc (gw_pr (gw_cnt (gw_dc (gw_ft (gw_T K X Y Z m net) s)) s) (gw_tb (gw_T K X Y Z m net) dep (gw_cnt (gw_dc (gw_ft (gw_T K X Y Z m net) s)) s)))) (3 ^ gw_cnt (gw_dc (gw_ft (gw_T K X Y Z m net) s)) s))) (nI m, nI s, nI r, K, X, Y, Z, F, H, A, yO, yS, yR, yL, yN, D, B, yM, yF, yW, yP)) : wpY_primes post (nI m, nI s, nI r, K, X, Y, Z, F, H, yA, yO, yS, yR, yL, yN, yD, yT, yM, yF, yW, yP) (nI net) := by
  unfold wpY_primes
  dsimp only
  exact gy_net hm hnet (br_f gw_n10 ⟨s + 1, gy_p14_l hm hW hnet hs h10 hS hd c0 c1 s 0 (s + 1) yA yD (by omega) (by omega) (fun p hp => absurd hp (Nat.not_lt_zero _))⟩)
end
theorem i_vc_primes {k : Nat} {u : SX} {v : SY} (I : i_Rel k u v) (hk : k + 6 ≤ 3072) (v1 : Int32) : wpX_primes (fun r u' => wpY_primes (fun r' v' => r' = r ∧ i_Rel (k + 6) u' v') v v1) u v1 := by
  have J : i_Rel (k + 6) u v := I
  obtain ⟨m, K, X, Y, Z, F, H, ⟨hm, hW, h01, h10, h6⟩, ⟨tl, pe, xO, xN, xC, xS, xL, xE, xG, xW, xM, xP, rfl⟩, ⟨yA, yO, yS, yR, yL, yN, yD, yT, yM, yF, yW, yP, rfl, hS, hR⟩⟩ := I
  rcases gw_net (x := v1) (m := m) (by omega) with ⟨n, hn, rfl⟩ | hx
  · obtain ⟨dep, hd, _⟩ := gw_dp_ex (gw_T K X Y Z m n) (gw_cnt (gw_sk K) m)
    refine gx_primes hm hW hn h10 hd (fun O A hl => ?_) (fun O A C hl => ?_)
    · exact gy_primes hm hW hn rfl h10 hS hd (fun A' D _ => ⟨rfl, gw_rel ⟨hm, hW, h01, h10, h6⟩ hS hR⟩) (fun A' D B q => absurd q (by omega))
    · exact gy_primes hm hW hn rfl h10 hS hd (fun A' D q => absurd q (by omega)) (fun A' D B _ => ⟨rfl, gw_rel ⟨hm, hW, h01, h10, h6⟩ hS hR⟩)
  · unfold wpX_primes wpY_primes
    dsimp only
    exact gx_nonet hx (br_t rfl (gy_nonet hm hx (br_t rfl ⟨rfl, J⟩)))
