/-! the reference's value, count, witness, same, depends, tests -/
section
variable {m s r : Nat} {K X Y Z F H yA yO yS yR yL yN yD yT yM yF yW yP : Nat → Int32}
theorem gy_value {post : Int32 → SY → Prop} {n : Nat} (hm : m ≤ 32) (hW : gw_W K X Y Z F m) (h01 : gw_01 H) (hs : s = gw_cnt (gw_sk K) m) (h10 : s ≤ 10) (hE : gw_En (gw_sk K) yS m) (hn : n < m) (h : ∀ A, post (gw_b (gw_v K X Y Z m (gw_hs H) n)) (nI m, nI s, nI r, K, X, Y, Z, F, H, A, yO, yS, yR, yL, yN, yD, yT, yM, yF, yW, yP)) : wpY_value post (nI m, nI s, nI r, K, X, Y, Z, F, H, yA, yO, yS, yR, yL, yN, yD, yT, yM, yF, yW, yP) (nI n) := by
  have cn : (nI n).toNatClampNeg = n := nI_clamp (by omega)
  unfold wpY_value
  dsimp only
  refine gy_net hm hn (br_f gw_n10 (gy_present hm hW h01 hs h10 hE (fun A hA => ?_)))
  have g := h A
  dsimp only
  rw [cn, hA n hn]
  refine ⟨vp_in_nI (by omega) (by omega), ?_⟩
  cases hb : gw_v K X Y Z m (gw_hs H) n with
  | true => rw [hb] at g; exact br_f (by decide) g
  | false => rw [hb] at g; exact br_t rfl g
theorem gy_count_l {post : Int32 → SY → Prop} {n N : Nat} (hm : m ≤ 32) (hW : gw_W K X Y Z F m) (hs : s = gw_cnt (gw_sk K) m) (h10 : s ≤ 10) (hE : gw_En (gw_sk K) yS m) (hn : n < m) (hN : N = 2 ^ s) (h : ∀ A, post (nI (gw_cnt (gw_T K X Y Z m n) N)) (nI m, nI s, nI r, K, X, Y, Z, F, H, A, yO, yS, yR, yL, yN, yD, yT, yM, yF, yW, yP)) : ∀ d a g A, a + d = N → d < g → wY_count_14 post (nI n) g (nI (gw_cnt (gw_T K X Y Z m n) a)) (nI a) (nI m) (nI s) (nI r) K X Y Z F H A yO yS yR yL yN yD yT yM yF yW yP := by
  have hb : N ≤ 1024 := by rw [hN]; exact gw_p10 h10
  have cn : (nI n).toNatClampNeg = n := nI_clamp (by omega)
  intro d
  induction d with
  | zero =>
    intro a g A h1 h2
    obtain ⟨g, rfl⟩ := gw_fz h2
    have e : a = N := by omega
    rw [wY_count_14]
    dsimp only
    rw [gw_pow (by omega), ← hN]
    refine br_t (nI_le (by omega) (by omega)) ?_
    rw [e]
    exact h A
  | succ d ih =>
    intro a g A h1 h2
    obtain ⟨g, rfl⟩ := gw_fz h2
    rw [wY_count_14]
    dsimp only
    rw [gw_pow (by omega), ← hN]
    refine br_f (nI_ge (by omega) (by omega)) (gy_assign (by omega) hm hW hs h10 hE (fun A' hA => ?_))
    have ihn := ih (a + 1) g A' (by omega) (by omega)
    dsimp only
    rw [cn, hA n hn]
    refine ⟨vp_in_nI (by omega) (by omega), ?_⟩
    cases ht : gw_v K X Y Z m (gw_sa K a) n with
    | true =>
      rw [gw_cnt_t (show gw_T K X Y Z m n a = true from ht)] at ihn
      exact br_f (by decide) (nm_r (nI_1 _) (nm_r (nI_1 a) ihn))
    | false =>
      rw [gw_cnt_f (show gw_T K X Y Z m n a = false from ht)] at ihn
      exact br_t rfl (nm_r (nI_1 a) ihn)
theorem gy_count {post : Int32 → SY → Prop} {n : Nat} (hm : m ≤ 32) (hW : gw_W K X Y Z F m) (hs : s = gw_cnt (gw_sk K) m) (h10 : s ≤ 10) (hE : gw_En (gw_sk K) yS m) (hn : n < m) (h : ∀ A, post (nI (gw_cnt (gw_T K X Y Z m n) (2 ^ s))) (nI m, nI s, nI r, K, X, Y, Z, F, H, A, yO, yS, yR, yL, yN, yD, yT, yM, yF, yW, yP)) : wpY_count post (nI m, nI s, nI r, K, X, Y, Z, F, H, yA, yO, yS, yR, yL, yN, yD, yT, yM, yF, yW, yP) (nI n) := by
  unfold wpY_count
  dsimp only
  exact gy_net hm hn (br_f gw_n10 ⟨2 ^ s + 1, gy_count_l hm hW hs h10 hE hn rfl h (2 ^ s) 0 (2 ^ s + 1) yA (by omega) (by omega)⟩)
theorem gy_wit_l {post : Int32 → SY → Prop} {n N lo : Nat} (hm : m ≤ 32) (hW : gw_W K X Y Z F m) (hs : s = gw_cnt (gw_sk K) m) (h10 : s ≤ 10) (hE : gw_En (gw_sk K) yS m) (hn : n < m) (hN : N = 2 ^ s) (h : ∀ A z, gw_Fs (gw_T K X Y Z m n) lo N z → post z (nI m, nI s, nI r, K, X, Y, Z, F, H, A, yO, yS, yR, yL, yN, yD, yT, yM, yF, yW, yP)) : ∀ d a g A, N - a ≤ d → d < g → a < 2 ^ 31 → lo ≤ a → (∀ b, lo ≤ b → b < a → b < N → gw_T K X Y Z m n b = false) → wY_witness_20 post (nI n) g (nI a) (nI m) (nI s) (nI r) K X Y Z F H A yO yS yR yL yN yD yT yM yF yW yP := by
  have hb : N ≤ 1024 := by rw [hN]; exact gw_p10 h10
  have cn : (nI n).toNatClampNeg = n := nI_clamp (by omega)
  intro d
  induction d with
  | zero =>
    intro a g A h1 h2 h3 h4 h5
    obtain ⟨g, rfl⟩ := gw_fz h2
    rw [wY_witness_20]
    dsimp only
    rw [gw_pow (by omega), ← hN]
    exact br_t (nI_le (by omega) (by omega)) (h A (-1) (Or.inr ⟨fun b hb1 hb2 => h5 b hb1 (by omega) hb2, rfl⟩))
  | succ d ih =>
    intro a g A h1 h2 h3 h4 h5
    obtain ⟨g, rfl⟩ := gw_fz h2
    rw [wY_witness_20]
    dsimp only
    rw [gw_pow (by omega), ← hN]
    rcases Nat.lt_or_ge a N with c | c
    · refine br_f (nI_ge (by omega) (by omega)) (gy_assign (by omega) hm hW hs h10 hE (fun A' hA => ?_))
      dsimp only
      rw [cn, hA n hn]
      refine ⟨vp_in_nI (by omega) (by omega), ?_⟩
      cases ht : gw_v K X Y Z m (gw_sa K a) n with
      | true => exact br_f (by decide) (h A' (nI a) (Or.inl ⟨a, h4, c, ht, fun b hb1 hb2 => h5 b hb1 hb2 (by omega), rfl⟩))
      | false =>
        refine br_t rfl (nm_r (nI_1 a) (ih (a + 1) g A' (by omega) (by omega) (by omega) (by omega) (fun b hb1 hb2 hb3 => ?_)))
        by_cases e : b = a
        · rw [e]; exact ht
        · exact h5 b hb1 (by omega) hb3
    · exact br_t (nI_le (by omega) (by omega)) (h A (-1) (Or.inr ⟨fun b hb1 hb2 => h5 b hb1 (by omega) hb2, rfl⟩))
theorem gy_wit {post : Int32 → SY → Prop} {n lo : Nat} {p : Int32} (hm : m ≤ 32) (hW : gw_W K X Y Z F m) (hs : s = gw_cnt (gw_sk K) m) (h10 : s ≤ 10) (hE : gw_En (gw_sk K) yS m) (hn : n < m) (hl : lo < 2 ^ 31) (hp : (0 ≤ p ∧ p = nI lo) ∨ (¬ 0 ≤ p ∧ lo = 0)) (h : ∀ A z, gw_Fs (gw_T K X Y Z m n) lo (2 ^ s) z → post z (nI m, nI s, nI r, K, X, Y, Z, F, H, A, yO, yS, yR, yL, yN, yD, yT, yM, yF, yW, yP)) : wpY_witness post (nI m, nI s, nI r, K, X, Y, Z, F, H, yA, yO, yS, yR, yL, yN, yD, yT, yM, yF, yW, yP) (nI n) p := by
  unfold wpY_witness
  dsimp only
  refine gy_net hm hn (br_f gw_n10 ?_)
  have go := gy_wit_l (r := r) (H := H) (yO := yO) (yR := yR) (yL := yL) (yN := yN) (yD := yD) (yT := yT) (yM := yM) (yF := yF) (yW := yW) (yP := yP) (lo := lo) hm hW hs h10 hE hn rfl h (2 ^ s) lo (2 ^ s + 1) yA (Nat.sub_le _ _) (by omega) hl (Nat.le_refl _) (fun b h1 h2 _ => absurd h2 (by omega))
  rcases hp with ⟨h0, e⟩ | ⟨h0, e⟩
  · rw [e] at h0 ⊢
    exact br_t h0 ⟨_, go⟩
  · subst e
    exact br_f h0 ⟨_, go⟩
theorem gy_same_l {post : Int32 → SY → Prop} {N a b : Nat} (hm : m ≤ 32) (hW : gw_W K X Y Z F m) (hs : s = gw_cnt (gw_sk K) m) (h10 : s ≤ 10) (hE : gw_En (gw_sk K) yS m) (ha : a < m) (hb : b < m) (hN : N = 2 ^ s) (h : ∀ A z, gw_tv (∀ j, j < N → gw_T K X Y Z m a j = gw_T K X Y Z m b j) z → post z (nI m, nI s, nI r, K, X, Y, Z, F, H, A, yO, yS, yR, yL, yN, yD, yT, yM, yF, yW, yP)) : ∀ d j g A, j + d = N → d < g → (∀ i, i < j → gw_T K X Y Z m a i = gw_T K X Y Z m b i) → wY_same_20 post (nI a) (nI b) g (nI j) (nI m) (nI s) (nI r) K X Y Z F H A yO yS yR yL yN yD yT yM yF yW yP := by
  have hN2 : N ≤ 1024 := by rw [hN]; exact gw_p10 h10
  have ca : (nI a).toNatClampNeg = a := nI_clamp (by omega)
  have cb : (nI b).toNatClampNeg = b := nI_clamp (by omega)
  intro d
  induction d with
  | zero =>
    intro j g A h1 h2 h3
    obtain ⟨g, rfl⟩ := gw_fz h2
    have e : j = N := by omega
    rw [wY_same_20]
    dsimp only
    rw [gw_pow (by omega), ← hN]
    refine br_t (nI_le (by omega) (by omega)) (h A 1 (gw_tv_t ?_))
    rw [← e]
    exact h3
  | succ d ih =>
    intro j g A h1 h2 h3
    obtain ⟨g, rfl⟩ := gw_fz h2
    rw [wY_same_20]
    dsimp only
    rw [gw_pow (by omega), ← hN]
    refine br_f (nI_ge (by omega) (by omega)) (gy_assign (by omega) hm hW hs h10 hE (fun A' hA => ?_))
    dsimp only
    rw [ca, cb, hA a ha, hA b hb, gw_b_inj]
    refine ⟨vp_in_nI (by omega) (by omega), vp_in_nI (by omega) (by omega), ?_⟩
    exact br_c (fun e => nm_r (nI_1 j) (ih (j + 1) g A' (by omega) (by omega) (lt_s h3 e))) (fun e => h A' 0 (gw_tv_f (fun q => e (q j (by omega)))))
theorem gy_same {post : Int32 → SY → Prop} {a b : Nat} (hm : m ≤ 32) (hW : gw_W K X Y Z F m) (hs : s = gw_cnt (gw_sk K) m) (h10 : s ≤ 10) (hE : gw_En (gw_sk K) yS m) (ha : a < m) (hb : b < m) (h : ∀ A z, gw_tv (∀ j, j < 2 ^ s → gw_T K X Y Z m a j = gw_T K X Y Z m b j) z → post z (nI m, nI s, nI r, K, X, Y, Z, F, H, A, yO, yS, yR, yL, yN, yD, yT, yM, yF, yW, yP)) : wpY_same post (nI m, nI s, nI r, K, X, Y, Z, F, H, yA, yO, yS, yR, yL, yN, yD, yT, yM, yF, yW, yP) (nI a) (nI b) := by
  unfold wpY_same
  dsimp only
  exact gy_net hm ha (br_f gw_n10 (gy_net hm hb (br_f gw_n10 ⟨2 ^ s + 1, gy_same_l hm hW hs h10 hE ha hb rfl h (2 ^ s) 0 (2 ^ s + 1) yA (by omega) (by omega) (fun i hi => absurd hi (Nat.not_lt_zero _))⟩)))
theorem gy_leans_l {post : Int32 → SY → Prop} {n N p : Nat} (hm : m ≤ 32) (hW : gw_W K X Y Z F m) (hs : s = gw_cnt (gw_sk K) m) (h10 : s ≤ 10) (hE : gw_En (gw_sk K) yS m) (hn : n < m) (hN : N = 2 ^ s) (hp : p < s) (h : ∀ A z, gw_tv (∃ a, a < N ∧ a.testBit p = false ∧ gw_T K X Y Z m n (a ||| 2 ^ p) ≠ gw_T K X Y Z m n a) z → post z (nI m, nI s, nI r, K, X, Y, Z, F, H, A, yO, yS, yR, yL, yN, yD, yT, yM, yF, yW, yP)) : ∀ d a g A, a + d = N → d < g → (∀ b, b < a → b.testBit p = false → gw_T K X Y Z m n (b ||| 2 ^ p) = gw_T K X Y Z m n b) → wY_leans_2 post (nI n) (nI p) g (nI a) (nI m) (nI s) (nI r) K X Y Z F H A yO yS yR yL yN yD yT yM yF yW yP := by
  have hN2 : N ≤ 1024 := by rw [hN]; exact gw_p10 h10
  have cn : (nI n).toNatClampNeg = n := nI_clamp (by omega)
  intro d
  induction d with
  | zero =>
    intro a g A h1 h2 h3
    obtain ⟨g, rfl⟩ := gw_fz h2
    rw [wY_leans_2]
    dsimp only
    rw [gw_pow (by omega), ← hN]
    refine br_t (nI_le (by omega) (by omega)) (h A 0 (gw_tv_f ?_))
    rintro ⟨b, h4, h5, h6⟩
    exact h6 (h3 b (by omega) h5)
  | succ d ih =>
    intro a g A h1 h2 h3
    obtain ⟨g, rfl⟩ := gw_fz h2
    have hlt : a ||| 2 ^ p < N := by
      rw [hN]
      exact Nat.or_lt_two_pow (by rw [← hN]; omega) (Nat.pow_lt_pow_right (by omega) hp)
    rw [wY_leans_2]
    dsimp only
    rw [gw_pow (by omega), ← hN]
    refine br_f (nI_ge (by omega) (by omega)) ?_
    rw [gw_sbit (by omega) (by omega), gw_or1 a (by omega)]
    cases hb : a.testBit p with
    | true =>
      exact br_t rfl (nm_r (nI_1 a) (ih (a + 1) g A (by omega) (by omega) (lt_s h3 (fun q => by rw [hb] at q; exact absurd q.symm Bool.false_ne_true))))
    | false =>
      refine br_f (by decide) (gy_assign (by omega) hm hW hs h10 hE (fun A' hA => ?_))
      dsimp only
      rw [cn, hA n hn]
      refine ⟨vp_in_nI (by omega) (by omega), nm_e (gy_assign (by omega) hm hW hs h10 hE (fun A2 hA2 => ?_))⟩
      dsimp only
      rw [hA2 n hn, gw_b_inj]
      refine ⟨vp_in_nI (by omega) (by omega), ?_⟩
      exact br_c (fun e => nm_r (nI_1 a) (ih (a + 1) g A2 (by omega) (by omega) (lt_s h3 (fun _ => e)))) (fun e => h A2 1 (gw_tv_t ⟨a, by omega, hb, e⟩))
theorem gy_leans {post : Int32 → SY → Prop} {n p : Nat} (hm : m ≤ 32) (hW : gw_W K X Y Z F m) (hs : s = gw_cnt (gw_sk K) m) (h10 : s ≤ 10) (hE : gw_En (gw_sk K) yS m) (hn : n < m) (hp : p < s) (h : ∀ A z, gw_tv (∃ a, a < 2 ^ s ∧ a.testBit p = false ∧ gw_T K X Y Z m n (a ||| 2 ^ p) ≠ gw_T K X Y Z m n a) z → post z (nI m, nI s, nI r, K, X, Y, Z, F, H, A, yO, yS, yR, yL, yN, yD, yT, yM, yF, yW, yP)) : wpY_leans post (nI m, nI s, nI r, K, X, Y, Z, F, H, yA, yO, yS, yR, yL, yN, yD, yT, yM, yF, yW, yP) (nI n) (nI p) :=
  ⟨2 ^ s + 1, gy_leans_l hm hW hs h10 hE hn rfl hp h (2 ^ s) 0 (2 ^ s + 1) yA (by omega) (by omega) (fun b hb => absurd hb (Nat.not_lt_zero _))⟩
theorem gy_dep_l {post : Int32 → SY → Prop} {net src : Nat} (hm : m ≤ 32) (hW : gw_W K X Y Z F m) (hs : s = gw_cnt (gw_sk K) m) (h10 : s ≤ 10) (hE : gw_En (gw_sk K) yS m) (hn : net < m) (hsrc : src < m) (hk : gw_sk K src = true) (h : ∀ A z, gw_tv (∃ a, a < 2 ^ s ∧ a.testBit (gw_cnt (gw_sk K) src) = false ∧ gw_T K X Y Z m net (a ||| 2 ^ gw_cnt (gw_sk K) src) ≠ gw_T K X Y Z m net a) z → post z (nI m, nI s, nI r, K, X, Y, Z, F, H, A, yO, yS, yR, yL, yN, yD, yT, yM, yF, yW, yP)) : ∀ d i g, i + d = gw_cnt (gw_sk K) src → d < g → wY_depends_20 post (nI net) (nI src) (nI m) (nI s) (nI r) K X Y Z F H yA yO yS yR yL yN yD yT yM yF yW yP g (nI i) := by
  have hc := gw_cnt_lt hk hsrc
  intro d
  induction d with
  | zero =>
    intro i g h1 h2
    obtain ⟨g, rfl⟩ := gw_fz h2
    have e : i = gw_cnt (gw_sk K) src := by omega
    have ci : (nI i).toNatClampNeg = i := nI_clamp (by omega)
    rw [wY_depends_20]
    refine ⟨vp_in_nI (by omega) (by omega), ?_⟩
    rw [ci, e]
    exact br_t (hE src hsrc hk) (gy_leans hm hW hs h10 hE hn (by omega) (fun A z hz => ⟨gw_nb (gw_tv_01 hz), h A z hz⟩))
  | succ d ih =>
    intro i g h1 h2
    obtain ⟨g, rfl⟩ := gw_fz h2
    have ci : (nI i).toNatClampNeg = i := nI_clamp (by omega)
    obtain ⟨n, hn', hq, hc', e⟩ := gw_En_at hE (show i < gw_cnt (gw_sk K) m by omega)
    rw [wY_depends_20]
    refine ⟨vp_in_nI (by omega) (by omega), ?_⟩
    rw [ci, e]
    refine br_f (fun q => ?_) (nm_r (nI_1 i) (ih (i + 1) g (by omega) (by omega)))
    rw [nI_eq (by omega) (by omega)] at q
    rw [q] at hc'
    omega
theorem gy_dep {post : Int32 → SY → Prop} {net : Nat} {p : Int32} (hm : m ≤ 32) (hW : gw_W K X Y Z F m) (hs : s = gw_cnt (gw_sk K) m) (h10 : s ≤ 10) (hE : gw_En (gw_sk K) yS m) (hn : net < m) (c0 : (∀ n, n < m → p = nI n → gw_sk K n = false) → post 0 (nI m, nI s, nI r, K, X, Y, Z, F, H, yA, yO, yS, yR, yL, yN, yD, yT, yM, yF, yW, yP)) (c1 : ∀ src, src < m → p = nI src → gw_sk K src = true → ∀ A z, gw_tv (∃ a, a < 2 ^ s ∧ a.testBit (gw_cnt (gw_sk K) src) = false ∧ gw_T K X Y Z m net (a ||| 2 ^ gw_cnt (gw_sk K) src) ≠ gw_T K X Y Z m net a) z → post z (nI m, nI s, nI r, K, X, Y, Z, F, H, A, yO, yS, yR, yL, yN, yD, yT, yM, yF, yW, yP)) : wpY_depends post (nI m, nI s, nI r, K, X, Y, Z, F, H, yA, yO, yS, yR, yL, yN, yD, yT, yM, yF, yW, yP) (nI net) p := by
  unfold wpY_depends
  dsimp only
  refine gy_net hm hn (br_f gw_n10 (gy_src hm hW (fun src hsrc e hk => br_f gw_n10 ⟨gw_cnt (gw_sk K) src + 1, ?_⟩) (fun q => br_t rfl (c0 q))))
  rw [e]
  exact gy_dep_l hm hW hs h10 hE hn hsrc hk (c1 src hsrc e hk) (gw_cnt (gw_sk K) src) 0 _ (by omega) (by omega)
theorem gy_tests_l {post : Int32 → SY → Prop} {N net out : Nat} {o : Bool} (hm : m ≤ 32) (hW : gw_W K X Y Z F m) (hs : s = gw_cnt (gw_sk K) m) (h10 : s ≤ 10) (hE : gw_En (gw_sk K) yS m) (hn : net < m) (ho : out < m) (hN : N = 2 ^ s) (h : ∀ A, post (nI (gw_cnt (gw_ts K X Y Z m net out o) N)) (nI m, nI s, nI r, K, X, Y, Z, F, H, A, yO, yS, yR, yL, yN, yD, yT, yM, yF, yW, yP)) : ∀ d a g A, a + d = N → d < g → wY_tests_24 post (nI net) (gw_b o) (nI out) g (nI (gw_cnt (gw_ts K X Y Z m net out o) a)) (nI a) (nI m) (nI s) (nI r) K X Y Z F H A yO yS yR yL yN yD yT yM yF yW yP := by
  have hN2 : N ≤ 1024 := by rw [hN]; exact gw_p10 h10
  have co : (nI out).toNatClampNeg = out := nI_clamp (by omega)
  intro d
  induction d with
  | zero =>
    intro a g A h1 h2
    obtain ⟨g, rfl⟩ := gw_fz h2
    have e : a = N := by omega
    rw [wY_tests_24]
    dsimp only
    rw [gw_pow (by omega), ← hN]
    refine br_t (nI_le (by omega) (by omega)) ?_
    rw [e]
    exact h A
  | succ d ih =>
    intro a g A h1 h2
    obtain ⟨g, rfl⟩ := gw_fz h2
    rw [wY_tests_24]
    dsimp only
    rw [gw_pow (by omega), ← hN]
    refine br_f (nI_ge (by omega) (by omega)) (gy_assign (by omega) hm hW hs h10 hE (fun A' hA => ?_))
    dsimp only
    rw [co, hA out ho]
    refine ⟨vp_in_nI (by omega) (by omega), nm_e (gy_work (sv := gw_sa K a) (f := net) (o := o) hm hW (fun n hn' => nI_eq (by omega) (by omega)) (fun _ => rfl) (fun j hj hk => ?_) (fun A2 hA2 => ?_))⟩
    · rw [hA j hj]
      unfold gw_v
      rw [gw_ev_src hj (by omega) hk]
    · have ihn := ih (a + 1) g A2 (by omega) (by omega)
      dsimp only
      rw [hA2 out ho, gw_b_inj]
      refine ⟨vp_in_nI (by omega) (by omega), br_c (fun e => ?_) (fun e => ?_)⟩
      · have ht : gw_ts K X Y Z m net out o a = false := by unfold gw_ts; rw [e]; exact bne_self_eq_false _
        rw [gw_cnt_f ht] at ihn
        exact nm_r (nI_1 a) ihn
      · have ht : gw_ts K X Y Z m net out o a = true := by unfold gw_ts; exact bne_iff_ne.mpr (fun q => e q.symm)
        rw [gw_cnt_t ht] at ihn
        exact nm_r (nI_1 _) (nm_r (nI_1 a) ihn)
theorem gy_tests {post : Int32 → SY → Prop} {net out : Nat} {o : Bool} (hm : m ≤ 32) (hW : gw_W K X Y Z F m) (hs : s = gw_cnt (gw_sk K) m) (h10 : s ≤ 10) (hE : gw_En (gw_sk K) yS m) (hn : net < m) (ho : out < m) (h : ∀ A, post (nI (gw_cnt (gw_ts K X Y Z m net out o) (2 ^ s))) (nI m, nI s, nI r, K, X, Y, Z, F, H, A, yO, yS, yR, yL, yN, yD, yT, yM, yF, yW, yP)) : wpY_tests post (nI m, nI s, nI r, K, X, Y, Z, F, H, yA, yO, yS, yR, yL, yN, yD, yT, yM, yF, yW, yP) (nI net) (gw_b o) (nI out) := by
  unfold wpY_tests
  dsimp only
  exact gy_net hm hn (br_f gw_n10 (gy_net hm ho (br_f gw_n10 ⟨2 ^ s + 1, gy_tests_l hm hW hs h10 hE hn ho rfl h (2 ^ s) 0 (2 ^ s + 1) yA (by omega) (by omega)⟩)))
end
