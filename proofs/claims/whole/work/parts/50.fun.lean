/-! value, count, witness, same, depends, tests -/
theorem gw_p10 {s : Nat} (h : s ≤ 10) : 2 ^ s ≤ 1024 := Nat.le_trans (Nat.pow_le_pow_right (by omega) h) (by decide)
theorem gw_p6 {r : Nat} (h : r ≤ 6) : 2 ^ r ≤ 64 := Nat.le_trans (Nat.pow_le_pow_right (by omega) h) (by decide)
theorem gw_or1 (A : Nat) {p : Nat} (hp : p < 32) : nI A ||| ((1 : Int32) <<< (nI p &&& 31)) = nI (A ||| 2 ^ p) := by
  have h := gw_or A true hp
  rw [show Bool.toNat true = 1 from rfl, Nat.one_shiftLeft] at h
  exact h
/-- the function of a net -/
def gw_T (K X Y Z : Nat → Int32) (m net a : Nat) : Bool := gw_v K X Y Z m (gw_sa K a) net
/-- r is the first a from lo on with T, below N -/
def gw_Fs (T : Nat → Bool) (lo N : Nat) (r : Int32) : Prop := (∃ a, lo ≤ a ∧ a < N ∧ T a = true ∧ (∀ b, lo ≤ b → b < a → T b = false) ∧ r = nI a) ∨ ((∀ b, lo ≤ b → b < N → T b = false) ∧ r = -1)
theorem gw_Fs_u {T : Nat → Bool} {lo N : Nat} {r r' : Int32} (h : gw_Fs T lo N r) (g : gw_Fs T lo N r') : r = r' := by
  rcases h with ⟨a, h1, h2, h3, h4, h5⟩ | ⟨h1, h2⟩ <;> rcases g with ⟨b, g1, g2, g3, g4, g5⟩ | ⟨g1, g2⟩
  · rcases Nat.lt_trichotomy a b with e | e | e
    · rw [g4 a h1 e] at h3; exact absurd h3 Bool.false_ne_true
    · rw [h5, g5, e]
    · rw [h4 b g1 e] at g3; exact absurd g3 Bool.false_ne_true
  · rw [g1 a h1 h2] at h3; exact absurd h3 Bool.false_ne_true
  · rw [h1 b g1 g2] at g3; exact absurd g3 Bool.false_ne_true
  · rw [h2, g2]
section
variable {m s r : Nat} {tl pe : Int32} {K X Y Z F H xO xN xC xS xL xE xG xW xM xP : Nat → Int32}
theorem gx_value {post : Int32 → Prop} {n : Nat} (hm : m ≤ 32) (hW : gw_W K X Y Z F m) (h01 : gw_01 H) (hn : n < m) (h : post (gw_b (gw_v K X Y Z m (gw_hs H) n))) : wpX_value post (nI m, nI s, nI r, tl, pe, K, X, Y, Z, F, H, xO, xN, xC, xS, xL, xE, xG, xW, xM, xP) (nI n) := by
  unfold wpX_value
  dsimp only
  refine gx_net hm hn (br_f gw_n10 (gx_pres hm h01 (gx_v hm hW (fun v hv => gx_bit (by omega) ?_))))
  rw [hv n (by omega), gw_v_congr (s' := gw_hs H) (fun j hj hs => gw_sa_a0 hj hs)]
  exact h
theorem gx_tab_l {post : SX → Prop} {net N : Nat} (hm : m ≤ 32) (hW : gw_W K X Y Z F m) (hn : net < m) (hN : N ≤ 1024) (h : ∀ O, (∀ a, a < N → O a = gw_b (gw_T K X Y Z m net a)) → post (nI m, nI s, nI r, tl, pe, K, X, Y, Z, F, H, O, xN, xC, xS, xL, xE, xG, xW, xM, xP)) : ∀ d a g O, a + d = N → d < g → (∀ b, b < a → O b = gw_b (gw_T K X Y Z m net b)) → wX_tabulate_9 post (nI net) (nI N) (nI m) (nI s) (nI r) tl pe g (nI a) K X Y Z F H O xN xC xS xL xE xG xW xM xP := by
  intro d
  induction d with
  | zero =>
    intro a g O h1 h2 hO
    obtain ⟨g, rfl⟩ := gw_fz h2
    have e : a = N := by omega
    rw [wX_tabulate_9]
    refine br_t (nI_le (by omega) (by omega)) (h O ?_)
    rw [← e]
    exact hO
  | succ d ih =>
    intro a g O h1 h2 hO
    obtain ⟨g, rfl⟩ := gw_fz h2
    have ca : (nI a).toNatClampNeg = a := nI_clamp (by omega)
    have va : vp_in (nI a) 1024 := vp_in_nI (by omega) (by omega)
    have next : wX_tabulate_9 post (nI net) (nI N) (nI m) (nI s) (nI r) tl pe g (nI (a + 1)) K X Y Z F H (upd O a (gw_b (gw_T K X Y Z m net a))) xN xC xS xL xE xG xW xM xP := by
      refine ih (a + 1) g _ (by omega) (by omega) (fun b hb => ?_)
      by_cases e : b = a
      · subst e; exact pk_us
      · rw [pk_un e]; exact hO b (by omega)
    rw [wX_tabulate_9]
    refine br_f (nI_ge (by omega) (by omega)) (gx_v hm hW (fun v hv => gx_bit (by omega) ?_))
    rw [hv net (by omega), ca]
    cases hb : gw_v K X Y Z m (gw_sa K a) net with
    | true =>
      refine br_t rfl ⟨va, nm_r (e' := upd O a (gw_b (gw_T K X Y Z m net a))) ?_ (nm_r (nI_1 a) next)⟩
      unfold gw_T
      rw [hb]; rfl
    | false =>
      refine br_f (by decide) ⟨va, nm_r (e' := upd O a (gw_b (gw_T K X Y Z m net a))) ?_ (nm_r (nI_1 a) next)⟩
      unfold gw_T
      rw [hb]; rfl
theorem gx_tab {post : SX → Prop} {net : Nat} (hm : m ≤ 32) (hW : gw_W K X Y Z F m) (hn : net < m) (h10 : s ≤ 10) (h : ∀ O, (∀ a, a < 2 ^ s → O a = gw_b (gw_T K X Y Z m net a)) → post (nI m, nI s, nI r, tl, pe, K, X, Y, Z, F, H, O, xN, xC, xS, xL, xE, xG, xW, xM, xP)) : wpX_tabulate post (nI m, nI s, nI r, tl, pe, K, X, Y, Z, F, H, xO, xN, xC, xS, xL, xE, xG, xW, xM, xP) (nI net) := by
  unfold wpX_tabulate
  dsimp only
  exact nm_r (gw_pow (by omega)) ⟨2 ^ s + 1, gx_tab_l hm hW hn (gw_p10 h10) h (2 ^ s) 0 (2 ^ s + 1) xO (by omega) (by omega) (fun b hb => absurd hb (Nat.not_lt_zero _))⟩
theorem gx_count_l {post : Int32 → SX → Prop} {N : Nat} {T : Nat → Bool} (hN : N ≤ 1024) (hO : ∀ a, a < N → xO a = gw_b (T a)) (h : post (nI (gw_cnt T N)) (nI m, nI s, nI r, tl, pe, K, X, Y, Z, F, H, xO, xN, xC, xS, xL, xE, xG, xW, xM, xP)) : ∀ d a g, a + d = N → d < g → wX_count_27 post (nI N) (nI m) (nI s) (nI r) tl pe K X Y Z F H xO xN xC xS xL xE xG xW xM xP g (nI (gw_cnt T a)) (nI a) := by
  intro d
  induction d with
  | zero =>
    intro a g h1 h2
    obtain ⟨g, rfl⟩ := gw_fz h2
    have e : a = N := by omega
    rw [wX_count_27]
    refine br_t (nI_le (by omega) (by omega)) ?_
    rw [e]
    exact h
  | succ d ih =>
    intro a g h1 h2
    obtain ⟨g, rfl⟩ := gw_fz h2
    have ca : (nI a).toNatClampNeg = a := nI_clamp (by omega)
    have va : vp_in (nI a) 1024 := vp_in_nI (by omega) (by omega)
    have ihn := ih (a + 1) g (by omega) (by omega)
    rw [wX_count_27]
    refine br_f (nI_ge (by omega) (by omega)) ⟨va, ?_⟩
    rw [ca, hO a (by omega)]
    cases hb : T a with
    | true =>
      rw [gw_cnt_t hb] at ihn
      exact br_f (by decide) (nm_r (nI_1 _) (nm_r (nI_1 a) ihn))
    | false =>
      rw [gw_cnt_f hb] at ihn
      exact br_t rfl (nm_r (nI_1 a) ihn)
theorem gx_count {post : Int32 → SX → Prop} {n : Nat} (hm : m ≤ 32) (hW : gw_W K X Y Z F m) (hn : n < m) (h10 : s ≤ 10) (h : ∀ O, post (nI (gw_cnt (gw_T K X Y Z m n) (2 ^ s))) (nI m, nI s, nI r, tl, pe, K, X, Y, Z, F, H, O, xN, xC, xS, xL, xE, xG, xW, xM, xP)) : wpX_count post (nI m, nI s, nI r, tl, pe, K, X, Y, Z, F, H, xO, xN, xC, xS, xL, xE, xG, xW, xM, xP) (nI n) := by
  unfold wpX_count
  dsimp only
  refine gx_net hm hn (br_f gw_n10 (gx_tab hm hW hn h10 (fun O hO => ?_)))
  exact nm_r (gw_pow (by omega)) ⟨2 ^ s + 1, gx_count_l (gw_p10 h10) hO (h O) (2 ^ s) 0 (2 ^ s + 1) (by omega) (by omega)⟩
theorem gx_wit_l {post : Int32 → SX → Prop} {N lo : Nat} {T : Nat → Bool} (hN : N ≤ 1024) (hO : ∀ a, a < N → xO a = gw_b (T a)) (h : ∀ z, gw_Fs T lo N z → post z (nI m, nI s, nI r, tl, pe, K, X, Y, Z, F, H, xO, xN, xC, xS, xL, xE, xG, xW, xM, xP)) : ∀ d a g, N - a ≤ d → d < g → a < 2 ^ 31 → lo ≤ a → (∀ b, lo ≤ b → b < a → b < N → T b = false) → wX_witness_33 post (nI N) (nI m) (nI s) (nI r) tl pe K X Y Z F H xO xN xC xS xL xE xG xW xM xP g (nI a) := by
  intro d
  induction d with
  | zero =>
    intro a g h1 h2 h3 h4 h5
    obtain ⟨g, rfl⟩ := gw_fz h2
    rw [wX_witness_33]
    exact br_t (nI_le (by omega) (by omega)) (h (-1) (Or.inr ⟨fun b hb hb2 => h5 b hb (by omega) hb2, rfl⟩))
  | succ d ih =>
    intro a g h1 h2 h3 h4 h5
    obtain ⟨g, rfl⟩ := gw_fz h2
    rw [wX_witness_33]
    rcases Nat.lt_or_ge a N with c | c
    · have ca : (nI a).toNatClampNeg = a := nI_clamp (by omega)
      have va : vp_in (nI a) 1024 := vp_in_nI (by omega) (by omega)
      refine br_f (nI_ge (by omega) (by omega)) ⟨va, ?_⟩
      rw [ca, hO a (by omega)]
      cases hb : T a with
      | true => exact br_f (by decide) (h (nI a) (Or.inl ⟨a, h4, c, hb, fun b hb1 hb2 => h5 b hb1 hb2 (by omega), rfl⟩))
      | false =>
        refine br_t rfl (nm_r (nI_1 a) (ih (a + 1) g (by omega) (by omega) (by omega) (by omega) (fun b hb1 hb2 hb3 => ?_)))
        by_cases e : b = a
        · rw [e]; exact hb
        · exact h5 b hb1 (by omega) hb3
    · exact br_t (nI_le (by omega) (by omega)) (h (-1) (Or.inr ⟨fun b hb hb2 => h5 b hb (by omega) hb2, rfl⟩))
theorem gx_wit {post : Int32 → SX → Prop} {n lo : Nat} {p : Int32} (hm : m ≤ 32) (hW : gw_W K X Y Z F m) (hn : n < m) (h10 : s ≤ 10) (hl : lo < 2 ^ 31) (hp : (0 ≤ p ∧ p = nI lo) ∨ (¬ 0 ≤ p ∧ lo = 0)) (h : ∀ O z, gw_Fs (gw_T K X Y Z m n) lo (2 ^ s) z → post z (nI m, nI s, nI r, tl, pe, K, X, Y, Z, F, H, O, xN, xC, xS, xL, xE, xG, xW, xM, xP)) : wpX_witness post (nI m, nI s, nI r, tl, pe, K, X, Y, Z, F, H, xO, xN, xC, xS, xL, xE, xG, xW, xM, xP) (nI n) p := by
  unfold wpX_witness
  dsimp only
  refine gx_net hm hn (br_f gw_n10 (gx_tab hm hW hn h10 (fun O hO => nm_r (gw_pow (by omega)) ?_)))
  have go := gx_wit_l (tl := tl) (pe := pe) (m := m) (s := s) (r := r) (K := K) (X := X) (Y := Y) (Z := Z) (F := F) (H := H) (xN := xN) (xC := xC) (xS := xS) (xL := xL) (xE := xE) (xG := xG) (xW := xW) (xM := xM) (xP := xP) (lo := lo) (gw_p10 h10) hO (h O) (2 ^ s) lo (2 ^ s + 1) (Nat.sub_le _ _) (by omega) hl (Nat.le_refl _) (fun b h1 h2 _ => absurd h2 (by omega))
  rcases hp with ⟨h0, e⟩ | ⟨h0, e⟩
  · rw [e] at h0 ⊢
    exact br_t h0 ⟨_, go⟩
  · subst e
    exact br_f h0 ⟨_, go⟩
theorem gx_same_l {post : Int32 → Prop} {N a b : Nat} (hm : m ≤ 32) (hW : gw_W K X Y Z F m) (ha : a < m) (hb : b < m) (hN : N ≤ 1024) (h : ∀ z, gw_tv (∀ j, j < N → gw_T K X Y Z m a j = gw_T K X Y Z m b j) z → post z) : ∀ d j g, j + d = N → d < g → (∀ i, i < j → gw_T K X Y Z m a i = gw_T K X Y Z m b i) → wX_same_28 post (nI a) (nI b) (nI N) (nI m) (nI s) (nI r) tl pe K X Y Z F H xO xN xC xS xL xE xG xW xM xP g (nI j) := by
  intro d
  induction d with
  | zero =>
    intro j g h1 h2 h3
    obtain ⟨g, rfl⟩ := gw_fz h2
    have e : j = N := by omega
    rw [wX_same_28]
    refine br_t (nI_le (by omega) (by omega)) (h 1 (gw_tv_t ?_))
    rw [← e]
    exact h3
  | succ d ih =>
    intro j g h1 h2 h3
    obtain ⟨g, rfl⟩ := gw_fz h2
    rw [wX_same_28]
    refine br_f (nI_ge (by omega) (by omega)) (gx_v hm hW (fun v hv => gx_bit (by omega) (gx_bit (by omega) ?_)))
    rw [hv a (by omega), hv b (by omega), gw_b_inj]
    refine br_c (fun e => nm_r (nI_1 j) (ih (j + 1) g (by omega) (by omega) (lt_s h3 e))) (fun e => h 0 (gw_tv_f (fun q => e (q j (by omega)))))
theorem gx_same {post : Int32 → Prop} {a b : Nat} (hm : m ≤ 32) (hW : gw_W K X Y Z F m) (ha : a < m) (hb : b < m) (h10 : s ≤ 10) (h : ∀ z, gw_tv (∀ j, j < 2 ^ s → gw_T K X Y Z m a j = gw_T K X Y Z m b j) z → post z) : wpX_same post (nI m, nI s, nI r, tl, pe, K, X, Y, Z, F, H, xO, xN, xC, xS, xL, xE, xG, xW, xM, xP) (nI a) (nI b) := by
  unfold wpX_same
  dsimp only
  refine gx_net hm ha (br_f gw_n10 (gx_net hm hb (br_f gw_n10 (nm_r (gw_pow (by omega)) ⟨2 ^ s + 1, ?_⟩))))
  exact gx_same_l hm hW ha hb (gw_p10 h10) h (2 ^ s) 0 (2 ^ s + 1) (by omega) (by omega) (fun i hi => absurd hi (Nat.not_lt_zero _))
theorem gx_felt_l {post : Int32 → Prop} {N p : Nat} {T : Nat → Bool} (hN : N ≤ 1024) (hx : ∀ a, a < N → a ^^^ 2 ^ p < N) (hO : ∀ a, a < N → xO a = gw_b (T a)) (h : ∀ z, gw_tv (∃ a, a < N ∧ T a ≠ T (a ^^^ 2 ^ p)) z → post z) : ∀ d a g, a + d = N → d < g → (∀ b, b < a → T b = T (b ^^^ 2 ^ p)) → wX_isFeltAt_14 post (nI N) (nI (2 ^ p)) (nI m) (nI s) (nI r) tl pe K X Y Z F H xO xN xC xS xL xE xG xW xM xP g (nI a) := by
  intro d
  induction d with
  | zero =>
    intro a g h1 h2 h3
    obtain ⟨g, rfl⟩ := gw_fz h2
    have e : a = N := by omega
    rw [wX_isFeltAt_14]
    refine br_t (nI_le (by omega) (by omega)) (h 0 (gw_tv_f ?_))
    rintro ⟨b, h4, h5⟩
    exact h5 (h3 b (by omega))
  | succ d ih =>
    intro a g h1 h2 h3
    obtain ⟨g, rfl⟩ := gw_fz h2
    have hx' := hx a (by omega)
    have ca : (nI a).toNatClampNeg = a := nI_clamp (by omega)
    have va : vp_in (nI a) 1024 := vp_in_nI (by omega) (by omega)
    have cx : (nI (a ^^^ 2 ^ p)).toNatClampNeg = a ^^^ 2 ^ p := nI_clamp (by omega)
    have vx : vp_in (nI (a ^^^ 2 ^ p)) 1024 := vp_in_nI (by omega) (by omega)
    rw [wX_isFeltAt_14]
    dsimp only
    rw [nx_xor, ca, cx, hO a (by omega), hO _ hx', gw_b_inj]
    refine br_f (nI_ge (by omega) (by omega)) ⟨va, vx, br_c (fun e => nm_r (nI_1 a) (ih (a + 1) g (by omega) (by omega) (lt_s h3 e))) (fun e => h 1 (gw_tv_t ⟨a, by omega, e⟩))⟩
theorem gx_felt {post : Int32 → Prop} {p : Nat} {T : Nat → Bool} (h10 : s ≤ 10) (hp : p < s) (hO : ∀ a, a < 2 ^ s → xO a = gw_b (T a)) (h : ∀ z, gw_tv (∃ a, a < 2 ^ s ∧ T a ≠ T (a ^^^ 2 ^ p)) z → post z) : wpX_isFeltAt post (nI m, nI s, nI r, tl, pe, K, X, Y, Z, F, H, xO, xN, xC, xS, xL, xE, xG, xW, xM, xP) (nI p) := by
  unfold wpX_isFeltAt
  dsimp only
  refine nm_r (gw_pow (by omega)) (nm_r (gw_pow (by omega)) ⟨2 ^ s + 1, ?_⟩)
  exact gx_felt_l (gw_p10 h10) (fun a ha => Nat.xor_lt_two_pow ha (Nat.pow_lt_pow_right (by omega) hp)) hO h (2 ^ s) 0 (2 ^ s + 1) (by omega) (by omega) (fun b hb => absurd hb (Nat.not_lt_zero _))
theorem gx_dep_l {post : Int32 → SX → Prop} {net src : Nat} (hm : m ≤ 32) (hW : gw_W K X Y Z F m) (hn : net < m) (hsrc : src < m) (hs : s = gw_cnt (gw_sk K) m) (h10 : s ≤ 10) (hk : gw_sk K src = true) (h : ∀ O z, gw_tv (∃ a, a < 2 ^ s ∧ gw_T K X Y Z m net a ≠ gw_T K X Y Z m net (a ^^^ 2 ^ gw_cnt (gw_sk K) src)) z → post z (nI m, nI s, nI r, tl, pe, K, X, Y, Z, F, H, O, xN, xC, xS, xL, xE, xG, xW, xM, xP)) : ∀ d n g, n + d = src → d < g → wX_depends_23 post (nI net) (nI src) (nI m) (nI s) (nI r) tl pe K X Y Z F H xO xN xC xS xL xE xG xW xM xP g (nI (gw_cnt (gw_sk K) n)) (nI n) := by
  intro d
  induction d with
  | zero =>
    intro n g h1 h2
    obtain ⟨g, rfl⟩ := gw_fz h2
    have e : n = src := by omega
    have hp : gw_cnt (gw_sk K) src < s := by rw [hs]; exact gw_cnt_lt hk hsrc
    rw [wX_depends_23]
    refine br_t (nI_le (by omega) (by omega)) (gx_tab hm hW hn h10 (fun O hO => ?_))
    dsimp only
    rw [e]
    exact gx_felt h10 hp hO (fun z hz => ⟨gw_nb (gw_tv_01 hz), h O z hz⟩)
  | succ d ih =>
    intro n g h1 h2
    obtain ⟨g, rfl⟩ := gw_fz h2
    have cn : (nI n).toNatClampNeg = n := nI_clamp (by omega)
    have vn : vp_in (nI n) 32 := vp_in_nI (by omega) (by omega)
    have ihn := ih (n + 1) g (by omega) (by omega)
    rw [wX_depends_23]
    refine br_f (nI_ge (by omega) (by omega)) ⟨vn, gx_sk (fun hk => br_f gw_n10 (nm_r (nI_1 _) (nm_r (nI_1 n) ?_))) (fun hk => br_t rfl (nm_r (nI_1 n) ?_))⟩
    · rw [cn] at hk
      rw [gw_cnt_t (gw_sk_t.mpr hk)] at ihn
      exact ihn
    · rw [cn] at hk
      rw [gw_cnt_f (gw_sk_f.mpr hk)] at ihn
      exact ihn
theorem gx_dep {post : Int32 → SX → Prop} {net : Nat} {p : Int32} (hm : m ≤ 32) (hW : gw_W K X Y Z F m) (hn : net < m) (hs : s = gw_cnt (gw_sk K) m) (h10 : s ≤ 10) (c0 : (∀ n, n < m → p = nI n → gw_sk K n = false) → post 0 (nI m, nI s, nI r, tl, pe, K, X, Y, Z, F, H, xO, xN, xC, xS, xL, xE, xG, xW, xM, xP)) (c1 : ∀ src, src < m → p = nI src → gw_sk K src = true → ∀ O z, gw_tv (∃ a, a < 2 ^ s ∧ gw_T K X Y Z m net a ≠ gw_T K X Y Z m net (a ^^^ 2 ^ gw_cnt (gw_sk K) src)) z → post z (nI m, nI s, nI r, tl, pe, K, X, Y, Z, F, H, O, xN, xC, xS, xL, xE, xG, xW, xM, xP)) : wpX_depends post (nI m, nI s, nI r, tl, pe, K, X, Y, Z, F, H, xO, xN, xC, xS, xL, xE, xG, xW, xM, xP) (nI net) p := by
  unfold wpX_depends
  dsimp only
  refine gx_net hm hn (br_f gw_n10 (gx_src hm (fun src hsrc e hk => br_f gw_n10 ⟨src + 1, ?_⟩) (fun q => br_t rfl (c0 q))))
  rw [e]
  exact gx_dep_l hm hW hn hsrc hs h10 hk (c1 src hsrc e hk) src 0 (src + 1) (by omega) (by omega)
/-- the tests of a fault -/
def gw_ts (K X Y Z : Nat → Int32) (m net out : Nat) (o : Bool) (a : Nat) : Bool := gw_v K X Y Z m (gw_sa K a) out != gw_ev K X Y Z (gw_sa K a) net o m out
theorem gx_tests_l {post : Int32 → Prop} {N net out : Nat} {o : Bool} (hm : m ≤ 32) (hW : gw_W K X Y Z F m) (hn : net < m) (ho : out < m) (hN : N ≤ 1024) (h : post (nI (gw_cnt (gw_ts K X Y Z m net out o) N))) : ∀ d a g, a + d = N → d < g → wX_tests_43 post (nI net) (nI out) (gw_b o) (nI N) (nI m) (nI s) (nI r) tl pe K X Y Z F H xO xN xC xS xL xE xG xW xM xP g (nI (gw_cnt (gw_ts K X Y Z m net out o) a)) (nI a) := by
  intro d
  induction d with
  | zero =>
    intro a g h1 h2
    obtain ⟨g, rfl⟩ := gw_fz h2
    have e : a = N := by omega
    rw [wX_tests_43]
    refine br_t (nI_le (by omega) (by omega)) ?_
    rw [e]
    exact h
  | succ d ih =>
    intro a g h1 h2
    obtain ⟨g, rfl⟩ := gw_fz h2
    have ihn := ih (a + 1) g (by omega) (by omega)
    rw [wX_tests_43]
    refine br_f (nI_ge (by omega) (by omega)) (gx_v hm hW (fun v hv => gx_val (f := net) (o := o) hm hW (fun n hn' => nI_eq (by omega) (by omega)) (fun _ => rfl) (fun w hw => gx_bit (by omega) (gx_bit (by omega) ?_))))
    rw [hv out (by omega), hw out (by omega), gw_b_inj]
    refine br_c (fun e => ?_) (fun e => ?_)
    · have ht : gw_ts K X Y Z m net out o a = false := by unfold gw_ts; rw [e]; exact bne_self_eq_false _
      rw [gw_cnt_f ht] at ihn
      exact nm_r (nI_1 a) ihn
    · have ht : gw_ts K X Y Z m net out o a = true := by unfold gw_ts; exact bne_iff_ne.mpr e
      rw [gw_cnt_t ht] at ihn
      exact nm_r (nI_1 _) (nm_r (nI_1 a) ihn)
theorem gx_tests {post : Int32 → Prop} {net out : Nat} {o : Bool} (hm : m ≤ 32) (hW : gw_W K X Y Z F m) (hn : net < m) (ho : out < m) (h10 : s ≤ 10) (h : post (nI (gw_cnt (gw_ts K X Y Z m net out o) (2 ^ s)))) : wpX_tests post (nI m, nI s, nI r, tl, pe, K, X, Y, Z, F, H, xO, xN, xC, xS, xL, xE, xG, xW, xM, xP) (nI net) (gw_b o) (nI out) := by
  unfold wpX_tests
  dsimp only
  have go := gx_tests_l (tl := tl) (pe := pe) (s := s) (r := r) (H := H) (xO := xO) (xN := xN) (xC := xC) (xS := xS) (xL := xL) (xE := xE) (xG := xG) (xW := xW) (xM := xM) (xP := xP) hm hW hn ho (gw_p10 h10) h (2 ^ s) 0 (2 ^ s + 1) (by omega) (by omega)
  refine gx_net hm hn (br_f gw_n10 (gx_net hm ho (br_f gw_n10 ?_)))
  cases o with
  | true => exact br_f (by decide) (nm_r (gw_pow (by omega)) ⟨_, go⟩)
  | false => exact br_t rfl (nm_r (gw_pow (by omega)) ⟨_, go⟩)
end
