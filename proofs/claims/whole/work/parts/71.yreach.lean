/-! which configurations come, in the reference -/
theorem gw_RS_val {E P : Nat → Nat → Prop} {N t c : Nat} {a : Nat → Int32} (h : gw_RS E N t P a) (hc : c < N) : a c = -1 ∨ ∃ k, k ≤ t + 1 ∧ a c = nI k := by
  obtain ⟨h1, h2⟩ := h c hc
  by_cases g : ∃ s, s ≤ t ∧ gw_D E c s
  · obtain ⟨s, hs, hd⟩ := g
    exact Or.inr ⟨s, by omega, h1 s hs hd⟩
  · have h3 := h2 (fun s hs hd => g ⟨s, hs, hd⟩)
    by_cases g2 : ∃ c', gw_D E c' t ∧ P c' c
    · exact Or.inr ⟨t + 1, Nat.le_refl _, h3.1 g2⟩
    · exact Or.inl (h3.2 g2)
theorem gw_RS_neg {E P : Nat → Nat → Prop} {N t c : Nat} {a : Nat → Int32} (h : gw_RS E N t P a) (ht : t + 1 < 2 ^ 31) (hc : c < N) : a c < 0 ↔ a c = -1 := by
  rcases gw_RS_val h hc with e | ⟨k, hk, e⟩
  · rw [e]; decide
  · rw [e]
    exact ⟨fun q => absurd q (nI_pos (by omega)), fun q => absurd q (gw_m1 (by omega))⟩
theorem gw_RS_no {E : Nat → Nat → Prop} {N t c : Nat} {a : Nat → Int32} (h : gw_RS E N t (fun _ _ => False) a) (ht : t + 1 < 2 ^ 31) (hc : c < N) : a c ≠ nI (t + 1) := by
  obtain ⟨h1, h2⟩ := h c hc
  by_cases g : ∃ s, s ≤ t ∧ gw_D E c s
  · obtain ⟨s, hs, hd⟩ := g
    rw [h1 s hs hd]
    intro q
    rw [nI_eq (by omega) (by omega)] at q
    omega
  · have h3 := h2 (fun s hs hd => g ⟨s, hs, hd⟩)
    rw [h3.2 (fun ⟨_, _, f⟩ => f)]
    exact fun q => gw_m1 ht q.symm
/-- a mark of the round is a configuration that comes then -/
theorem gw_RS_now {E : Nat → Nat → Prop} {N t c : Nat} {a : Nat → Int32} (h : gw_RS E N t E a) (ht : t + 1 < 2 ^ 31) (hc : c < N) (e : a c = nI (t + 1)) : gw_D E c (t + 1) := by
  have h1 := gw_RS_next h
  obtain ⟨g1, g2⟩ := h1 c hc
  by_cases g : ∃ s, s ≤ t + 1 ∧ gw_D E c s
  · obtain ⟨s, hs, hd⟩ := g
    have := g1 s hs hd
    rw [e, nI_eq (by omega) (by omega)] at this
    rw [this]; exact hd
  · have h3 := (g2 (fun s hs hd => g ⟨s, hs, hd⟩)).2 (fun ⟨_, _, f⟩ => f)
    rw [e] at h3
    exact absurd h3 (gw_m1 ht)
section
variable {m s r : Nat} {K X Y Z F H yA yO yS yR yL yN yD yT yM yF yW yP : Nat → Int32}
theorem gy_cof_l {post : Int32 → Prop} {a : Nat} (hm : m ≤ 32) (ha : a < 2 ^ 31) (hs : s = gw_cnt (gw_sk K) m) (h10 : s ≤ 10) (hE : gw_En (gw_sk K) yS m) (h : post (nI (gw_pk (fun j => gw_rk K (yS j).toNatClampNeg) (fun j => a.testBit j) s))) : ∀ d i g, i + d = s → d < g → wY_configurationOf_7 post (nI a) (nI m) (nI s) (nI r) K X Y Z F H yA yO yS yR yL yN yD yT yM yF yW yP g (nI (gw_pk (fun j => gw_rk K (yS j).toNatClampNeg) (fun j => a.testBit j) i)) (nI (gw_cnt (fun j => gw_rk K (yS j).toNatClampNeg) i)) (nI i) := by
  intro d
  induction d with
  | zero =>
    intro i g h1 h2
    obtain ⟨g, rfl⟩ := gw_fz h2
    have e : i = s := by omega
    rw [wY_configurationOf_7]
    refine br_t (nI_le (by omega) (by omega)) ?_
    rw [e]
    exact h
  | succ d ih =>
    intro i g h1 h2
    obtain ⟨g, rfl⟩ := gw_fz h2
    have ci : (nI i).toNatClampNeg = i := nI_clamp (by omega)
    obtain ⟨n, hn, hq, hc, e⟩ := gw_En_at hE (show i < gw_cnt (gw_sk K) m by omega)
    have cn : (nI n).toNatClampNeg = n := nI_clamp (by omega)
    have hle := gw_cnt_le (fun j => gw_rk K (yS j).toNatClampNeg) i
    have ihn := ih (i + 1) g (by omega) (by omega)
    rw [wY_configurationOf_7]
    refine br_f (nI_ge (by omega) (by omega)) ⟨vp_in_nI (by omega) (by omega), ?_⟩
    rw [ci, e, cn]
    refine ⟨vp_in_nI (by omega) (by omega), br_c (fun q => ?_) (fun q => ?_)⟩
    · have hqi : gw_rk K (yS i).toNatClampNeg = true := by rw [e, cn]; exact gw_rk_t.mpr q
      rw [gw_pk_t (q := fun j => gw_rk K (yS j).toNatClampNeg) hqi, gw_cnt_t (q := fun j => gw_rk K (yS j).toNatClampNeg) hqi] at ihn
      refine nm_r ?_ (nm_r (nI_1 _) (nm_r (nI_1 i) ihn))
      rw [gw_sbit ha (by omega), gw_or _ _ (by omega)]
    · have hqi : gw_rk K (yS i).toNatClampNeg = false := by rw [e, cn]; exact gw_rk_f.mpr q
      rw [gw_pk_f (q := fun j => gw_rk K (yS j).toNatClampNeg) hqi, gw_cnt_f (q := fun j => gw_rk K (yS j).toNatClampNeg) hqi] at ihn
      exact nm_r (nI_1 i) ihn
theorem gy_cof {post : Int32 → Prop} {a : Nat} (hm : m ≤ 32) (ha : a < 2 ^ 31) (hs : s = gw_cnt (gw_sk K) m) (h10 : s ≤ 10) (hE : gw_En (gw_sk K) yS m) (h : post (nI (gw_co K m a))) : wpY_configurationOf post (nI m, nI s, nI r, K, X, Y, Z, F, H, yA, yO, yS, yR, yL, yN, yD, yT, yM, yF, yW, yP) (nI a) := by
  refine ⟨s + 1, gy_cof_l hm ha hs h10 hE ?_ s 0 (s + 1) (by omega) (by omega)⟩
  have e : gw_pk (fun j => gw_rk K (yS j).toNatClampNeg) (fun j => a.testBit j) s = gw_co K m a := by
    rw [hs]
    refine gw_pk_comp (p := gw_sk K) (q := gw_rk K) (fun n hn hq => ?_) (fun n _ hq => gw_rk_sk hq) (fun n hn hq => rfl)
    show gw_rk K (yS (gw_cnt (gw_sk K) n)).toNatClampNeg = gw_rk K n
    rw [hE n hn hq, nI_clamp (by omega)]
  rw [e]
  exact h
/-- what is shown: nothing for no net -/
def gw_sv (K X Y Z : Nat → Int32) (m : Nat) (x : Int32) (V : Nat → Bool) : Prop := (x < 0 ∧ ∀ b, V b = false) ∨ ∃ net, net < m ∧ x = nI net ∧ ∀ b, V b = gw_T K X Y Z m net b
theorem gy_sp22_l {post : SY → Prop} {J : Int32 → Int32 → Int32 → Int32 → (Nat → Int32) → (Nat → Int32) → (Nat → Int32) → (Nat → Int32) → (Nat → Int32) → (Nat → Int32) → (Nat → Int32) → (Nat → Int32) → (Nat → Int32) → (Nat → Int32) → (Nat → Int32) → (Nat → Int32) → (Nat → Int32) → (Nat → Int32) → (Nat → Int32) → (Nat → Int32) → (Nat → Int32) → (Nat → Int32) → Prop} {a : Nat} {x : Int32} {V : Nat → Bool} (hm : m ≤ 32) (hW : gw_W K X Y Z F m) (ha : a < 1024) (hr : r = gw_cnt (gw_rk K) m) (h6 : r ≤ 6) (hE : gw_En (gw_rk K) yR m) (hx : gw_sv K X Y Z m x V) (hA : ∀ j, j < m → yA j = gw_b (gw_v K X Y Z m (gw_sa K a) j)) (h : J (nI (a + 1)) (nI m) (nI s) (nI r) K X Y Z F H yA yO yS yR yL yN yD yT yM (upd yF a (nI (gw_tk K X Y Z F m (gw_sa K a)))) (upd yW a (gw_b (V a))) yP) : ∀ d i g, i + d = r → d < g → wY_spread_22 post J x (nI a) (nI m) (nI s) (nI r) K X Y Z F H yA yO yS yR yL yN yD yT yM yF yW yP g (nI (gw_pk (fun _ => true) (fun i => gw_v K X Y Z m (gw_sa K a) (F (yR i).toNatClampNeg).toNatClampNeg) i)) (nI i) := by
  have ca : (nI a).toNatClampNeg = a := nI_clamp (by omega)
  have va : vp_in (nI a) 1024 := vp_in_nI (by omega) (by omega)
  intro d
  induction d with
  | zero =>
    intro i g h1 h2
    obtain ⟨g, rfl⟩ := gw_fz h2
    have e : gw_pk (fun _ => true) (fun i => gw_v K X Y Z m (gw_sa K a) (F (yR i).toNatClampNeg).toNatClampNeg) i = gw_tk K X Y Z F m (gw_sa K a) := by
      rw [show i = gw_cnt (gw_rk K) m by omega]
      refine gw_pk_comp (p := gw_rk K) (q := gw_rk K) (fun n _ hq => hq.symm) (fun n _ hq => hq) (fun n hn hq => ?_)
      show gw_v K X Y Z m (gw_sa K a) (F (yR (gw_cnt (gw_rk K) n)).toNatClampNeg).toNatClampNeg = gw_v K X Y Z m (gw_sa K a) (F n).toNatClampNeg
      rw [hE n hn hq, nI_clamp (by omega)]
    rw [wY_spread_22, ca, e]
    refine br_t (nI_le (by omega) (by omega)) ⟨va, nm_e ?_⟩
    rcases hx with ⟨hx, hV⟩ | ⟨net, hn, hx, hV⟩
    · refine br_t hx ⟨va, nm_r ?_ (nm_r (nI_1 a) h)⟩
      rw [hV a]; rfl
    · have cn : (nI net).toNatClampNeg = net := nI_clamp (by omega)
      subst hx
      rw [cn, hA net hn]
      refine br_f (nI_pos (by omega)) ⟨vp_in_nI (by omega) (by omega), ?_⟩
      cases hb : gw_v K X Y Z m (gw_sa K a) net with
      | true =>
        refine br_f (by decide) ⟨va, nm_r ?_ (nm_r (nI_1 a) h)⟩
        rw [hV a, show gw_T K X Y Z m net a = true from hb]; rfl
      | false =>
        refine br_t rfl ⟨va, nm_r ?_ (nm_r (nI_1 a) h)⟩
        rw [hV a, show gw_T K X Y Z m net a = false from hb]; rfl
  | succ d ih =>
    intro i g h1 h2
    obtain ⟨g, rfl⟩ := gw_fz h2
    have ci : (nI i).toNatClampNeg = i := nI_clamp (by omega)
    obtain ⟨n, hn, hq, hcn, e⟩ := gw_En_at hE (show i < gw_cnt (gw_rk K) m by omega)
    have cn : (nI n).toNatClampNeg = n := nI_clamp (by omega)
    obtain ⟨p, hp, ep⟩ := (hW n hn).2.1 (gw_rk_t.mp hq)
    have cp : (nI p).toNatClampNeg = p := nI_clamp (by omega)
    have ihn := ih (i + 1) g (by omega) (by omega)
    rw [gw_pk_t (q := fun _ => true) rfl, gw_cnt_all, e, cn, ep, cp] at ihn
    rw [wY_spread_22]
    refine br_f (nI_ge (by omega) (by omega)) ⟨vp_in_nI (by omega) (by omega), ?_⟩
    rw [ci, e, cn, ep, cp, hA p hp]
    refine ⟨vp_in_nI (by omega) (by omega), vp_in_nI (by omega) (by omega), ?_⟩
    cases hb : gw_v K X Y Z m (gw_sa K a) p with
    | true =>
      rw [hb] at ihn
      exact br_f (by decide) (nm_r (gw_or _ true (by omega)) (nm_r (nI_1 i) ihn))
    | false =>
      rw [hb] at ihn
      exact br_t rfl (nm_r (gw_or _ false (by omega)) (nm_r (nI_1 i) ihn))
theorem gy_sp_l {post : SY → Prop} {N : Nat} {x : Int32} {V : Nat → Bool} (hm : m ≤ 32) (hW : gw_W K X Y Z F m) (hs : s = gw_cnt (gw_sk K) m) (h10 : s ≤ 10) (hS : gw_En (gw_sk K) yS m) (hr : r = gw_cnt (gw_rk K) m) (h6 : r ≤ 6) (hE : gw_En (gw_rk K) yR m) (hx : gw_sv K X Y Z m x V) (hN : N = 2 ^ s) (h : ∀ A B C, (∀ b, b < N → B b = nI (gw_tk K X Y Z F m (gw_sa K b))) → (∀ b, b < N → C b = gw_b (V b)) → post (nI m, nI s, nI r, K, X, Y, Z, F, H, A, yO, yS, yR, yL, yN, yD, yT, yM, B, C, yP)) : ∀ d a g A B C, a + d = N → d < g → (∀ b, b < a → B b = nI (gw_tk K X Y Z F m (gw_sa K b))) → (∀ b, b < a → C b = gw_b (V b)) → wY_spread_2 post x g (nI a) (nI m) (nI s) (nI r) K X Y Z F H A yO yS yR yL yN yD yT yM B C yP := by
  have hN2 : N ≤ 1024 := by rw [hN]; exact gw_p10 h10
  intro d
  induction d with
  | zero =>
    intro a g A B C h1 h2 hB hC
    obtain ⟨g, rfl⟩ := gw_fz h2
    have e : a = N := by omega
    subst e
    rw [wY_spread_2]
    dsimp only
    rw [gw_pow (by omega), ← hN]
    exact br_t (nI_le (by omega) (by omega)) (h A B C hB hC)
  | succ d ih =>
    intro a g A B C h1 h2 hB hC
    obtain ⟨g, rfl⟩ := gw_fz h2
    rw [wY_spread_2]
    dsimp only
    rw [gw_pow (by omega), ← hN]
    refine br_f (nI_ge (by omega) (by omega)) (gy_assign (by omega) hm hW hs h10 hS (fun A' hA => ⟨r + 1, ?_⟩))
    refine gy_sp22_l hm hW (by omega) hr h6 hE hx hA ?_ r 0 (r + 1) (by omega) (by omega)
    refine ih (a + 1) g A' _ _ (by omega) (by omega) (fun b hb => ?_) (fun b hb => ?_)
    · by_cases e : b = a
      · subst e; exact pk_us
      · rw [pk_un e]; exact hB b (by omega)
    · by_cases e : b = a
      · subst e; exact pk_us
      · rw [pk_un e]; exact hC b (by omega)
theorem gy_spread {post : SY → Prop} {x : Int32} {V : Nat → Bool} (hm : m ≤ 32) (hW : gw_W K X Y Z F m) (hs : s = gw_cnt (gw_sk K) m) (h10 : s ≤ 10) (hS : gw_En (gw_sk K) yS m) (hr : r = gw_cnt (gw_rk K) m) (h6 : r ≤ 6) (hE : gw_En (gw_rk K) yR m) (hx : gw_sv K X Y Z m x V) (h : ∀ A B C, (∀ b, b < 2 ^ s → B b = nI (gw_tk K X Y Z F m (gw_sa K b))) → (∀ b, b < 2 ^ s → C b = gw_b (V b)) → post (nI m, nI s, nI r, K, X, Y, Z, F, H, A, yO, yS, yR, yL, yN, yD, yT, yM, B, C, yP)) : wpY_spread post (nI m, nI s, nI r, K, X, Y, Z, F, H, yA, yO, yS, yR, yL, yN, yD, yT, yM, yF, yW, yP) x :=
  ⟨2 ^ s + 1, gy_sp_l hm hW hs h10 hS hr h6 hE hx rfl h (2 ^ s) 0 (2 ^ s + 1) yA yF yW (by omega) (by omega) (fun b hb => absurd hb (Nat.not_lt_zero _)) (fun b hb => absurd hb (Nat.not_lt_zero _))⟩
/-- the edges of the assignments below a -/
def gw_EA (K X Y Z F : Nat → Int32) (m a x y : Nat) : Prop := ∃ b, b < a ∧ gw_co K m b = x ∧ gw_tk K X Y Z F m (gw_sa K b) = y
theorem gw_EA_E {x y : Nat} (hx : x < 2 ^ gw_cnt (gw_rk K) m) : gw_EA K X Y Z F m (2 ^ gw_cnt (gw_sk K) m) x y ↔ gw_E K X Y Z F m (2 ^ gw_q K m) x y := by
  constructor
  · rintro ⟨b, hb, h1, h2⟩
    refine ⟨gw_of K m b, gw_of_lt K m b, ?_⟩
    rw [← h1, gw_stp_a]
    exact h2
  · rintro ⟨w, hw, h1⟩
    refine ⟨gw_jn K m w x, gw_jn_lt K m w x, gw_co_j hx, ?_⟩
    rw [← gw_stp_a, gw_co_j hx, gw_of_j hw]
    exact h1
theorem gw_EA_s {a x y : Nat} : gw_EA K X Y Z F m (a + 1) x y ↔ gw_EA K X Y Z F m a x y ∨ (x = gw_co K m a ∧ y = gw_tk K X Y Z F m (gw_sa K a)) := by
  constructor
  · rintro ⟨b, hb, h1, h2⟩
    rcases Nat.lt_or_ge b a with l | l
    · exact Or.inl ⟨b, l, h1, h2⟩
    · have e : b = a := by omega
      subst e
      exact Or.inr ⟨h1.symm, h2.symm⟩
  · rintro (⟨b, hb, h1, h2⟩ | ⟨h1, h2⟩)
    · exact ⟨b, by omega, h1, h2⟩
    · exact ⟨a, by omega, h1.symm, h2.symm⟩
theorem gy_ex47_l {post : SY → Prop} {J : Int32 → Int32 → (Nat → Int32) → (Nat → Int32) → (Nat → Int32) → (Nat → Int32) → (Nat → Int32) → (Nat → Int32) → (Nat → Int32) → (Nat → Int32) → (Nat → Int32) → (Nat → Int32) → (Nat → Int32) → (Nat → Int32) → (Nat → Int32) → (Nat → Int32) → (Nat → Int32) → (Nat → Int32) → (Nat → Int32) → (Nat → Int32) → Prop} {N Q R t : Nat} (hm : m ≤ 32) (hs : s = gw_cnt (gw_sk K) m) (h10 : s ≤ 10) (hS : gw_En (gw_sk K) yS m) (hr : r = gw_cnt (gw_rk K) m) (h6 : r ≤ 6) (hN : N = 2 ^ s) (hQ : Q = 2 ^ gw_q K m) (hRR : R = 2 ^ r) (ht : t < R) (hB : ∀ b, b < N → yF b = nI (gw_tk K X Y Z F m (gw_sa K b))) (h0 : ∀ M, gw_Fin (gw_E K X Y Z F m Q) R M → (∀ c, R ≤ c → c < 64 → M c = -1) → J 0 (nI (t + 1)) K X Y Z F H yA yO yS yR yL M yD yT yM yF yW yP) (h1 : ∀ M, t + 1 < R → gw_RS (gw_E K X Y Z F m Q) R (t + 1) (fun _ _ => False) M → (∀ c, R ≤ c → c < 64 → M c = -1) → J 1 (nI (t + 1)) K X Y Z F H yA yO yS yR yL M yD yT yM yF yW yP) : ∀ d a g z M, a + d = N → d < g → gw_RS (gw_E K X Y Z F m Q) R t (gw_EA K X Y Z F m a) M → (∀ c, R ≤ c → c < 64 → M c = -1) → ((z = 0 ∧ ∀ c, c < R → M c ≠ nI (t + 1)) ∨ (z = 1 ∧ ∃ c, c < R ∧ M c = nI (t + 1))) → wY_explore_47 post J (nI t) (nI m) (nI s) (nI r) g z (nI a) K X Y Z F H yA yO yS yR yL M yD yT yM yF yW yP := by
  have hN2 : N ≤ 1024 := by rw [hN]; exact gw_p10 h10
  have hR2 : R ≤ 64 := by rw [hRR]; exact gw_p6 h6
  have hElt : ∀ c d, gw_E K X Y Z F m Q c d → d < R := fun c d hh => by rw [hRR, hr]; exact gw_E_lt hh
  intro d
  induction d with
  | zero =>
    intro a g z M e1 e2 hM hhi hz
    obtain ⟨g, rfl⟩ := gw_fz e2
    have e : a = N := by omega
    have hM' : gw_RS (gw_E K X Y Z F m Q) R t (gw_E K X Y Z F m Q) M := by
      rw [e, hN, hs] at hM
      have inR : ∀ x, gw_D (gw_E K X Y Z F m Q) x t → x < 2 ^ gw_cnt (gw_rk K) m := fun x hd => by
        have := gw_R_in (N := R) (by omega) hElt t x hd.1
        rw [hRR, hr] at this
        exact this
      refine gw_RS_congr hM (fun x y p => ?_) (fun x y _ hd p => ?_)
      · obtain ⟨b, hb, h3, h4⟩ := p
        rw [hQ]
        exact (gw_EA_E (by rw [← h3]; exact gw_co_lt K m b)).mp ⟨b, hb, h3, h4⟩
      · rw [hQ] at p
        exact (gw_EA_E (inR x hd)).mpr p
    rw [wY_explore_47]
    rw [gw_pow (by omega), ← hN]
    refine br_t (nI_le (by omega) (by omega)) (nm_r (nI_1 t) ?_)
    rcases hz with ⟨hz, hno⟩ | ⟨hz, c, hc, hc2⟩
    · rw [hz]
      exact h0 M (gw_Fin_stop (by omega) hElt (by omega) hM' hno) hhi
    · rw [hz]
      exact h1 M (gw_D_lt (by omega) hElt (gw_RS_now hM' (by omega) hc hc2)) (gw_RS_next hM') hhi
  | succ d ih =>
    intro a g z M e1 e2 hM hhi hz
    obtain ⟨g, rfl⟩ := gw_fz e2
    have hco : gw_co K m a < R := by rw [hRR, hr]; exact gw_co_lt K m a
    have htk : gw_tk K X Y Z F m (gw_sa K a) < R := by rw [hRR, hr]; exact gw_pk_lt _ _ _
    have cc : (nI (gw_co K m a)).toNatClampNeg = gw_co K m a := nI_clamp (by omega)
    have ck : (nI (gw_tk K X Y Z F m (gw_sa K a))).toNatClampNeg = gw_tk K X Y Z F m (gw_sa K a) := nI_clamp (by omega)
    have ca : (nI a).toNatClampNeg = a := nI_clamp (by omega)
    have vk : vp_in (nI (gw_tk K X Y Z F m (gw_sa K a))) 64 := vp_in_nI (by omega) (by omega)
    have va : vp_in (nI a) 1024 := vp_in_nI (by omega) (by omega)
    rw [wY_explore_47]
    rw [gw_pow (by omega), ← hN]
    refine br_f (nI_ge (by omega) (by omega)) (gy_cof hm (by omega) hs h10 hS ⟨vp_in_nI (by omega) (by omega), ?_⟩)
    rw [cc, ca, hB a (by omega), ck]
    refine br_c (fun q => ⟨va, vk, br_c (fun q2 => ⟨va, vk, ?_⟩) (fun q2 => nm_r (nI_1 a) (ih (a + 1) g z M (by omega) (by omega) ?_ hhi hz))⟩) (fun q => nm_r (nI_1 a) (ih (a + 1) g z M (by omega) (by omega) ?_ hhi hz))
    · rw [gw_RS_neg hM (by omega) htk] at q2
      rw [nI_1 t]
      refine nm_e (nm_r (nI_1 a) (ih (a + 1) g 1 _ (by omega) (by omega) ?_ (fun c hc hc2 => ?_) (Or.inr ⟨rfl, _, htk, pk_us⟩)))
      · exact gw_RS_congr (gw_RS_mark hM (by omega) hco htk q q2) (fun x y p => gw_EA_s.mpr p) (fun x y _ _ p => gw_EA_s.mp p)
      · rw [pk_un (by omega)]; exact hhi c hc hc2
    · rw [gw_RS_neg hM (by omega) htk] at q2
      exact gw_RS_congr (gw_RS_have (c := gw_co K m a) hM q2) (fun x y p => gw_EA_s.mpr p) (fun x y _ _ p => gw_EA_s.mp p)
    · exact gw_RS_congr (gw_RS_skip (d := gw_tk K X Y Z F m (gw_sa K a)) hM hco q) (fun x y p => gw_EA_s.mpr p) (fun x y _ _ p => gw_EA_s.mp p)
theorem gy_ex38_l {post : SY → Prop} {N Q R : Nat} (hm : m ≤ 32) (hs : s = gw_cnt (gw_sk K) m) (h10 : s ≤ 10) (hS : gw_En (gw_sk K) yS m) (hr : r = gw_cnt (gw_rk K) m) (h6 : r ≤ 6) (hN : N = 2 ^ s) (hQ : Q = 2 ^ gw_q K m) (hRR : R = 2 ^ r) (hB : ∀ b, b < N → yF b = nI (gw_tk K X Y Z F m (gw_sa K b))) (h : ∀ M, gw_Fin (gw_E K X Y Z F m Q) R M → (∀ c, R ≤ c → c < 64 → M c = -1) → post (nI m, nI s, nI r, K, X, Y, Z, F, H, yA, yO, yS, yR, yL, M, yD, yT, yM, yF, yW, yP)) : ∀ d t g M, t + d + 1 = R → d + 1 < g → gw_RS (gw_E K X Y Z F m Q) R t (fun _ _ => False) M → (∀ c, R ≤ c → c < 64 → M c = -1) → wY_explore_38 post (nI m) (nI s) (nI r) g 1 (nI t) K X Y Z F H yA yO yS yR yL M yD yT yM yF yW yP := by
  have hN2 : N ≤ 1024 := by rw [hN]; exact gw_p10 h10
  have hR2 : R ≤ 64 := by rw [hRR]; exact gw_p6 h6
  intro d
  induction d with
  | zero =>
    intro t g M e1 e2 hM hhi
    obtain ⟨g, rfl⟩ := gw_fz e2
    obtain ⟨g, rfl⟩ := gw_fz (show 0 < g by omega)
    rw [wY_explore_38]
    refine br_f gw_n10 ⟨N + 1, gy_ex47_l hm hs h10 hS hr h6 hN hQ hRR (by omega) hB (fun M' hF hhi' => ?_) (fun M' hlt => ?_) N 0 (N + 1) 0 M (by omega) (by omega) (gw_RS_congr hM (fun _ _ p => p.elim) (fun x y _ _ p => ?_)) hhi (Or.inl ⟨rfl, fun c hc => gw_RS_no hM (by omega) hc⟩)⟩
    · rw [wY_explore_38]
      exact br_t rfl (h M' hF hhi')
    · omega
    · obtain ⟨b, hb, _⟩ := p
      exact absurd hb (Nat.not_lt_zero _)
  | succ d ih =>
    intro t g M e1 e2 hM hhi
    obtain ⟨g, rfl⟩ := gw_fz e2
    obtain ⟨g, rfl⟩ := gw_fz (show 0 < g by omega)
    rw [wY_explore_38]
    refine br_f gw_n10 ⟨N + 1, gy_ex47_l hm hs h10 hS hr h6 hN hQ hRR (by omega) hB (fun M' hF hhi' => ?_) (fun M' hlt hM' hhi' => ih (t + 1) (g + 1) M' (by omega) (by omega) hM' hhi') N 0 (N + 1) 0 M (by omega) (by omega) (gw_RS_congr hM (fun _ _ p => p.elim) (fun x y _ _ p => ?_)) hhi (Or.inl ⟨rfl, fun c hc => gw_RS_no hM (by omega) hc⟩)⟩
    · rw [wY_explore_38]
      exact br_t rfl (h M' hF hhi')
    · obtain ⟨b, hb, _⟩ := p
      exact absurd hb (Nat.not_lt_zero _)
theorem gy_ex7_l {post : SY → Prop} {N Q R : Nat} (hm : m ≤ 32) (hs : s = gw_cnt (gw_sk K) m) (h10 : s ≤ 10) (hS : gw_En (gw_sk K) yS m) (hr : r = gw_cnt (gw_rk K) m) (h6 : r ≤ 6) (hN : N = 2 ^ s) (hQ : Q = 2 ^ gw_q K m) (hRR : R = 2 ^ r) (hB : ∀ b, b < N → yF b = nI (gw_tk K X Y Z F m (gw_sa K b))) (h : ∀ M, gw_Fin (gw_E K X Y Z F m Q) R M → (∀ c, R ≤ c → c < 64 → M c = -1) → post (nI m, nI s, nI r, K, X, Y, Z, F, H, yA, yO, yS, yR, yL, M, yD, yT, yM, yF, yW, yP)) : ∀ d c g M, c + d = 64 → d < g → (∀ x, x < c → M x = if x = 0 then 0 else -1) → wY_explore_7 post (nI m) (nI s) (nI r) g (nI c) K X Y Z F H yA yO yS yR yL M yD yT yM yF yW yP := by
  have hR2 : R ≤ 64 := by rw [hRR]; exact gw_p6 h6
  have hR0 : 0 < R := by rw [hRR]; exact Nat.two_pow_pos r
  intro d
  induction d with
  | zero =>
    intro c g M e1 e2 hM
    obtain ⟨g, rfl⟩ := gw_fz e2
    rw [wY_explore_7]
    refine br_t (nI_le (a := 64) (by omega) (by omega)) ⟨R + 1, gy_ex38_l hm hs h10 hS hr h6 hN hQ hRR hB h (R - 1) 0 (R + 1) M (by omega) (by omega) (gw_RS_0 ?_ (fun x hx h0 => ?_)) (fun x h1 h2 => ?_)⟩
    · rw [hM 0 (by omega), if_pos rfl]
    · rw [hM x (by omega), if_neg h0]
    · rw [hM x (by omega), if_neg (by omega)]
  | succ d ih =>
    intro c g M e1 e2 hM
    obtain ⟨g, rfl⟩ := gw_fz e2
    have cc : (nI c).toNatClampNeg = c := nI_clamp (by omega)
    have vc : vp_in (nI c) 64 := vp_in_nI (by omega) (by omega)
    have next : ∀ z : Int32, z = (if c = 0 then 0 else -1) → wY_explore_7 post (nI m) (nI s) (nI r) g (nI (c + 1)) K X Y Z F H yA yO yS yR yL (upd M c z) yD yT yM yF yW yP := by
      intro z hz
      refine ih (c + 1) g _ (by omega) (by omega) (fun x hx => ?_)
      by_cases e : x = c
      · subst e; rw [pk_us, hz]
      · rw [pk_un e]; exact hM x (by omega)
    rw [wY_explore_7]
    refine br_f (nI_ge (b := 64) (by omega) (by decide)) ?_
    rw [cc]
    by_cases c0 : c = 0
    · exact br_t (by rw [c0]; rfl) ⟨vc, nm_e (nm_r (nI_1 c) (next 0 (by rw [if_pos c0])))⟩
    · exact br_f (fun q => c0 ((nI_eq (b := 0) (by omega) (by decide)).mp q)) ⟨vc, nm_e (nm_r (nI_1 c) (next (-1) (by rw [if_neg c0])))⟩
theorem gy_explore {post : SY → Prop} {x : Int32} {V : Nat → Bool} (hm : m ≤ 32) (hW : gw_W K X Y Z F m) (hs : s = gw_cnt (gw_sk K) m) (h10 : s ≤ 10) (hS : gw_En (gw_sk K) yS m) (hr : r = gw_cnt (gw_rk K) m) (h6 : r ≤ 6) (hE : gw_En (gw_rk K) yR m) (hx : gw_sv K X Y Z m x V) (h : ∀ A B C M, (∀ b, b < 2 ^ s → C b = gw_b (V b)) → gw_Fin (gw_E K X Y Z F m (2 ^ gw_q K m)) (2 ^ r) M → (∀ c, 2 ^ r ≤ c → c < 64 → M c = -1) → post (nI m, nI s, nI r, K, X, Y, Z, F, H, A, yO, yS, yR, yL, M, yD, yT, yM, B, C, yP)) : wpY_explore post (nI m, nI s, nI r, K, X, Y, Z, F, H, yA, yO, yS, yR, yL, yN, yD, yT, yM, yF, yW, yP) x := by
  unfold wpY_explore
  dsimp only
  refine gy_spread hm hW hs h10 hS hr h6 hE hx (fun A B C hB hC => ⟨65, ?_⟩)
  exact gy_ex7_l hm hs h10 hS hr h6 rfl rfl rfl hB (fun M hM hhi => h A B C M hC hM hhi) 64 0 65 yN (by omega) (by omega) (fun x hx => absurd hx (Nat.not_lt_zero _))
end
