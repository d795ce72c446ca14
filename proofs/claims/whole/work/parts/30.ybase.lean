/-! the reference's private methods: nets, fits, order, values -/
theorem gw_blc {x : Int32} {L : Nat} {A B : Prop} (hL : L < 2 ^ 31) (f : gw_bl x L → B) (g : ¬ gw_bl x L → A) : (x < 0 → A) ∧ (¬ x < 0 → ((nI L ≤ x → A) ∧ (¬ nI L ≤ x → B))) := by
  refine br_c (fun h => g (fun b => ?_)) (fun h => br_c (fun h2 => g (fun b => ?_)) (fun h2 => f ?_))
  · exact absurd h (Int32.not_lt.mpr ((gw_bl_iff hL).mp b).1)
  · exact absurd ((gw_bl_iff hL).mp b).2 (Int32.not_lt.mpr h2)
  · exact (gw_bl_iff hL).mpr ⟨Int32.not_lt.mp h, Int32.not_le.mp h2⟩
theorem gw_fit2 {x y z : Int32} {L : Nat} : gw_fit 2 x y z L ↔ (x = 0 ∨ x = 1) := by
  constructor
  · rintro (h | h | ⟨_, g⟩ | ⟨h, _⟩ | ⟨h, _⟩ | ⟨h, _⟩)
    · exact absurd h (by decide)
    · exact absurd h (by decide)
    · exact g
    · exact absurd h (by decide)
    · exact absurd h (by decide)
    · exact absurd h (by decide)
  · exact fun g => Or.inr (Or.inr (Or.inl ⟨rfl, g⟩))
theorem gw_fit3 {x y z : Int32} {L : Nat} : gw_fit 3 x y z L ↔ gw_bl x L := by
  constructor
  · rintro (h | h | ⟨h, _⟩ | ⟨_, g⟩ | ⟨h, _⟩ | ⟨h, _⟩)
    · exact absurd h (by decide)
    · exact absurd h (by decide)
    · exact absurd h (by decide)
    · exact g
    · exact absurd h (by decide)
    · exact absurd h (by decide)
  · exact fun g => Or.inr (Or.inr (Or.inr (Or.inl ⟨rfl, g⟩)))
theorem gw_fit456 {k x y z : Int32} {L : Nat} (hk : k = 4 ∨ k = 5 ∨ k = 6) : gw_fit k x y z L ↔ (gw_bl x L ∧ gw_bl y L) := by
  constructor
  · rintro (h | h | ⟨h, _⟩ | ⟨h, _⟩ | ⟨_, g⟩ | ⟨h, _⟩)
    · rw [h] at hk; exact absurd hk (by decide)
    · rw [h] at hk; exact absurd hk (by decide)
    · rw [h] at hk; exact absurd hk (by decide)
    · rw [h] at hk; exact absurd hk (by decide)
    · exact g
    · rw [h] at hk; exact absurd hk (by decide)
  · exact fun g => Or.inr (Or.inr (Or.inr (Or.inr (Or.inl ⟨hk, g⟩))))
theorem gw_fit7 {x y z : Int32} {L : Nat} : gw_fit 7 x y z L ↔ (gw_bl x L ∧ gw_bl y L ∧ gw_bl z L) := by
  constructor
  · rintro (h | h | ⟨h, _⟩ | ⟨h, _⟩ | ⟨h, _⟩ | ⟨_, g⟩)
    · exact absurd h (by decide)
    · exact absurd h (by decide)
    · exact absurd h (by decide)
    · exact absurd h (by decide)
    · exact absurd h (by decide)
    · exact g
  · exact fun g => Or.inr (Or.inr (Or.inr (Or.inr (Or.inr ⟨rfl, g⟩))))
theorem gw_k8 {k : Int32} (h0 : 0 ≤ k) (h7 : k ≤ 7) : k = 0 ∨ k = 1 ∨ k = 2 ∨ k = 3 ∨ k = 4 ∨ k = 5 ∨ k = 6 ∨ k = 7 := by
  obtain ⟨j, hj, rfl⟩ := nI_of2 (x := k) (M := 7) (n := 7) (by decide) (Int32.not_lt.mpr h0) h7
  rcases (show j = 0 ∨ j = 1 ∨ j = 2 ∨ j = 3 ∨ j = 4 ∨ j = 5 ∨ j = 6 ∨ j = 7 by omega) with e | e | e | e | e | e | e | e <;> subst e <;> decide
/-- the component's fits -/
theorem gx_fits {post : Int32 → Prop} {k x y z : Int32} {L : Nat} (hL : L < 2 ^ 31) (h1 : gw_fit k x y z L → post 1) (h0 : ¬ gw_fit k x y z L → post 0) : wpX_fits post k x y z (nI L) := by
  have key : ∀ zx zy zz : Int32, gw_tv (gw_bl x L) zx → gw_tv (gw_bl y L) zy → gw_tv (gw_bl z L) zz → wX_fits_49 post k x zx zy zz := by
    intro zx zy zz tx ty tz
    have fx := gw_tv_0 tx
    have fy := gw_tv_0 ty
    have fz := gw_tv_0 tz
    unfold wX_fits_49
    by_cases c0 : k < 0
    · exact br_t c0 (h0 (fun g => absurd c0 (Int32.not_lt.mpr (gw_fit_k g).1)))
    · by_cases c7 : 7 < k
      · exact br_f c0 (br_t c7 (h0 (fun g => absurd c7 (Int32.not_lt.mpr (gw_fit_k g).2))))
      · refine br_f c0 (br_f c7 ?_)
        have two : (k = 4 ∨ k = 5 ∨ k = 6) → wX_fits_120 post zx zy := fun hk =>
          br_c (fun e => h0 (fun g => fx.mp e ((gw_fit456 hk).mp g).1)) (fun e => br_c (fun e2 => h0 (fun g => fy.mp e2 ((gw_fit456 hk).mp g).2)) (fun e2 => h1 ((gw_fit456 hk).mpr ⟨Classical.byContradiction (fun n => e (fx.mpr n)), Classical.byContradiction (fun n => e2 (fy.mpr n))⟩)))
        rcases gw_k8 (Int32.not_lt.mp c0) (Int32.not_lt.mp c7) with e | e | e | e | e | e | e | e
        · subst e
          exact br_t rfl (h1 (Or.inl rfl))
        · subst e
          exact br_f (by decide) (br_t rfl (h1 (Or.inr (Or.inl rfl))))
        · subst e
          exact br_f (by decide) (br_f (by decide) (br_t rfl (br_c (fun a => h1 (gw_fit2.mpr (Or.inl a))) (fun a => br_c (fun b => h1 (gw_fit2.mpr (Or.inr b))) (fun b => h0 (fun g => (gw_fit2.mp g).elim a b))))))
        · subst e
          refine br_f (by decide) (br_f (by decide) (br_f (by decide) (br_t rfl ⟨gw_nb (gw_tv_01 tx), ?_⟩)))
          rcases tx with ⟨b, e⟩ | ⟨b, e⟩
          · rw [e]; exact h1 (gw_fit3.mpr b)
          · rw [e]; exact h0 (fun g => b (gw_fit3.mp g))
        · subst e
          exact br_f (by decide) (br_f (by decide) (br_f (by decide) (br_f (by decide) (br_t rfl (two (by decide))))))
        · subst e
          exact br_f (by decide) (br_f (by decide) (br_f (by decide) (br_f (by decide) (br_f (by decide) (br_t rfl (two (by decide)))))))
        · subst e
          exact br_f (by decide) (br_f (by decide) (br_f (by decide) (br_f (by decide) (br_f (by decide) (br_f (by decide) (br_t rfl (two (by decide))))))))
        · subst e
          exact br_f (by decide) (br_f (by decide) (br_f (by decide) (br_f (by decide) (br_f (by decide) (br_f (by decide) (br_f (by decide) (br_t rfl (br_c (fun e => h0 (fun g => fx.mp e (gw_fit7.mp g).1)) (fun e => br_c (fun e2 => h0 (fun g => fy.mp e2 (gw_fit7.mp g).2.1)) (fun e2 => br_c (fun e3 => h0 (fun g => fz.mp e3 (gw_fit7.mp g).2.2)) (fun e3 => h1 (gw_fit7.mpr ⟨Classical.byContradiction (fun n => e (fx.mpr n)), Classical.byContradiction (fun n => e2 (fy.mpr n)), Classical.byContradiction (fun n => e3 (fz.mpr n))⟩))))))))))))
  have k3 : ∀ zx zy : Int32, gw_tv (gw_bl x L) zx → gw_tv (gw_bl y L) zy → wX_fits_32 post k x z (nI L) zx zy := fun zx zy tx ty =>
    gw_blc hL (fun b => key zx zy 1 tx ty (gw_tv_t b)) (fun b => key zx zy 0 tx ty (gw_tv_f b))
  have k2 : ∀ zx : Int32, gw_tv (gw_bl x L) zx → wX_fits_15 post k x y z (nI L) zx := fun zx tx =>
    gw_blc hL (fun b => k3 zx 1 tx (gw_tv_t b)) (fun b => k3 zx 0 tx (gw_tv_f b))
  exact gw_blc hL (fun b => k2 1 (gw_tv_t b)) (fun b => k2 0 (gw_tv_f b))
theorem gy_in {post : Int32 → Prop} {x lo hi : Int32} (h1 : lo ≤ x → x ≤ hi → post 1) (h0 : ¬ (lo ≤ x ∧ x ≤ hi) → post 0) : wpY_in post x lo hi :=
  br_c (fun e => h0 (fun g => absurd e (Int32.not_lt.mpr g.1))) (fun e => br_c (fun e2 => h0 (fun g => absurd e2 (Int32.not_lt.mpr g.2))) (fun e2 => h1 (Int32.not_lt.mp e) (Int32.not_lt.mp e2)))
theorem gy_bl {post : Int32 → Prop} {x : Int32} {L : Nat} (hL : L < 2 ^ 31) (h1 : gw_bl x L → post 1) (h0 : ¬ gw_bl x L → post 0) : wpY_in post x 0 (nI L - 1) :=
  gy_in (fun a b => h1 ((gw_bl_le hL).mpr ⟨a, b⟩)) (fun n => h0 (fun g => n ((gw_bl_le hL).mp g)))
theorem gy_fit {post : Int32 → Prop} {k x y z : Int32} {L : Nat} (hL : L < 2 ^ 31) (k0 : 0 ≤ k) (k7 : k ≤ 7) (h1 : gw_fit k x y z L → post 1) (h0 : ¬ gw_fit k x y z L → post 0) : wpY_fit post k x y z (nI L) := by
  unfold wpY_fit wpY_operands
  rcases gw_k8 k0 k7 with e | e | e | e | e | e | e | e
  · subst e
    exact br_f (by decide) (br_f (by decide) (br_t (by decide) (br_t (by decide) (br_t (by decide) (h1 (Or.inl rfl))))))
  · subst e
    exact br_f (by decide) (br_f (by decide) (br_t (by decide) (br_t (by decide) (br_t (by decide) (h1 (Or.inr (Or.inl rfl)))))))
  · subst e
    refine br_f (by decide) (br_t rfl (gy_in (fun a b => ⟨gw_nb (Or.inr rfl), h1 (gw_fit2.mpr ?_)⟩) (fun n => ⟨gw_nb (Or.inl rfl), h0 (fun g => n ?_)⟩)))
    · obtain ⟨j, hj, rfl⟩ := nI_of2 (x := x) (M := 1) (n := 1) (by decide) (Int32.not_lt.mpr a) b
      rcases (show j = 0 ∨ j = 1 by omega) with e | e <;> subst e <;> decide
    · rcases gw_fit2.mp g with e | e <;> rw [e] <;> decide
  · subst e
    exact br_t (by decide) (br_t rfl (br_f (by decide) (br_f (by decide) (gy_bl hL (fun b => br_f (by decide) (br_t (by decide) (br_t (by decide) (h1 (gw_fit3.mpr b))))) (fun b => br_t rfl (h0 (fun g => b (gw_fit3.mp g))))))))
  · subst e
    exact br_t (by decide) (br_f (by decide) (br_f (by decide) (br_f (by decide) (br_f (by decide) (gy_bl hL (fun b => br_f (by decide) (br_f (by decide) (gy_bl hL (fun c => br_f (by decide) (br_t (by decide) (h1 ((gw_fit456 (by decide)).mpr ⟨b, c⟩)))) (fun c => br_t rfl (h0 (fun g => c ((gw_fit456 (by decide)).mp g).2)))))) (fun b => br_t rfl (h0 (fun g => b ((gw_fit456 (by decide)).mp g).1))))))))
  · subst e
    exact br_t (by decide) (br_f (by decide) (br_f (by decide) (br_f (by decide) (br_f (by decide) (gy_bl hL (fun b => br_f (by decide) (br_f (by decide) (gy_bl hL (fun c => br_f (by decide) (br_t (by decide) (h1 ((gw_fit456 (by decide)).mpr ⟨b, c⟩)))) (fun c => br_t rfl (h0 (fun g => c ((gw_fit456 (by decide)).mp g).2)))))) (fun b => br_t rfl (h0 (fun g => b ((gw_fit456 (by decide)).mp g).1))))))))
  · subst e
    exact br_t (by decide) (br_f (by decide) (br_f (by decide) (br_f (by decide) (br_f (by decide) (gy_bl hL (fun b => br_f (by decide) (br_f (by decide) (gy_bl hL (fun c => br_f (by decide) (br_t (by decide) (h1 ((gw_fit456 (by decide)).mpr ⟨b, c⟩)))) (fun c => br_t rfl (h0 (fun g => c ((gw_fit456 (by decide)).mp g).2)))))) (fun b => br_t rfl (h0 (fun g => b ((gw_fit456 (by decide)).mp g).1))))))))
  · subst e
    exact br_t (by decide) (br_f (by decide) (br_t rfl (br_f (by decide) (br_f (by decide) (gy_bl hL (fun b => br_f (by decide) (br_f (by decide) (gy_bl hL (fun c => br_f (by decide) (br_f (by decide) (gy_bl hL (fun d => br_f (by decide) (h1 (gw_fit7.mpr ⟨b, c, d⟩))) (fun d => br_t rfl (h0 (fun g => d (gw_fit7.mp g).2.2)))))) (fun c => br_t rfl (h0 (fun g => c (gw_fit7.mp g).2.1)))))) (fun b => br_t rfl (h0 (fun g => b (gw_fit7.mp g).1))))))))
section
variable {m s r : Nat} {K X Y Z F H yA yO yS yR yL yN yD yT yM yF yW yP : Nat → Int32}
theorem gy_net {post : Int32 → Prop} {n : Nat} (hm : m ≤ 32) (hn : n < m) (h : post 1) : wpY_isNet post (nI m, nI s, nI r, K, X, Y, Z, F, H, yA, yO, yS, yR, yL, yN, yD, yT, yM, yF, yW, yP) (nI n) := by
  unfold wpY_isNet
  dsimp only
  exact gy_bl (by omega) (fun _ => ⟨gw_nb (Or.inr rfl), h⟩) (fun b => absurd ⟨n, hn, rfl⟩ b)
theorem gy_nonet {post : Int32 → Prop} {x : Int32} (hm : m ≤ 32) (hx : ¬ (0 ≤ x ∧ x < nI m)) (h : post 0) : wpY_isNet post (nI m, nI s, nI r, K, X, Y, Z, F, H, yA, yO, yS, yR, yL, yN, yD, yT, yM, yF, yW, yP) x := by
  unfold wpY_isNet
  dsimp only
  exact gy_bl (by omega) (fun b => absurd ((gw_bl_iff (by omega)).mp b) hx) (fun _ => ⟨gw_nb (Or.inl rfl), h⟩)
theorem gy_src {post : Int32 → Prop} {x : Int32} (hm : m ≤ 32) (hW : gw_W K X Y Z F m) (h1 : ∀ n, n < m → x = nI n → gw_sk K n = true → post 1) (h0 : (∀ n, n < m → x = nI n → gw_sk K n = false) → post 0) : wpY_isSource post (nI m, nI s, nI r, K, X, Y, Z, F, H, yA, yO, yS, yR, yL, yN, yD, yT, yM, yF, yW, yP) x := by
  unfold wpY_isSource
  dsimp only
  rcases gw_net (x := x) (m := m) (by omega) with ⟨n, hn, rfl⟩ | hx
  · have cn : (nI n).toNatClampNeg = n := nI_clamp (by omega)
    have hw := gw_W_sk hW hn
    refine gy_net hm hn (br_f gw_n10 ⟨vp_in_nI (by omega) (by omega), br_c (fun g => ?_) (fun g => ?_)⟩)
    · rw [cn] at g
      refine h0 (fun j hj e => ?_)
      rw [nI_eq (by omega) (by omega)] at e
      subst e
      cases hs : gw_sk K n with
      | false => rfl
      | true => exact absurd (hw.mpr hs) (Int32.not_lt.mpr g)
    · rw [cn] at g
      exact h1 n hn rfl (hw.mp (Int32.not_le.mp g))
  · refine gy_nonet hm hx (br_t rfl (h0 (fun n hn e => absurd ?_ hx)))
    exact (gw_bl_iff (by omega)).mp ⟨n, hn, e⟩
theorem gy_order_l {post : SY → Prop} (hm : m ≤ 32) (hW : gw_W K X Y Z F m) (h10 : gw_cnt (gw_sk K) m ≤ 10) (h6 : gw_cnt (gw_rk K) m ≤ 6) (h : ∀ S R, gw_En (gw_sk K) S m → gw_En (gw_rk K) R m → post (nI m, nI (gw_cnt (gw_sk K) m), nI (gw_cnt (gw_rk K) m), K, X, Y, Z, F, H, yA, yO, S, R, yL, yN, yD, yT, yM, yF, yW, yP)) : ∀ d n g S R, n + d = m → d < g → gw_En (gw_sk K) S n → gw_En (gw_rk K) R n → wY_order_12 post (nI m) g (nI n) (nI (gw_cnt (gw_sk K) n)) (nI (gw_cnt (gw_rk K) n)) K X Y Z F H yA yO S R yL yN yD yT yM yF yW yP := by
  intro d
  induction d with
  | zero =>
    intro n g S R h1 h2 hS hR
    obtain ⟨g, rfl⟩ := gw_fz h2
    have e : n = m := by omega
    subst e
    rw [wY_order_12]
    exact br_t (nI_le (by omega) (by omega)) (h S R hS hR)
  | succ d ih =>
    intro n g S R h1 h2 hS hR
    obtain ⟨g, rfl⟩ := gw_fz h2
    have cn : (nI n).toNatClampNeg = n := nI_clamp (by omega)
    have vn : vp_in (nI n) 32 := vp_in_nI (by omega) (by omega)
    have hw := gw_W_sk hW (show n < m by omega)
    have key : ∀ (c : Nat) (S' : Nat → Int32), c = gw_cnt (gw_sk K) (n + 1) → gw_En (gw_sk K) S' (n + 1) → wY_order_47 post (wY_order_12 post (nI m) g) (nI n) (nI m) (nI c) (nI (gw_cnt (gw_rk K) n)) K X Y Z F H yA yO S' R yL yN yD yT yM yF yW yP := by
      intro c S' hc hS'
      subst hc
      refine ⟨vn, br_c (fun e => ?_) (fun e => ?_)⟩
      · rw [cn] at e
        have hr := gw_rk_t.mpr e
        have hlt := gw_cnt_lt hr (show n < m by omega)
        have cc : (nI (gw_cnt (gw_rk K) n)).toNatClampNeg = gw_cnt (gw_rk K) n := nI_clamp (by omega)
        have ihn := ih (n + 1) g S' (upd R (gw_cnt (gw_rk K) n) (nI n)) (by omega) (by omega) hS' (gw_En_t hR hr)
        rw [gw_cnt_t hr] at ihn
        exact nm_r (nI_1 _) ⟨vp_in_nI (by omega) (by omega), nm_r (by rw [cc]) (nm_r (nI_1 n) ihn)⟩
      · rw [cn] at e
        have hr := gw_rk_f.mpr e
        have ihn := ih (n + 1) g S' R (by omega) (by omega) hS' (gw_En_f hR hr)
        rw [gw_cnt_f hr] at ihn
        exact nm_r (nI_1 n) ihn
    rw [wY_order_12]
    refine br_f (nI_ge (by omega) (by omega)) ⟨vn, br_c (fun e => ?_) (fun e => ?_)⟩
    · rw [cn] at e
      have hs : gw_sk K n = false := by
        cases hs : gw_sk K n with
        | false => rfl
        | true => exact absurd (hw.mpr hs) (Int32.not_lt.mpr e)
      exact key _ S (gw_cnt_f hs).symm (gw_En_f hS hs)
    · rw [cn] at e
      have hs := hw.mp (Int32.not_le.mp e)
      have hlt := gw_cnt_lt hs (show n < m by omega)
      have cc : (nI (gw_cnt (gw_sk K) n)).toNatClampNeg = gw_cnt (gw_sk K) n := nI_clamp (by omega)
      exact nm_r (nI_1 _) ⟨vp_in_nI (by omega) (by omega), nm_r (by rw [cc]) (key _ _ (gw_cnt_t hs).symm (gw_En_t hS hs))⟩
theorem gy_order {post : SY → Prop} {fs fr : Int32} (hm : m ≤ 32) (hW : gw_W K X Y Z F m) (h10 : gw_cnt (gw_sk K) m ≤ 10) (h6 : gw_cnt (gw_rk K) m ≤ 6) (h : ∀ S R, gw_En (gw_sk K) S m → gw_En (gw_rk K) R m → post (nI m, nI (gw_cnt (gw_sk K) m), nI (gw_cnt (gw_rk K) m), K, X, Y, Z, F, H, yA, yO, S, R, yL, yN, yD, yT, yM, yF, yW, yP)) : wpY_order post (nI m, fs, fr, K, X, Y, Z, F, H, yA, yO, yS, yR, yL, yN, yD, yT, yM, yF, yW, yP) :=
  ⟨m + 1, gy_order_l hm hW h10 h6 h m 0 (m + 1) yS yR (by omega) (by omega) (fun n hn => absurd hn (Nat.not_lt_zero _)) (fun n hn => absurd hn (Nat.not_lt_zero _))⟩
end
