/-! configurations, soonest, alarm -/
theorem gw_Fin_ne {E : Nat → Nat → Prop} {N c : Nat} {a : Nat → Int32} (h0 : 0 < N) (hE : ∀ c c', E c c' → c' < N) (hN : N < 2 ^ 31) (h : gw_Fin E N a) (hc : c < N) : a c = -1 ↔ ¬ ∃ t, gw_D E c t := by
  obtain ⟨a1, a2⟩ := h c hc
  constructor
  · rintro e ⟨t, ht⟩
    rw [a1 t ht] at e
    exact gw_m1 (by have := gw_D_lt h0 hE ht; omega) e
  · exact fun g => a2 (fun s hs => g ⟨s, hs⟩)
theorem gw_Fin_lt {E : Nat → Nat → Prop} {N c : Nat} {a : Nat → Int32} (h0 : 0 < N) (hE : ∀ c c', E c c' → c' < N) (hN : N < 2 ^ 31) (h : gw_Fin E N a) (hc : c < N) : a c < 0 ↔ a c = -1 := by
  rcases gw_Fin_v h0 hE h hc with e | ⟨k, hk, e⟩
  · rw [e]; decide
  · rw [e]
    exact ⟨fun q => absurd q (nI_pos (by omega)), fun q => absurd q (gw_m1 (by omega))⟩
/-- the times at which the net can be shown, among cells below n, and among assignments below n -/
def gw_GX (K X Y Z F : Nat → Int32) (m net Q n t : Nat) : Prop := ∃ x, x < n ∧ gw_sh K X Y Z m net (x % Q) (x / Q) = true ∧ gw_D (gw_E K X Y Z F m Q) (x / Q) t
def gw_GY (K X Y Z F : Nat → Int32) (m Q : Nat) (V : Nat → Bool) (n t : Nat) : Prop := ∃ b, b < n ∧ V b = true ∧ gw_D (gw_E K X Y Z F m Q) (gw_co K m b) t
theorem gw_GXY {K X Y Z F : Nat → Int32} {m net t : Nat} : gw_GX K X Y Z F m net (2 ^ gw_q K m) (2 ^ gw_cnt (gw_sk K) m) t ↔ gw_GY K X Y Z F m (2 ^ gw_q K m) (gw_T K X Y Z m net) (2 ^ gw_cnt (gw_sk K) m) t := by
  constructor
  · rintro ⟨x, hx, h1, h2⟩
    have hq : 0 < 2 ^ gw_q K m := Nat.two_pow_pos _
    have hw : x % 2 ^ gw_q K m < 2 ^ gw_q K m := Nat.mod_lt _ hq
    have hc : x / 2 ^ gw_q K m < 2 ^ gw_cnt (gw_rk K) m := by
      rw [Nat.div_lt_iff_lt_mul hq, ← Nat.pow_add]
      have e := gw_cnt_sri K m
      unfold gw_q
      rw [← e]
      exact hx
    refine ⟨gw_jn K m (x % 2 ^ gw_q K m) (x / 2 ^ gw_q K m), gw_jn_lt K m _ _, ?_, ?_⟩
    · unfold gw_T
      rw [← gw_sh_a, gw_co_j hc, gw_of_j hw]
      exact h1
    · rw [gw_co_j hc]
      exact h2
  · rintro ⟨b, hb, h1, h2⟩
    have hd := gw_cdiv (c := gw_co K m b) (gw_of_lt K m b)
    refine ⟨gw_co K m b * 2 ^ gw_q K m + gw_of K m b, ?_, ?_, ?_⟩
    · have h3 := gw_cell_lt (gw_co_lt K m b) (gw_of_lt K m b)
      rw [← gw_cnt_sri] at h3
      exact h3
    · unfold gw_q
      rw [hd.1, hd.2, gw_sh_a]
      exact h1
    · have e : (gw_co K m b * 2 ^ gw_q K m + gw_of K m b) / 2 ^ gw_q K m = gw_co K m b := hd.1
      rw [e]
      exact h2
section
variable {m s r : Nat} {tl pe : Int32} {K X Y Z F H xO xN xC xS xL xE xG xW xM xP : Nat → Int32}
theorem gx_confs_l {post : Int32 → SX → Prop} {R : Nat} {P : Nat → Prop} (hR : R ≤ 64) (hM : ∀ c, c < R → (xM c = -1 ↔ ¬ P c)) (h : post (nI (gw_cnt (gw_dc P) R)) (nI m, nI s, nI r, tl, pe, K, X, Y, Z, F, H, xO, xN, xC, xS, xL, xE, xG, xW, xM, xP)) : ∀ d c g, c + d = R → d < g → wX_configurations_19 post (nI R) (nI m) (nI s) (nI r) tl pe K X Y Z F H xO xN xC xS xL xE xG xW xM xP g (nI (gw_cnt (gw_dc P) c)) (nI c) := by
  intro d
  induction d with
  | zero =>
    intro c g h1 h2
    obtain ⟨g, rfl⟩ := gw_fz h2
    have e : c = R := by omega
    rw [wX_configurations_19]
    refine br_t (nI_le (by omega) (by omega)) ?_
    rw [e]
    exact h
  | succ d ih =>
    intro c g h1 h2
    obtain ⟨g, rfl⟩ := gw_fz h2
    have cc : (nI c).toNatClampNeg = c := nI_clamp (by omega)
    have ihn := ih (c + 1) g (by omega) (by omega)
    rw [wX_configurations_19]
    refine br_f (nI_ge (by omega) (by omega)) ⟨vp_in_nI (by omega) (by omega), ?_⟩
    rw [cc]
    refine br_c (fun q => nm_r (nI_1 c) ?_) (fun q => nm_r (nI_1 _) (nm_r (nI_1 c) ?_))
    · rw [gw_dc_sf ((hM c (by omega)).mp q)] at ihn
      exact ihn
    · rw [gw_dc_st (Classical.byContradiction (fun n => q ((hM c (by omega)).mpr n)))] at ihn
      exact ihn
theorem gx_confs {post : Int32 → SX → Prop} (hm : m ≤ 32) (hW : gw_W K X Y Z F m) (hs : s = gw_cnt (gw_sk K) m) (hr : r = gw_cnt (gw_rk K) m) (h10 : s ≤ 10) (h6 : r ≤ 6) (h : ∀ G M, post (nI (gw_cnt (gw_dc (fun c => ∃ t, gw_D (gw_E K X Y Z F m (2 ^ gw_q K m)) c t)) (2 ^ r))) (nI m, nI s, nI r, tl, pe, K, X, Y, Z, F, H, xO, xN, xC, xS, xL, xE, G, xW, M, xP)) : wpX_configurations post (nI m, nI s, nI r, tl, pe, K, X, Y, Z, F, H, xO, xN, xC, xS, xL, xE, xG, xW, xM, xP) := by
  unfold wpX_configurations
  dsimp only
  refine gx_goes hm hW hs hr h10 (fun G hG => gx_come hs hr h10 h6 hG (fun M hM => nm_r (gw_pow (by omega)) ⟨2 ^ r + 1, ?_⟩))
  have hp := gw_p6 h6
  exact gx_confs_l hp (fun c hc => gw_Fin_ne (Nat.two_pow_pos r) (fun c d hh => by rw [hr]; exact gw_E_lt hh) (by omega) hM hc) (h G M) (2 ^ r) 0 (2 ^ r + 1) (by omega) (by omega)
theorem gx_isconf {post : Int32 → Prop} {p : Int32} (h6 : r ≤ 6) (h1 : gw_bl p (2 ^ r) → post 1) (h0 : ¬ gw_bl p (2 ^ r) → post 0) : wpX_isConfiguration post (nI m, nI s, nI r, tl, pe, K, X, Y, Z, F, H, xO, xN, xC, xS, xL, xE, xG, xW, xM, xP) p := by
  unfold wpX_isConfiguration
  dsimp only
  rw [gw_pow (by omega)]
  exact gw_blc (by have := gw_p6 h6; omega) h1 h0
theorem gx_soon {post : Int32 → SX → Prop} {c : Nat} (hm : m ≤ 32) (hW : gw_W K X Y Z F m) (hs : s = gw_cnt (gw_sk K) m) (hr : r = gw_cnt (gw_rk K) m) (h10 : s ≤ 10) (h6 : r ≤ 6) (hc : c < 2 ^ r) (h : ∀ G M, gw_Fin (gw_E K X Y Z F m (2 ^ gw_q K m)) (2 ^ r) M → post (M c) (nI m, nI s, nI r, tl, pe, K, X, Y, Z, F, H, xO, xN, xC, xS, xL, xE, G, xW, M, xP)) : wpX_soonest post (nI m, nI s, nI r, tl, pe, K, X, Y, Z, F, H, xO, xN, xC, xS, xL, xE, xG, xW, xM, xP) (nI c) := by
  have hp := gw_p6 h6
  have cc : (nI c).toNatClampNeg = c := nI_clamp (by omega)
  unfold wpX_soonest
  dsimp only
  refine gx_isconf h6 (fun _ => br_f gw_n10 (gx_goes hm hW hs hr h10 (fun G hG => gx_come hs hr h10 h6 hG (fun M hM => ?_)))) (fun q => absurd ⟨c, hc, rfl⟩ q)
  dsimp only
  rw [cc]
  exact ⟨vp_in_nI (by omega) (by omega), h G M hM⟩
theorem gx_alarm_l {post : Int32 → SX → Prop} {N Q R net : Nat} (hs : s = gw_cnt (gw_sk K) m) (hr : r = gw_cnt (gw_rk K) m) (h10 : s ≤ 10) (h6 : r ≤ 6) (hN : N = 2 ^ s) (hQ : Q = 2 ^ gw_q K m) (hRR : R = 2 ^ r) (hF : gw_Fin (gw_E K X Y Z F m Q) R xM) (hV : ∀ c w, c < 2 ^ r → w < 2 ^ gw_q K m → xW (c * 2 ^ gw_q K m + w) = gw_b (gw_sh K X Y Z m net w c)) (h : ∀ L, gw_Mn (gw_GX K X Y Z F m net Q N) L → post L (nI m, nI s, nI r, tl, pe, K, X, Y, Z, F, H, xO, xN, xC, xS, xL, xE, xG, xW, xM, xP)) : ∀ d x g L, x + d = N → d < g → gw_Mn (gw_GX K X Y Z F m net Q x) L → wX_alarm_46 post (nI (gw_q K m)) (nI N) (nI m) (nI s) (nI r) tl pe K X Y Z F H xO xN xC xS xL xE xG xW xM xP g L (nI x) := by
  have es := gw_srq hs hr
  have hN2 : N ≤ 1024 := by rw [hN]; exact gw_p10 h10
  have hR2 : R ≤ 64 := by rw [hRR]; exact gw_p6 h6
  have hR0 : 0 < R := by rw [hRR]; exact Nat.two_pow_pos r
  have hQ0 : 0 < Q := by rw [hQ]; exact Nat.two_pow_pos _
  have hE : ∀ c d, gw_E K X Y Z F m Q c d → d < R := fun c d hh => by rw [hRR, hr]; exact gw_E_lt hh
  intro d
  induction d with
  | zero =>
    intro x g L h1 h2 hL
    obtain ⟨g, rfl⟩ := gw_fz h2
    have e : x = N := by omega
    subst e
    rw [wX_alarm_46]
    exact br_t (nI_le (by omega) (by omega)) (h L hL)
  | succ d ih =>
    intro x g L h1 h2 hL
    obtain ⟨g, rfl⟩ := gw_fz h2
    have hc : x / Q < R := by
      rw [Nat.div_lt_iff_lt_mul hQ0, hRR, hQ, ← Nat.pow_add, ← es, ← hN]
      omega
    have hw : x % Q < Q := Nat.mod_lt _ hQ0
    have hx : x / Q * Q + x % Q = x := Nat.div_add_mod' x Q
    have cx : (nI x).toNatClampNeg = x := nI_clamp (by omega)
    have cd : (nI (x / Q)).toNatClampNeg = x / Q := nI_clamp (by omega)
    have vx : vp_in (nI x) 1024 := vp_in_nI (by omega) (by omega)
    have hsh : xW x = gw_b (gw_sh K X Y Z m net (x % Q) (x / Q)) := by
      have g := hV (x / Q) (x % Q) (by omega) (by omega)
      rw [← hQ, hx] at g
      exact g
    have skip : (∀ t, gw_D (gw_E K X Y Z F m Q) (x / Q) t → gw_sh K X Y Z m net (x % Q) (x / Q) = true → False) → gw_Mn (gw_GX K X Y Z F m net Q (x + 1)) L := by
      intro hno
      refine gw_Mn_e hL (fun t => ⟨fun ⟨y, h3, h4, h5⟩ => ⟨y, by omega, h4, h5⟩, fun ⟨y, h3, h4, h5⟩ => ?_⟩)
      by_cases ey : y = x
      · subst ey; exact (hno t h5 h4).elim
      · exact ⟨y, by omega, h4, h5⟩
    have sh2 : nI x >>> (nI (gw_q K m) &&& 31) = nI (x / Q) := by
      rw [pk_shrN (by omega) (nI (gw_q K m) &&& 31) (gw_q K m) (s_l _ (by omega)), hQ]
    rw [wX_alarm_46]
    refine br_f (nI_ge (by omega) (by omega)) ?_
    rw [sh2, cd, cx, hsh]
    refine ⟨vp_in_nI (by omega) (by omega), nm_e ⟨vx, ?_⟩⟩
    cases hb : gw_sh K X Y Z m net (x % Q) (x / Q) with
    | false => exact br_f (by decide) (nm_r (nI_1 x) (ih (x + 1) g L (by omega) (by omega) (skip (fun t _ q => by rw [hb] at q; exact absurd q Bool.false_ne_true))))
    | true =>
      refine br_t rfl ?_
      rcases gw_Fin_v hR0 hE hF hc with e | ⟨k, hk, e⟩
      · rw [e]
        refine br_t rfl (nm_r (nI_1 x) (ih (x + 1) g L (by omega) (by omega) (skip (fun t q _ => ?_))))
        exact (gw_Fin_ne hR0 hE (by omega) hF hc).mp e ⟨t, q⟩
      · have hD : ∀ t, gw_D (gw_E K X Y Z F m Q) (x / Q) t ↔ t = k := by
          intro t
          have hex : ∃ t, gw_D (gw_E K X Y Z F m Q) (x / Q) t := Classical.byContradiction (fun n => by
            have := (gw_Fin_ne hR0 hE (by omega) hF hc).mpr n
            rw [e] at this
            exact gw_m1 (by omega) this)
          obtain ⟨t', ht'⟩ := hex
          have := (hF (x / Q) hc).1 t' ht'
          rw [e, nI_eq (by omega) (by have := gw_D_lt hR0 hE ht'; omega)] at this
          subst this
          exact ⟨fun q => gw_D_u q ht', fun q => by rw [q]; exact ht'⟩
        have hG : ∀ t, (gw_GX K X Y Z F m net Q x t ∨ t = k) ↔ gw_GX K X Y Z F m net Q (x + 1) t := by
          intro t
          constructor
          · rintro (⟨y, h3, h4, h5⟩ | q)
            · exact ⟨y, by omega, h4, h5⟩
            · exact ⟨x, by omega, hb, (hD t).mpr q⟩
          · rintro ⟨y, h3, h4, h5⟩
            by_cases ey : y = x
            · subst ey; exact Or.inr ((hD t).mp h5)
            · exact Or.inl ⟨y, by omega, h4, h5⟩
        rw [e]
        refine br_f (gw_m1 (by omega)) (br_c (fun q => nm_r (nI_1 x) (ih (x + 1) g _ (by omega) (by omega) (gw_Mn_e (gw_Mn_take hL (by omega) (Or.inl q)) hG))) (fun q => br_c (fun q2 => nm_r (nI_1 x) (ih (x + 1) g _ (by omega) (by omega) (gw_Mn_e (gw_Mn_keep hL (by omega) q (Int32.not_lt.mpr q2)) hG))) (fun q2 => nm_r (nI_1 x) (ih (x + 1) g _ (by omega) (by omega) (gw_Mn_e (gw_Mn_take hL (by omega) (Or.inr (Int32.not_le.mp q2))) hG)))))
theorem gx_alarm {post : Int32 → SX → Prop} {net : Nat} (hm : m ≤ 32) (hW : gw_W K X Y Z F m) (hn : net < m) (hs : s = gw_cnt (gw_sk K) m) (hr : r = gw_cnt (gw_rk K) m) (h10 : s ≤ 10) (h6 : r ≤ 6) (h : ∀ G M W L, gw_Mn (gw_GX K X Y Z F m net (2 ^ gw_q K m) (2 ^ s)) L → post L (nI m, nI s, nI r, tl, pe, K, X, Y, Z, F, H, xO, xN, xC, xS, xL, xE, G, W, M, xP)) : wpX_alarm post (nI m, nI s, nI r, tl, pe, K, X, Y, Z, F, H, xO, xN, xC, xS, xL, xE, xG, xW, xM, xP) (nI net) := by
  unfold wpX_alarm
  dsimp only
  refine gx_net hm hn (br_f gw_n10 (gx_goes hm hW hs hr h10 (fun G hG => gx_come hs hr h10 h6 hG (fun M hM => gx_shows hm hW hn hs hr h10 (fun W hV => ?_)))))
  refine nm_r (gx_inp hs hr) (nm_r (gw_pow (by omega)) ⟨2 ^ s + 1, ?_⟩)
  exact gx_alarm_l hs hr h10 h6 rfl rfl rfl hM hV (fun L hL => h G M W L hL) (2 ^ s) 0 (2 ^ s + 1) (-1) (by omega) (by omega) (gw_Mn_0 (fun t ⟨y, hy, _⟩ => absurd hy (Nat.not_lt_zero _)))
end
section
variable {m s r : Nat} {K X Y Z F H yA yO yS yR yL yN yD yT yM yF yW yP : Nat → Int32}
theorem gy_confs_l {post : Int32 → SY → Prop} {P : Nat → Prop} (hM : ∀ c, c < 64 → (yN c < 0 ↔ ¬ P c)) (h : post (nI (gw_cnt (gw_dc P) 64)) (nI m, nI s, nI r, K, X, Y, Z, F, H, yA, yO, yS, yR, yL, yN, yD, yT, yM, yF, yW, yP)) : ∀ d c g, c + d = 64 → d < g → wY_configurations_9 post (nI m) (nI s) (nI r) K X Y Z F H yA yO yS yR yL yN yD yT yM yF yW yP g (nI (gw_cnt (gw_dc P) c)) (nI c) := by
  intro d
  induction d with
  | zero =>
    intro c g h1 h2
    obtain ⟨g, rfl⟩ := gw_fz h2
    have e : c = 64 := by omega
    subst e
    rw [wY_configurations_9]
    exact br_t (nI_le (a := 64) (by omega) (by omega)) h
  | succ d ih =>
    intro c g h1 h2
    obtain ⟨g, rfl⟩ := gw_fz h2
    have cc : (nI c).toNatClampNeg = c := nI_clamp (by omega)
    have ihn := ih (c + 1) g (by omega) (by omega)
    rw [wY_configurations_9]
    refine br_f (nI_ge (b := 64) (by omega) (by decide)) ⟨vp_in_nI (by omega) (by omega), ?_⟩
    rw [cc]
    refine br_c (fun q => nm_r (nI_1 c) ?_) (fun q => nm_r (nI_1 _) (nm_r (nI_1 c) ?_))
    · rw [gw_dc_sf ((hM c (by omega)).mp q)] at ihn
      exact ihn
    · rw [gw_dc_st (Classical.byContradiction (fun n => q ((hM c (by omega)).mpr n)))] at ihn
      exact ihn
theorem gy_confs {post : Int32 → SY → Prop} (hm : m ≤ 32) (hW : gw_W K X Y Z F m) (hs : s = gw_cnt (gw_sk K) m) (h10 : s ≤ 10) (hS : gw_En (gw_sk K) yS m) (hr : r = gw_cnt (gw_rk K) m) (h6 : r ≤ 6) (hR : gw_En (gw_rk K) yR m) (h : ∀ A B C M, post (nI (gw_cnt (gw_dc (fun c => ∃ t, gw_D (gw_E K X Y Z F m (2 ^ gw_q K m)) c t)) (2 ^ r))) (nI m, nI s, nI r, K, X, Y, Z, F, H, A, yO, yS, yR, yL, M, yD, yT, yM, B, C, yP)) : wpY_configurations post (nI m, nI s, nI r, K, X, Y, Z, F, H, yA, yO, yS, yR, yL, yN, yD, yT, yM, yF, yW, yP) := by
  unfold wpY_configurations
  dsimp only
  refine gy_explore (V := fun _ => false) hm hW hs h10 hS hr h6 hR (Or.inl ⟨by decide, fun _ => rfl⟩) (fun A B C M hC hM hhi => ⟨65, ?_⟩)
  have hp := gw_p6 h6
  have hE : ∀ c d, gw_E K X Y Z F m (2 ^ gw_q K m) c d → d < 2 ^ r := fun c d hh => by rw [hr]; exact gw_E_lt hh
  have noD : ∀ c, 2 ^ r ≤ c → ¬ ∃ t, gw_D (gw_E K X Y Z F m (2 ^ gw_q K m)) c t := by
    rintro c hc ⟨t, ht⟩
    have := gw_R_in (Nat.two_pow_pos r) hE t c ht.1
    omega
  have e := gw_dc_up (P := fun c => ∃ t, gw_D (gw_E K X Y Z F m (2 ^ gw_q K m)) c t) hp (fun j h1 h2 => noD j h1)
  refine gy_confs_l (P := fun c => ∃ t, gw_D (gw_E K X Y Z F m (2 ^ gw_q K m)) c t) (fun c hc => ?_) ?_ 64 0 65 (by omega) (by omega)
  · show M c < 0 ↔ ¬ ∃ t, gw_D (gw_E K X Y Z F m (2 ^ gw_q K m)) c t
    rcases Nat.lt_or_ge c (2 ^ r) with l | l
    · rw [gw_Fin_lt (Nat.two_pow_pos r) hE (by omega) hM l]
      exact gw_Fin_ne (Nat.two_pow_pos r) hE (by omega) hM l
    · rw [hhi c l hc]
      exact ⟨fun _ => noD c l, fun _ => by decide⟩
  · rw [e]
    exact h A B C M
theorem gy_soon {post : Int32 → SY → Prop} {c : Nat} (hm : m ≤ 32) (hW : gw_W K X Y Z F m) (hs : s = gw_cnt (gw_sk K) m) (h10 : s ≤ 10) (hS : gw_En (gw_sk K) yS m) (hr : r = gw_cnt (gw_rk K) m) (h6 : r ≤ 6) (hR : gw_En (gw_rk K) yR m) (hc : c < 2 ^ r) (h : ∀ A B C M, gw_Fin (gw_E K X Y Z F m (2 ^ gw_q K m)) (2 ^ r) M → post (M c) (nI m, nI s, nI r, K, X, Y, Z, F, H, A, yO, yS, yR, yL, M, yD, yT, yM, B, C, yP)) : wpY_soonest post (nI m, nI s, nI r, K, X, Y, Z, F, H, yA, yO, yS, yR, yL, yN, yD, yT, yM, yF, yW, yP) (nI c) := by
  have hp := gw_p6 h6
  have cc : (nI c).toNatClampNeg = c := nI_clamp (by omega)
  unfold wpY_soonest
  dsimp only
  rw [gw_pow (by omega)]
  refine gy_bl (by omega) (fun _ => br_f gw_n10 (gy_explore (V := fun _ => false) hm hW hs h10 hS hr h6 hR (Or.inl ⟨by decide, fun _ => rfl⟩) (fun A B C M hC hM hhi => ?_))) (fun q => absurd ⟨c, hc, rfl⟩ q)
  dsimp only
  rw [cc]
  exact ⟨vp_in_nI (by omega) (by omega), h A B C M hM⟩
theorem gy_alarm_l {post : Int32 → SY → Prop} {N Q R : Nat} {V : Nat → Bool} (hm : m ≤ 32) (hs : s = gw_cnt (gw_sk K) m) (h10 : s ≤ 10) (hS : gw_En (gw_sk K) yS m) (hr : r = gw_cnt (gw_rk K) m) (h6 : r ≤ 6) (hN : N = 2 ^ s) (hQ : Q = 2 ^ gw_q K m) (hRR : R = 2 ^ r) (hF : gw_Fin (gw_E K X Y Z F m Q) R yN) (hV : ∀ b, b < N → yW b = gw_b (V b)) (h : ∀ L, gw_Mn (gw_GY K X Y Z F m Q V N) L → post L (nI m, nI s, nI r, K, X, Y, Z, F, H, yA, yO, yS, yR, yL, yN, yD, yT, yM, yF, yW, yP)) : ∀ d x g L, x + d = N → d < g → gw_Mn (gw_GY K X Y Z F m Q V x) L → wY_alarm_19 post (nI m) (nI s) (nI r) K X Y Z F H yA yO yS yR yL yN yD yT yM yF yW yP g L (nI x) := by
  have hN2 : N ≤ 1024 := by rw [hN]; exact gw_p10 h10
  have hR2 : R ≤ 64 := by rw [hRR]; exact gw_p6 h6
  have hR0 : 0 < R := by rw [hRR]; exact Nat.two_pow_pos r
  have hE : ∀ c d, gw_E K X Y Z F m Q c d → d < R := fun c d hh => by rw [hRR, hr]; exact gw_E_lt hh
  intro d
  induction d with
  | zero =>
    intro x g L h1 h2 hL
    obtain ⟨g, rfl⟩ := gw_fz h2
    have e : x = N := by omega
    subst e
    rw [wY_alarm_19, gw_pow (by omega), ← hN]
    exact br_t (nI_le (by omega) (by omega)) (h L hL)
  | succ d ih =>
    intro x g L h1 h2 hL
    obtain ⟨g, rfl⟩ := gw_fz h2
    have hc : gw_co K m x < R := by rw [hRR, hr]; exact gw_co_lt K m x
    have cx : (nI x).toNatClampNeg = x := nI_clamp (by omega)
    have cd : (nI (gw_co K m x)).toNatClampNeg = gw_co K m x := nI_clamp (by omega)
    have vx : vp_in (nI x) 1024 := vp_in_nI (by omega) (by omega)
    have skip : (∀ t, gw_D (gw_E K X Y Z F m Q) (gw_co K m x) t → V x = true → False) → gw_Mn (gw_GY K X Y Z F m Q V (x + 1)) L := by
      intro hno
      refine gw_Mn_e hL (fun t => ⟨fun ⟨y, h3, h4, h5⟩ => ⟨y, by omega, h4, h5⟩, fun ⟨y, h3, h4, h5⟩ => ?_⟩)
      by_cases ey : y = x
      · subst ey; exact (hno t h5 h4).elim
      · exact ⟨y, by omega, h4, h5⟩
    rw [wY_alarm_19, gw_pow (by omega), ← hN]
    refine br_f (nI_ge (by omega) (by omega)) (gy_cof hm (by omega) hs h10 hS ?_)
    rw [cd, cx, hV x (by omega)]
    refine ⟨vp_in_nI (by omega) (by omega), nm_e ⟨vx, ?_⟩⟩
    cases hb : V x with
    | false => exact br_t rfl (nm_r (nI_1 x) (ih (x + 1) g L (by omega) (by omega) (skip (fun t _ q => by rw [hb] at q; exact absurd q Bool.false_ne_true))))
    | true =>
      refine br_f (by decide) ?_
      rcases gw_Fin_v hR0 hE hF hc with e | ⟨k, hk, e⟩
      · rw [e]
        refine br_t (by decide) (nm_r (nI_1 x) (ih (x + 1) g L (by omega) (by omega) (skip (fun t q _ => ?_))))
        exact (gw_Fin_ne hR0 hE (by omega) hF hc).mp e ⟨t, q⟩
      · have hD : ∀ t, gw_D (gw_E K X Y Z F m Q) (gw_co K m x) t ↔ t = k := by
          intro t
          have hex : ∃ t, gw_D (gw_E K X Y Z F m Q) (gw_co K m x) t := Classical.byContradiction (fun n => by
            have := (gw_Fin_ne hR0 hE (by omega) hF hc).mpr n
            rw [e] at this
            exact gw_m1 (by omega) this)
          obtain ⟨t', ht'⟩ := hex
          have := (hF (gw_co K m x) hc).1 t' ht'
          rw [e, nI_eq (by omega) (by have := gw_D_lt hR0 hE ht'; omega)] at this
          subst this
          exact ⟨fun q => gw_D_u q ht', fun q => by rw [q]; exact ht'⟩
        have hG : ∀ t, (gw_GY K X Y Z F m Q V x t ∨ t = k) ↔ gw_GY K X Y Z F m Q V (x + 1) t := by
          intro t
          constructor
          · rintro (⟨y, h3, h4, h5⟩ | q)
            · exact ⟨y, by omega, h4, h5⟩
            · exact ⟨x, by omega, hb, (hD t).mpr q⟩
          · rintro ⟨y, h3, h4, h5⟩
            by_cases ey : y = x
            · subst ey; exact Or.inr ((hD t).mp h5)
            · exact Or.inl ⟨y, by omega, h4, h5⟩
        rw [e]
        refine br_f (nI_pos (by omega)) (br_c (fun q => nm_r (nI_1 x) (ih (x + 1) g _ (by omega) (by omega) (gw_Mn_e (gw_Mn_take hL (by omega) (Or.inl ((gw_Mn_neg hL).mp q))) hG))) (fun q => br_c (fun q2 => nm_r (nI_1 x) (ih (x + 1) g _ (by omega) (by omega) (gw_Mn_e (gw_Mn_keep hL (by omega) (fun q3 => q ((gw_Mn_neg hL).mpr q3)) (Int32.not_lt.mpr q2)) hG))) (fun q2 => nm_r (nI_1 x) (ih (x + 1) g _ (by omega) (by omega) (gw_Mn_e (gw_Mn_take hL (by omega) (Or.inr (Int32.not_le.mp q2))) hG)))))
theorem gy_alarm {post : Int32 → SY → Prop} {net : Nat} (hm : m ≤ 32) (hW : gw_W K X Y Z F m) (hn : net < m) (hs : s = gw_cnt (gw_sk K) m) (h10 : s ≤ 10) (hS : gw_En (gw_sk K) yS m) (hr : r = gw_cnt (gw_rk K) m) (h6 : r ≤ 6) (hR : gw_En (gw_rk K) yR m) (h : ∀ A B C M L, gw_Mn (gw_GY K X Y Z F m (2 ^ gw_q K m) (gw_T K X Y Z m net) (2 ^ s)) L → post L (nI m, nI s, nI r, K, X, Y, Z, F, H, A, yO, yS, yR, yL, M, yD, yT, yM, B, C, yP)) : wpY_alarm post (nI m, nI s, nI r, K, X, Y, Z, F, H, yA, yO, yS, yR, yL, yN, yD, yT, yM, yF, yW, yP) (nI net) := by
  unfold wpY_alarm
  dsimp only
  refine gy_net hm hn (br_f gw_n10 (gy_explore (V := gw_T K X Y Z m net) hm hW hs h10 hS hr h6 hR (Or.inr ⟨net, hn, rfl, fun _ => rfl⟩) (fun A B C M hC hM hhi => ⟨2 ^ s + 1, ?_⟩)))
  exact gy_alarm_l hm hs h10 hS hr h6 rfl rfl rfl hM hC (fun L hL => h A B C M L hL) (2 ^ s) 0 (2 ^ s + 1) (-1) (by omega) (by omega) (gw_Mn_0 (fun t ⟨y, hy, _⟩ => absurd hy (Nat.not_lt_zero _)))
end
theorem i_vc_configurations {k : Nat} {u : SX} {v : SY} (I : i_Rel k u v) (hk : k + 6 ≤ 3072) : wpX_configurations (fun r u' => wpY_configurations (fun r' v' => r' = r ∧ i_Rel (k + 6) u' v') v) u := by
  have J : i_Rel (k + 6) u v := I
  obtain ⟨m, K, X, Y, Z, F, H, ⟨hm, hW, h01, h10, h6⟩, ⟨tl, pe, xO, xN, xC, xS, xL, xE, xG, xW, xM, xP, rfl⟩, ⟨yA, yO, yS, yR, yL, yN, yD, yT, yM, yF, yW, yP, rfl, hS, hR⟩⟩ := I
  exact gx_confs hm hW rfl rfl h10 h6 (fun G M => gy_confs hm hW rfl h10 hS rfl h6 hR (fun A B C M' => ⟨rfl, gw_rel ⟨hm, hW, h01, h10, h6⟩ hS hR⟩))
theorem i_vc_soonest {k : Nat} {u : SX} {v : SY} (I : i_Rel k u v) (hk : k + 6 ≤ 3072) (v1 : Int32) : wpX_soonest (fun r u' => wpY_soonest (fun r' v' => r' = r ∧ i_Rel (k + 6) u' v') v v1) u v1 := by
  have J : i_Rel (k + 6) u v := I
  obtain ⟨m, K, X, Y, Z, F, H, ⟨hm, hW, h01, h10, h6⟩, ⟨tl, pe, xO, xN, xC, xS, xL, xE, xG, xW, xM, xP, rfl⟩, ⟨yA, yO, yS, yR, yL, yN, yD, yT, yM, yF, yW, yP, rfl, hS, hR⟩⟩ := I
  have hp := gw_p6 h6
  by_cases c : gw_bl v1 (2 ^ gw_cnt (gw_rk K) m)
  · obtain ⟨c, hc, rfl⟩ := c
    exact gx_soon hm hW rfl rfl h10 h6 hc (fun G M hM => gy_soon hm hW rfl h10 hS rfl h6 hR hc (fun A B C M' hM' => ⟨gw_Fin_u hM' hM hc, gw_rel ⟨hm, hW, h01, h10, h6⟩ hS hR⟩))
  · unfold wpX_soonest wpY_soonest
    dsimp only
    refine gx_isconf h6 (fun q => absurd q c) (fun _ => br_t rfl ?_)
    rw [gw_pow (by omega)]
    exact gy_bl (by omega) (fun q => absurd q c) (fun _ => br_t rfl ⟨rfl, J⟩)
theorem i_vc_alarm {k : Nat} {u : SX} {v : SY} (I : i_Rel k u v) (hk : k + 6 ≤ 3072) (v1 : Int32) : wpX_alarm (fun r u' => wpY_alarm (fun r' v' => r' = r ∧ i_Rel (k + 6) u' v') v v1) u v1 := by
  have J : i_Rel (k + 6) u v := I
  obtain ⟨m, K, X, Y, Z, F, H, ⟨hm, hW, h01, h10, h6⟩, ⟨tl, pe, xO, xN, xC, xS, xL, xE, xG, xW, xM, xP, rfl⟩, ⟨yA, yO, yS, yR, yL, yN, yD, yT, yM, yF, yW, yP, rfl, hS, hR⟩⟩ := I
  rcases gw_net (x := v1) (m := m) (by omega) with ⟨n, hn, rfl⟩ | hx
  · exact gx_alarm hm hW hn rfl rfl h10 h6 (fun G M W L hL => gy_alarm hm hW hn rfl h10 hS rfl h6 hR (fun A B C M' L' hL' => ⟨gw_Mn_u hL' hL (fun t => gw_GXY.symm), gw_rel ⟨hm, hW, h01, h10, h6⟩ hS hR⟩))
  · unfold wpX_alarm wpY_alarm
    dsimp only
    exact gx_nonet hx (br_t rfl (gy_nonet hm hx (br_t rfl ⟨rfl, J⟩)))
