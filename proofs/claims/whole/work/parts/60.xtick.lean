/-! ticks: the present configuration and those after it -/
def gw_S (K X Y Z F H : Nat → Int32) (m c : Nat) : Nat := gw_stp K X Y Z F m (gw_w0 K m H) c
def gw_ct (K X Y Z F H : Nat → Int32) (m t : Nat) : Nat := gw_it (gw_S K X Y Z F H m) t (gw_c0 K m H)
def gw_at (K X Y Z F H : Nat → Int32) (m t : Nat) : Nat := gw_jn K m (gw_w0 K m H) (gw_ct K X Y Z F H m t)
section
variable {m s r : Nat} {tl pe : Int32} {K X Y Z F H xO xN xC xS xL xE xG xW xM xP : Nat → Int32}
theorem gw_ct_lt (t : Nat) : gw_ct K X Y Z F H m t < 2 ^ gw_cnt (gw_rk K) m := gw_it_in (fun c _ => gw_stp_lt K X Y Z F m (gw_w0 K m H) c) (gw_pk_lt _ _ _) t
theorem gw_ct_64 (h6 : gw_cnt (gw_rk K) m ≤ 6) (t : Nat) : gw_ct K X Y Z F H m t < 64 := Nat.lt_of_lt_of_le (gw_ct_lt t) (gw_p6 h6)
theorem gw_co_at (t : Nat) : gw_co K m (gw_at K X Y Z F H m t) = gw_ct K X Y Z F H m t := gw_co_j (gw_ct_lt t)
theorem gw_of_at (t : Nat) : gw_of K m (gw_at K X Y Z F H m t) = gw_w0 K m H := gw_of_j (gw_pk_lt _ _ _)
theorem gw_at_s (t : Nat) : gw_jn K m (gw_of K m (gw_at K X Y Z F H m t)) (gw_stp K X Y Z F m (gw_of K m (gw_at K X Y Z F H m t)) (gw_co K m (gw_at K X Y Z F H m t))) = gw_at K X Y Z F H m (t + 1) := by
  rw [gw_of_at, gw_co_at]
  rfl
theorem gw_at_0 : gw_at K X Y Z F H m 0 = gw_a0 K m H := gw_a0_jn.symm
theorem gx_cyc_l {post : SX → Prop} (hm : m ≤ 32) (hW : gw_W K X Y Z F m) (h6 : gw_cnt (gw_rk K) m ≤ 6) (h : ∀ t0 t1 E, gw_Rho (gw_S K X Y Z F H m) (gw_c0 K m H) t0 t1 → t1 ≤ 64 → post (nI m, nI s, nI r, nI t0, nI (t1 - t0), K, X, Y, Z, F, H, xO, xN, xC, xS, xL, E, xG, xW, xM, xP)) : ∀ d t g E, t + d = 65 → d < g → gw_Sn (gw_S K X Y Z F H m) (gw_c0 K m H) t E → wX_findCycle_28 post (nI m) (nI s) (nI r) tl pe g (nI (gw_at K X Y Z F H m t)) (nI t) K X Y Z F H xO xN xC xS xL E xG xW xM xP := by
  intro d
  induction d with
  | zero =>
    intro t g E h1 h2 hE
    exfalso
    obtain ⟨i, j, h3, h4, h5⟩ := gw_pig 64 (fun i => gw_ct K X Y Z F H m i) (fun i _ => gw_ct_64 h6 i)
    exact hE.2.2 i j h3 (by omega) h5
  | succ d ih =>
    intro t g E h1 h2 hE
    obtain ⟨g, rfl⟩ := gw_fz h2
    have hc := gw_ct_64 (X := X) (Y := Y) (Z := Z) (F := F) (H := H) h6 t
    have cc : (nI (gw_ct K X Y Z F H m t)).toNatClampNeg = gw_ct K X Y Z F H m t := nI_clamp (by omega)
    have vc : vp_in (nI (gw_ct K X Y Z F H m t)) 64 := vp_in_nI hc (by omega)
    rw [wX_findCycle_28]
    refine br_f (nI_nlt (b := t) (a := 64) (by omega) (by decide)) (gx_conf hm ?_)
    rw [gw_co_at, cc]
    refine ⟨vc, br_c (fun e => ⟨vc, nm_e (gx_aft hm hW ?_)⟩) (fun e => ⟨vc, ?_⟩)⟩
    · rw [gw_at_s]
      exact nm_r (nI_1 t) (ih (t + 1) g _ (by omega) (by omega) (gw_Sn_miss hE (by omega) e))
    · obtain ⟨t0, h3, h4, h5⟩ := gw_Sn_hit hE hc e
      exact nm_r h4 (nm_r (pk_sub (by omega)) (h t0 t E h5 (by omega)))
theorem gx_cyc2_l {post : SX → Prop} (hm : m ≤ 32) (hW : gw_W K X Y Z F m) (h01 : gw_01 H) (h6 : gw_cnt (gw_rk K) m ≤ 6) (h : ∀ t0 t1 E, gw_Rho (gw_S K X Y Z F H m) (gw_c0 K m H) t0 t1 → t1 ≤ 64 → post (nI m, nI s, nI r, nI t0, nI (t1 - t0), K, X, Y, Z, F, H, xO, xN, xC, xS, xL, E, xG, xW, xM, xP)) : ∀ d c g E, c + d = 64 → d < g → (∀ x, x < c → E x = -1) → wX_findCycle_2 post (nI m) (nI s) (nI r) tl pe g (nI c) K X Y Z F H xO xN xC xS xL E xG xW xM xP := by
  intro d
  induction d with
  | zero =>
    intro c g E h1 h2 hE
    obtain ⟨g, rfl⟩ := gw_fz h2
    rw [wX_findCycle_2]
    refine br_t (nI_le (a := 64) (by omega) (by omega)) (gx_pres hm h01 ⟨66, ?_⟩)
    rw [← gw_at_0 (X := X) (Y := Y) (Z := Z) (F := F)]
    exact gx_cyc_l hm hW h6 h 65 0 66 E (by omega) (by omega) (gw_Sn_0 (fun x hx => hE x (by omega)))
  | succ d ih =>
    intro c g E h1 h2 hE
    obtain ⟨g, rfl⟩ := gw_fz h2
    have cc : (nI c).toNatClampNeg = c := nI_clamp (by omega)
    rw [wX_findCycle_2]
    refine br_f (nI_ge (b := 64) (by omega) (by decide)) ⟨vp_in_nI (by omega) (by omega), nm_r (e' := upd E c (-1)) (by rw [cc]) (nm_r (nI_1 c) (ih (c + 1) g _ (by omega) (by omega) (fun x hx => ?_)))⟩
    by_cases e : x = c
    · subst e; exact pk_us
    · rw [pk_un e]; exact hE x (by omega)
theorem gx_cyc {post : SX → Prop} (hm : m ≤ 32) (hW : gw_W K X Y Z F m) (h01 : gw_01 H) (h6 : gw_cnt (gw_rk K) m ≤ 6) (h : ∀ t0 t1 E, gw_Rho (gw_S K X Y Z F H m) (gw_c0 K m H) t0 t1 → t1 ≤ 64 → post (nI m, nI s, nI r, nI t0, nI (t1 - t0), K, X, Y, Z, F, H, xO, xN, xC, xS, xL, E, xG, xW, xM, xP)) : wpX_findCycle post (nI m, nI s, nI r, tl, pe, K, X, Y, Z, F, H, xO, xN, xC, xS, xL, xE, xG, xW, xM, xP) :=
  ⟨65, gx_cyc2_l hm hW h01 h6 h 64 0 65 xE (by omega) (by omega) (fun x hx => absurd hx (Nat.not_lt_zero _))⟩
theorem gx_tick_l {post : Int32 → SX → Prop} {q : Nat} (hm : m ≤ 32) (hW : gw_W K X Y Z F m) (h01 : gw_01 H) (hq : q < 2 ^ 31) (h : post (nI (gw_ct K X Y Z F H m q)) (nI m, nI s, nI r, tl, pe, K, X, Y, Z, F, gw_nw K m H (gw_ct K X Y Z F H m q), xO, xN, xC, xS, xL, xE, xG, xW, xM, xP)) : ∀ d t g, t + d = q → d < g → wX_tick_52 post (nI q) (nI m) (nI s) (nI r) tl pe K X Y Z F H xO xN xC xS xL xE xG xW xM xP g (nI (gw_at K X Y Z F H m t)) (nI t) := by
  intro d
  induction d with
  | zero =>
    intro t g h1 h2
    obtain ⟨g, rfl⟩ := gw_fz h2
    have e : t = q := by omega
    rw [wX_tick_52]
    refine br_t (nI_le (by omega) (by omega)) (gx_hold hm ?_)
    dsimp only
    refine gx_conf hm ?_
    rw [gw_co_at, e]
    unfold gw_at
    rw [gw_ho_jn h01]
    exact h
  | succ d ih =>
    intro t g h1 h2
    obtain ⟨g, rfl⟩ := gw_fz h2
    rw [wX_tick_52]
    refine br_f (nI_ge (by omega) (by omega)) (gx_aft hm hW ?_)
    rw [gw_at_s]
    exact nm_r (nI_1 t) (ih (t + 1) g (by omega) (by omega))
theorem gx_tick44 {post : Int32 → SX → Prop} {q : Nat} (hm : m ≤ 32) (hW : gw_W K X Y Z F m) (h01 : gw_01 H) (hq : q < 2 ^ 31) (h : post (nI (gw_ct K X Y Z F H m q)) (nI m, nI s, nI r, tl, pe, K, X, Y, Z, F, gw_nw K m H (gw_ct K X Y Z F H m q), xO, xN, xC, xS, xL, xE, xG, xW, xM, xP)) : wX_tick_44 post (nI q) (nI m) (nI s) (nI r) tl pe K X Y Z F H xO xN xC xS xL xE xG xW xM xP := by
  unfold wX_tick_44
  refine gx_pres hm h01 ⟨q + 1, ?_⟩
  rw [← gw_at_0 (X := X) (Y := Y) (Z := Z) (F := F)]
  exact gx_tick_l hm hW h01 hq h q 0 (q + 1) (by omega) (by omega)
theorem gx_tick {post : Int32 → SX → Prop} {n : Nat} (hm : m ≤ 32) (hW : gw_W K X Y Z F m) (h01 : gw_01 H) (h6 : gw_cnt (gw_rk K) m ≤ 6) (hn : n < 2 ^ 31) (h : ∀ t0 t1 tl pe E, gw_Rho (gw_S K X Y Z F H m) (gw_c0 K m H) t0 t1 → t1 ≤ 64 → post (nI (gw_ct K X Y Z F H m n)) (nI m, nI s, nI r, tl, pe, K, X, Y, Z, F, gw_nw K m H (gw_ct K X Y Z F H m n), xO, xN, xC, xS, xL, E, xG, xW, xM, xP)) : wpX_tick post (nI m, nI s, nI r, tl, pe, K, X, Y, Z, F, H, xO, xN, xC, xS, xL, xE, xG, xW, xM, xP) (nI n) := by
  unfold wpX_tick
  dsimp only
  refine br_t (nI_pos' hn) (gx_cyc hm hW h01 h6 (fun t0 t1 E hR ht => ?_))
  have h0 := hR.1
  dsimp only
  rcases Nat.lt_or_ge t0 n with c | c
  · have e : gw_ct K X Y Z F H m (t0 + (n - t0) % (t1 - t0)) = gw_ct K X Y Z F H m n := gw_rho_r hR (by omega)
    have hml : (n - t0) % (t1 - t0) < t1 - t0 := Nat.mod_lt _ (by omega)
    refine br_f (nI_ge c hn) (br_f (nI_nle (by omega) (by omega)) ⟨nI_ne0 (by omega) (by omega), ?_⟩)
    rw [pk_sub (by omega), pk_rem (by omega) (by omega) (by omega), nI_add]
    refine nm_e (gx_tick44 hm hW h01 (by omega) ?_)
    rw [e]
    exact h t0 t1 _ _ E hR ht
  · exact br_t (nI_le c (by omega)) (gx_tick44 hm hW h01 hn (h t0 t1 _ _ E hR ht))
theorem gx_cycle {post : Int32 → SX → Prop} {p : Int32} (hm : m ≤ 32) (hW : gw_W K X Y Z F m) (h01 : gw_01 H) (h6 : gw_cnt (gw_rk K) m ≤ 6) (c0 : ¬ (p = 0 ∨ p = 1) → post (-1) (nI m, nI s, nI r, tl, pe, K, X, Y, Z, F, H, xO, xN, xC, xS, xL, xE, xG, xW, xM, xP)) (c1 : ∀ t0 t1 tl pe E, gw_Rho (gw_S K X Y Z F H m) (gw_c0 K m H) t0 t1 → t1 ≤ 64 → p = 0 → post (nI t0) (nI m, nI s, nI r, tl, pe, K, X, Y, Z, F, H, xO, xN, xC, xS, xL, E, xG, xW, xM, xP)) (c2 : ∀ t0 t1 tl pe E, gw_Rho (gw_S K X Y Z F H m) (gw_c0 K m H) t0 t1 → t1 ≤ 64 → p = 1 → post (nI (t1 - t0)) (nI m, nI s, nI r, tl, pe, K, X, Y, Z, F, H, xO, xN, xC, xS, xL, E, xG, xW, xM, xP)) : wpX_cycle post (nI m, nI s, nI r, tl, pe, K, X, Y, Z, F, H, xO, xN, xC, xS, xL, xE, xG, xW, xM, xP) p := by
  unfold wpX_cycle
  dsimp only
  refine br_c (fun e => ?_) (fun e => br_c (fun e1 => ?_) (fun e1 => c0 (fun q => q.elim e e1)))
  · unfold wX_cycle_11
    exact gx_cyc hm hW h01 h6 (fun t0 t1 E hR ht => br_t e (c1 t0 t1 _ _ E hR ht e))
  · unfold wX_cycle_11
    exact gx_cyc hm hW h01 h6 (fun t0 t1 E hR ht => br_f e (c2 t0 t1 _ _ E hR ht e1))
end
