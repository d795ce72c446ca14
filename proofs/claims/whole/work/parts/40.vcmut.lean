/-! add, change, next, drop, set -/
def gw_tm (k : Int32) (s r : Nat) : Prop := (k = 1 ∧ (10 ≤ s ∨ 6 ≤ r)) ∨ (k = 0 ∧ 10 ≤ s)
section
variable {m s r : Nat} {tl pe : Int32} {K X Y Z F H xO xN xC xS xL xE xG xW xM xP : Nat → Int32}
theorem gx_tm {post : Int32 → Prop} {k : Int32} (h10 : s ≤ 10) (h6 : r ≤ 6) (h1 : gw_tm k s r → post 1) (h0 : ¬ gw_tm k s r → post 0) : wpX_isOneTooMany post (nI m, nI s, nI r, tl, pe, K, X, Y, Z, F, H, xO, xN, xC, xS, xL, xE, xG, xW, xM, xP) k := by
  refine br_c (fun e => pk_le 10 s (fun g => h1 (Or.inl ⟨e, Or.inl g⟩)) (fun g => pk_lt r 6 (fun g2 => h0 ?_) (fun g2 => h1 (Or.inl ⟨e, Or.inr g2⟩)))) (fun e => br_c (fun e0 => pk_lt s 10 (fun g => h0 ?_) (fun g => h1 (Or.inr ⟨e0, g⟩))) (fun e0 => h0 ?_))
  · rintro (⟨_, q | q⟩ | ⟨q, _⟩)
    · omega
    · omega
    · rw [e] at q; exact absurd q (by decide)
  · rintro (⟨q, _⟩ | ⟨_, q⟩)
    · exact e q
    · omega
  · rintro (⟨q, _⟩ | ⟨q, _⟩)
    · exact e q
    · exact e0 q
theorem gx_write {post : SX → Prop} {n : Nat} {k x y z : Int32} (hn : n < 32) (h : post (nI m, nI s, nI r, tl, pe, upd K n k, upd X n x, upd Y n y, upd Z n z, F, H, xO, xN, xC, xS, xL, xE, xG, xW, xM, xP)) : wpX_write post (nI m, nI s, nI r, tl, pe, K, X, Y, Z, F, H, xO, xN, xC, xS, xL, xE, xG, xW, xM, xP) (nI n) k x y z := by
  have cn : (nI n).toNatClampNeg = n := nI_clamp (by omega)
  have vn : vp_in (nI n) 32 := vp_in_nI (by omega) (by omega)
  unfold wpX_write
  dsimp only
  rw [cn]
  exact ⟨vn, nm_e ⟨vn, nm_e ⟨vn, nm_e ⟨vn, nm_e h⟩⟩⟩⟩
theorem gx_cs1 {post : SX → Prop} {k : Int32} {a b : Bool} (ha : a = decide (k = 0 ∨ k = 1)) (hb : b = decide (k = 1)) (h : post (nI m, nI (s + a.toNat), nI (r + b.toNat), tl, pe, K, X, Y, Z, F, H, xO, xN, xC, xS, xL, xE, xG, xW, xM, xP)) : wpX_countSource post (nI m, nI s, nI r, tl, pe, K, X, Y, Z, F, H, xO, xN, xC, xS, xL, xE, xG, xW, xM, xP) k 1 := by
  unfold wpX_countSource
  dsimp only
  refine gx_sk (fun hk => br_f gw_n10 (nm_r (nI_1 s) ?_)) (fun hk => br_t rfl ?_)
  · rw [decide_eq_true hk] at ha
    rw [ha] at h
    refine br_c (fun e => nm_r (nI_1 r) ?_) (fun e => ?_)
    · rw [decide_eq_true e] at hb
      rw [hb] at h
      exact h
    · rw [decide_eq_false e] at hb
      rw [hb] at h
      exact h
  · rw [decide_eq_false hk] at ha
    have e : ¬ k = 1 := fun q => hk (Or.inr q)
    rw [decide_eq_false e] at hb
    rw [ha, hb] at h
    exact br_f e h
theorem gx_csm {post : SX → Prop} {k : Int32} {a b : Bool} (ha : a = decide (k = 0 ∨ k = 1)) (hb : b = decide (k = 1)) (h : post (nI m, nI s, nI r, tl, pe, K, X, Y, Z, F, H, xO, xN, xC, xS, xL, xE, xG, xW, xM, xP)) : wpX_countSource post (nI m, nI (s + a.toNat), nI (r + b.toNat), tl, pe, K, X, Y, Z, F, H, xO, xN, xC, xS, xL, xE, xG, xW, xM, xP) k (-1) := by
  unfold wpX_countSource
  dsimp only
  refine gx_sk (fun hk => br_f gw_n10 ?_) (fun hk => br_t rfl ?_)
  · rw [decide_eq_true hk] at ha
    rw [ha]
    refine nm_r (pk_m1 s) (br_c (fun e => ?_) (fun e => ?_))
    · rw [decide_eq_true e] at hb
      rw [hb]
      exact nm_r (pk_m1 r) h
    · rw [decide_eq_false e] at hb
      rw [hb]
      exact h
  · rw [decide_eq_false hk] at ha
    have e : ¬ k = 1 := fun q => hk (Or.inr q)
    rw [decide_eq_false e] at hb
    rw [ha, hb]
    exact br_f e h
theorem gw_sk_at {k : Int32} : gw_sk (upd K m k) m = decide (k = 0 ∨ k = 1) := by unfold gw_sk; rw [pk_us]
theorem gw_rk_at {k : Int32} : gw_rk (upd K m k) m = decide (k = 1) := by unfold gw_rk; rw [pk_us]
theorem gx_add {post : Int32 → SX → Prop} {k x y z : Int32} (hm : m ≤ 32) (hs : s = gw_cnt (gw_sk K) m) (hr : r = gw_cnt (gw_rk K) m) (h10 : s ≤ 10) (h6 : r ≤ 6) (c1 : ¬ gw_fit k x y z m → post (-1) (nI m, nI s, nI r, tl, pe, K, X, Y, Z, F, H, xO, xN, xC, xS, xL, xE, xG, xW, xM, xP)) (c2 : gw_fit k x y z m → (m = 32 ∨ gw_tm k s r) → post (-2) (nI m, nI s, nI r, tl, pe, K, X, Y, Z, F, H, xO, xN, xC, xS, xL, xE, xG, xW, xM, xP)) (c3 : gw_fit k x y z m → m < 32 → ¬ gw_tm k s r → post (nI m) (nI (m + 1), nI (gw_cnt (gw_sk (upd K m k)) (m + 1)), nI (gw_cnt (gw_rk (upd K m k)) (m + 1)), tl, pe, upd K m k, upd X m x, upd Y m y, upd Z m z, upd F m (nI m), upd H m 0, xO, xN, xC, xS, xL, xE, xG, xW, xM, xP)) : wpX_add post (nI m, nI s, nI r, tl, pe, K, X, Y, Z, F, H, xO, xN, xC, xS, xL, xE, xG, xW, xM, xP) k x y z := by
  unfold wpX_add
  dsimp only
  refine gx_fits (by omega) (fun hf => br_f gw_n10 ?_) (fun hf => br_t rfl (c1 hf))
  by_cases h32 : m = 32
  · exact br_t (nI_le (a := 32) (by omega) (by omega)) (c2 hf (Or.inl h32))
  · have cn : (nI m).toNatClampNeg = m := nI_clamp (by omega)
    have vn : vp_in (nI m) 32 := vp_in_nI (by omega) (by omega)
    refine br_f (nI_ge (b := 32) (by omega) (by decide)) (gx_tm h10 h6 (fun ht => br_f gw_n10 (c2 hf (Or.inr ht))) (fun ht => br_t rfl (nm_r (nI_1 m) (gx_write (by omega) ?_))))
    rw [cn]
    refine ⟨vn, nm_e ⟨vn, nm_e (gx_cs1 (a := gw_sk (upd K m k) m) (b := gw_rk (upd K m k) m) gw_sk_at gw_rk_at ?_)⟩⟩
    have g := c3 hf (by omega) ht
    have e1 : gw_cnt (gw_sk (upd K m k)) (m + 1) = s + (gw_sk (upd K m k) m).toNat := by rw [hs]; exact congrArg (fun t => t + (gw_sk (upd K m k) m).toNat) gw_csk_add
    have e2 : gw_cnt (gw_rk (upd K m k)) (m + 1) = r + (gw_rk (upd K m k) m).toNat := by rw [hr]; exact congrArg (fun t => t + (gw_rk (upd K m k) m).toNat) gw_crk_add
    rw [e1, e2] at g
    exact g
/-- when a change is taken -/
def gw_cok (K : Nat → Int32) (m : Nat) (p k x y z : Int32) (n : Nat) : Prop := n < m ∧ p = nI n ∧ gw_sk K n = false ∧ ¬ (k = 0 ∨ k = 1) ∧ gw_fit k x y z n
theorem gx_change {post : Int32 → SX → Prop} {p k x y z : Int32} (hm : m ≤ 32) (c0 : (∀ n, ¬ gw_cok K m p k x y z n) → post 0 (nI m, nI s, nI r, tl, pe, K, X, Y, Z, F, H, xO, xN, xC, xS, xL, xE, xG, xW, xM, xP)) (c1 : ∀ n, gw_cok K m p k x y z n → post 1 (nI m, nI s, nI r, tl, pe, upd K n k, upd X n x, upd Y n y, upd Z n z, F, H, xO, xN, xC, xS, xL, xE, xG, xW, xM, xP)) : wpX_change post (nI m, nI s, nI r, tl, pe, K, X, Y, Z, F, H, xO, xN, xC, xS, xL, xE, xG, xW, xM, xP) p k x y z := by
  unfold wpX_change
  dsimp only
  rcases gw_net (x := p) (m := m) (by omega) with ⟨n, hn, rfl⟩ | hx
  · have cn : (nI n).toNatClampNeg = n := nI_clamp (by omega)
    have vn : vp_in (nI n) 32 := vp_in_nI (by omega) (by omega)
    have one : ∀ j, gw_cok K m (nI n) k x y z j → j = n := fun j hj => by
      have := hj.2.1
      rw [nI_eq (by omega) (by have := hj.1; omega)] at this
      exact this.symm
    refine gx_net hm hn (br_f gw_n10 ⟨vn, gx_sk (fun hk => br_f gw_n10 (c0 (fun j hj => ?_))) (fun hk => br_t rfl (gx_sk (fun hk2 => br_f gw_n10 (c0 (fun j hj => hj.2.2.2.1 hk2))) (fun hk2 => br_t rfl (gx_fits (by omega) (fun hf => br_f gw_n10 (gx_write (by omega) (c1 n ⟨hn, rfl, ?_, hk2, hf⟩))) (fun hf => br_t rfl (c0 (fun j hj => ?_)))))))⟩)
    · rw [cn] at hk
      have h1 := hj.2.2.1
      rw [one j hj, gw_sk_t.mpr hk] at h1
      exact absurd h1.symm Bool.false_ne_true
    · rw [cn] at hk
      exact gw_sk_f.mpr hk
    · have h1 := hj.2.2.2.2
      rw [one j hj] at h1
      exact hf h1
  · refine gx_nonet hx (br_t rfl (c0 (fun n hn => hx ?_)))
    exact (gw_bl_iff (by omega)).mp ⟨n, hn.1, hn.2.1⟩
theorem gx_next {post : Int32 → SX → Prop} {p q : Int32} (hm : m ≤ 32) (c0 : (∀ n j, n < m → j < m → p = nI n → q = nI j → ¬ K n = 1) → post 0 (nI m, nI s, nI r, tl, pe, K, X, Y, Z, F, H, xO, xN, xC, xS, xL, xE, xG, xW, xM, xP)) (c1 : ∀ n j, n < m → j < m → p = nI n → q = nI j → K n = 1 → post 1 (nI m, nI s, nI r, tl, pe, K, X, Y, Z, upd F n (nI j), H, xO, xN, xC, xS, xL, xE, xG, xW, xM, xP)) : wpX_next post (nI m, nI s, nI r, tl, pe, K, X, Y, Z, F, H, xO, xN, xC, xS, xL, xE, xG, xW, xM, xP) p q := by
  unfold wpX_next
  dsimp only
  rcases gw_net (x := p) (m := m) (by omega) with ⟨n, hn, rfl⟩ | hx
  · have cn : (nI n).toNatClampNeg = n := nI_clamp (by omega)
    have vn : vp_in (nI n) 32 := vp_in_nI (by omega) (by omega)
    refine gx_net hm hn (br_f gw_n10 ⟨vn, br_c (fun e => ?_) (fun e => c0 (fun n' j hn' hj e1 e2 => ?_))⟩)
    · rw [cn] at e
      rcases gw_net (x := q) (m := m) (by omega) with ⟨j, hj, rfl⟩ | hx
      · exact gx_net hm hj (br_f gw_n10 ⟨vn, nm_r (by rw [cn]) (c1 n j hn hj rfl rfl e)⟩)
      · refine gx_nonet hx (br_t rfl (c0 (fun n' j hn' hj e1 e2 => absurd ?_ hx)))
        exact (gw_bl_iff (by omega)).mp ⟨j, hj, e2⟩
    · rw [cn] at e
      rw [nI_eq (by omega) (by omega)] at e1
      rw [← e1]
      exact e
  · refine gx_nonet hx (br_t rfl (c0 (fun n j hn hj e1 e2 => absurd ?_ hx)))
    exact (gw_bl_iff (by omega)).mp ⟨n, hn, e1⟩
theorem gx_set {post : Int32 → SX → Prop} {p : Int32} {b : Bool} (hm : m ≤ 32) (c0 : (∀ n, n < m → p = nI n → gw_sk K n = false) → post 0 (nI m, nI s, nI r, tl, pe, K, X, Y, Z, F, H, xO, xN, xC, xS, xL, xE, xG, xW, xM, xP)) (c1 : ∀ n, n < m → p = nI n → gw_sk K n = true → post 1 (nI m, nI s, nI r, tl, pe, K, X, Y, Z, F, upd H n (gw_b b), xO, xN, xC, xS, xL, xE, xG, xW, xM, xP)) : wpX_set post (nI m, nI s, nI r, tl, pe, K, X, Y, Z, F, H, xO, xN, xC, xS, xL, xE, xG, xW, xM, xP) p (gw_b b) := by
  unfold wpX_set
  dsimp only
  refine gx_src hm (fun n hn e hs => br_f gw_n10 ?_) (fun h => br_t rfl (c0 h))
  have cn : (nI n).toNatClampNeg = n := nI_clamp (by omega)
  have vn : vp_in (nI n) 32 := vp_in_nI (by omega) (by omega)
  have g := c1 n hn e hs
  rw [e]
  cases b with
  | true => exact br_f (by decide) ⟨vn, nm_r (by rw [cn]; rfl) g⟩
  | false => exact br_t (by decide) ⟨vn, nm_r (by rw [cn]; rfl) g⟩
theorem gx_drop_l {post : Int32 → SX → Prop} (hm : m + 1 ≤ 32) (c0 : (∃ n, n < m ∧ K n = 1 ∧ F n = nI m) → post (-1) (nI (m + 1), nI (s + (gw_sk K m).toNat), nI (r + (gw_rk K m).toNat), tl, pe, K, X, Y, Z, F, H, xO, xN, xC, xS, xL, xE, xG, xW, xM, xP)) (c1 : (∀ n, n < m → K n = 1 → F n ≠ nI m) → post (nI m) (nI m, nI s, nI r, tl, pe, K, X, Y, Z, F, H, xO, xN, xC, xS, xL, xE, xG, xW, xM, xP)) : ∀ d n g, n + d = m → d < g → (∀ j, j < n → K j = 1 → F j ≠ nI m) → wX_drop_18 post (nI m) (nI (m + 1)) (nI (s + (gw_sk K m).toNat)) (nI (r + (gw_rk K m).toNat)) tl pe K X Y Z F H xO xN xC xS xL xE xG xW xM xP g (nI n) := by
  intro d
  induction d with
  | zero =>
    intro n g h1 h2 hA
    obtain ⟨g, rfl⟩ := gw_fz h2
    have e : n = m := by omega
    have cm : (nI m).toNatClampNeg = m := nI_clamp (by omega)
    rw [wX_drop_18]
    refine br_t (nI_le (by omega) (by omega)) ⟨vp_in_nI (by omega) (by omega), ?_⟩
    rw [cm]
    refine gx_csm rfl rfl (c1 ?_)
    rw [← e] at hA ⊢
    exact hA
  | succ d ih =>
    intro n g h1 h2 hA
    obtain ⟨g, rfl⟩ := gw_fz h2
    have cn : (nI n).toNatClampNeg = n := nI_clamp (by omega)
    have vn : vp_in (nI n) 32 := vp_in_nI (by omega) (by omega)
    have go : (K n = 1 → F n ≠ nI m) → wX_drop_18 post (nI m) (nI (m + 1)) (nI (s + (gw_sk K m).toNat)) (nI (r + (gw_rk K m).toNat)) tl pe K X Y Z F H xO xN xC xS xL xE xG xW xM xP g (nI (n + 1)) := fun hh =>
      ih (n + 1) g (by omega) (by omega) (lt_s hA hh)
    rw [wX_drop_18]
    refine br_f (nI_ge (by omega) (by omega)) ⟨vn, ?_⟩
    rw [cn]
    refine br_c (fun e => ⟨vn, br_c (fun e2 => c0 ⟨n, by omega, e, e2⟩) (fun e2 => nm_r (nI_1 n) (go (fun _ => e2)))⟩) (fun e => nm_r (nI_1 n) (go (fun q => absurd q e)))
theorem gx_drop {post : Int32 → SX → Prop} (hm : m + 1 ≤ 32) (c0 : (∃ n, n < m ∧ K n = 1 ∧ F n = nI m) → post (-1) (nI (m + 1), nI (s + (gw_sk K m).toNat), nI (r + (gw_rk K m).toNat), tl, pe, K, X, Y, Z, F, H, xO, xN, xC, xS, xL, xE, xG, xW, xM, xP)) (c1 : (∀ n, n < m → K n = 1 → F n ≠ nI m) → post (nI m) (nI m, nI s, nI r, tl, pe, K, X, Y, Z, F, H, xO, xN, xC, xS, xL, xE, xG, xW, xM, xP)) : wpX_drop post (nI (m + 1), nI (s + (gw_sk K m).toNat), nI (r + (gw_rk K m).toNat), tl, pe, K, X, Y, Z, F, H, xO, xN, xC, xS, xL, xE, xG, xW, xM, xP) := by
  unfold wpX_drop
  dsimp only
  refine br_f (nI_ne0 (by omega) (by omega)) (nm_r (nI_pred m) ⟨m + 1, ?_⟩)
  exact gx_drop_l hm c0 c1 m 0 (m + 1) (by omega) (by omega) (fun j hj => absurd hj (Nat.not_lt_zero _))
end
section
variable {m s r : Nat} {K X Y Z F H yA yO yS yR yL yN yD yT yM yF yW yP : Nat → Int32}
theorem gy_put {post : SY → Prop} {n : Nat} {k x y z : Int32} (hn : n < 32) (h : post (nI m, nI s, nI r, upd K n k, upd X n x, upd Y n y, upd Z n z, F, H, yA, yO, yS, yR, yL, yN, yD, yT, yM, yF, yW, yP)) : wpY_put post (nI m, nI s, nI r, K, X, Y, Z, F, H, yA, yO, yS, yR, yL, yN, yD, yT, yM, yF, yW, yP) (nI n) k x y z := by
  have cn : (nI n).toNatClampNeg = n := nI_clamp (by omega)
  have vn : vp_in (nI n) 32 := vp_in_nI (by omega) (by omega)
  unfold wpY_put
  dsimp only
  rw [cn]
  exact ⟨vn, nm_e ⟨vn, nm_e ⟨vn, nm_e ⟨vn, nm_e h⟩⟩⟩⟩
theorem gy_add67 {post : Int32 → SY → Prop} {k x y z : Int32} (hm : m < 32) (hW : gw_W K X Y Z F m) (hf : gw_fit k x y z m) (h10 : gw_cnt (gw_sk (upd K m k)) (m + 1) ≤ 10) (h6 : gw_cnt (gw_rk (upd K m k)) (m + 1) ≤ 6) (h : ∀ S R, gw_En (gw_sk (upd K m k)) S (m + 1) → gw_En (gw_rk (upd K m k)) R (m + 1) → post (nI m) (nI (m + 1), nI (gw_cnt (gw_sk (upd K m k)) (m + 1)), nI (gw_cnt (gw_rk (upd K m k)) (m + 1)), upd K m k, upd X m x, upd Y m y, upd Z m z, upd F m (nI m), upd H m 0, yA, yO, S, R, yL, yN, yD, yT, yM, yF, yW, yP)) : wY_add_67 post k x y z (nI m) (nI s) (nI r) K X Y Z F H yA yO yS yR yL yN yD yT yM yF yW yP := by
  have cn : (nI m).toNatClampNeg = m := nI_clamp (by omega)
  have vn : vp_in (nI m) 32 := vp_in_nI (by omega) (by omega)
  unfold wY_add_67
  refine gy_put (by omega) ?_
  dsimp only
  rw [cn]
  refine ⟨vn, nm_r (e' := upd H m 0) rfl ⟨vn, nm_e (nm_r (nI_1 m) (gy_order (by omega) (gw_W_add hW hf) h10 h6 (fun S R hS hR => ?_)))⟩⟩
  dsimp only
  rw [nI_pred]
  exact h S R hS hR
theorem gy_add {post : Int32 → SY → Prop} {k x y z : Int32} (hm : m ≤ 32) (hW : gw_W K X Y Z F m) (hs : s = gw_cnt (gw_sk K) m) (hr : r = gw_cnt (gw_rk K) m) (h10 : s ≤ 10) (h6 : r ≤ 6) (c1 : ¬ gw_fit k x y z m → post (-1) (nI m, nI s, nI r, K, X, Y, Z, F, H, yA, yO, yS, yR, yL, yN, yD, yT, yM, yF, yW, yP)) (c2 : gw_fit k x y z m → (m = 32 ∨ gw_tm k s r) → post (-2) (nI m, nI s, nI r, K, X, Y, Z, F, H, yA, yO, yS, yR, yL, yN, yD, yT, yM, yF, yW, yP)) (c3 : gw_fit k x y z m → m < 32 → ¬ gw_tm k s r → ∀ S R, gw_En (gw_sk (upd K m k)) S (m + 1) → gw_En (gw_rk (upd K m k)) R (m + 1) → post (nI m) (nI (m + 1), nI (gw_cnt (gw_sk (upd K m k)) (m + 1)), nI (gw_cnt (gw_rk (upd K m k)) (m + 1)), upd K m k, upd X m x, upd Y m y, upd Z m z, upd F m (nI m), upd H m 0, yA, yO, S, R, yL, yN, yD, yT, yM, yF, yW, yP)) : wpY_add post (nI m, nI s, nI r, K, X, Y, Z, F, H, yA, yO, yS, yR, yL, yN, yD, yT, yM, yF, yW, yP) k x y z := by
  unfold wpY_add
  dsimp only
  refine gy_in (fun k0 k7 => br_f gw_n10 (gy_fit (by omega) k0 k7 (fun hf => br_f gw_n10 ?_) (fun hf => br_t rfl (c1 hf)))) (fun hn => br_t rfl (c1 (fun g => hn (gw_fit_k g))))
  by_cases h32 : m = 32
  · exact br_t (by rw [h32]; rfl) (c2 hf (Or.inl h32))
  · refine br_f (fun e => h32 ((nI_eq (b := 32) (by omega) (by decide)).mp e)) ?_
    have e1 : gw_cnt (gw_sk (upd K m k)) (m + 1) = s + (gw_sk (upd K m k) m).toNat := by rw [hs]; exact congrArg (fun t => t + (gw_sk (upd K m k) m).toNat) gw_csk_add
    have e2 : gw_cnt (gw_rk (upd K m k)) (m + 1) = r + (gw_rk (upd K m k) m).toNat := by rw [hr]; exact congrArg (fun t => t + (gw_rk (upd K m k) m).toNat) gw_crk_add
    have fin : ¬ gw_tm k s r → wY_add_67 post k x y z (nI m) (nI s) (nI r) K X Y Z F H yA yO yS yR yL yN yD yT yM yF yW yP := by
      intro ht
      refine gy_add67 (by omega) hW hf ?_ ?_ (c3 hf (by omega) ht)
      · rw [e1, gw_sk_at]
        by_cases q : k = 0 ∨ k = 1
        · rw [decide_eq_true q]
          have : ¬ 10 ≤ s := fun h => ht (by
            rcases q with q | q
            · exact Or.inr ⟨q, h⟩
            · exact Or.inl ⟨q, Or.inl h⟩)
          show s + 1 ≤ 10
          omega
        · rw [decide_eq_false q]
          exact h10
      · rw [e2, gw_rk_at]
        by_cases q : k = 1
        · rw [decide_eq_true q]
          have : ¬ 6 ≤ r := fun h => ht (Or.inl ⟨q, Or.inr h⟩)
          show r + 1 ≤ 6
          omega
        · rw [decide_eq_false q]
          exact h6
    have e50 : ((k = 0 ∨ k = 1) → s ≠ 10) → wY_add_50 post k x y z (nI m) (nI s) (nI r) K X Y Z F H yA yO yS yR yL yN yD yT yM yF yW yP := by
      intro hs10
      refine br_c (fun e => ?_) (fun e => fin ?_)
      · by_cases h6' : r = 6
        · exact br_t (by rw [h6']; rfl) (c2 hf (Or.inr (Or.inl ⟨e, Or.inr (by omega)⟩)))
        · refine br_f (fun q => h6' ((nI_eq (b := 6) (by omega) (by decide)).mp q)) (fin ?_)
          have := hs10 (Or.inr e)
          rintro (⟨_, q | q⟩ | ⟨q, _⟩)
          · omega
          · omega
          · rw [e] at q; exact absurd q (by decide)
      · rintro (⟨q, _⟩ | ⟨q, q2⟩)
        · exact e q
        · have := hs10 (Or.inl q)
          omega
    refine br_c (fun e => e50 (fun q => absurd ((gw_k2 k0).mpr q) (Int32.not_lt.mpr e))) (fun e => ?_)
    have hk := (gw_k2 k0).mp (Int32.not_le.mp e)
    by_cases h10' : s = 10
    · refine br_t (by rw [h10']; rfl) (c2 hf (Or.inr ?_))
      rcases hk with q | q
      · exact Or.inr ⟨q, by omega⟩
      · exact Or.inl ⟨q, Or.inl (by omega)⟩
    · exact br_f (fun q => h10' ((nI_eq (b := 10) (by omega) (by decide)).mp q)) (e50 (fun _ => h10'))
theorem gy_change {post : Int32 → SY → Prop} {p k x y z : Int32} (hm : m ≤ 32) (hW : gw_W K X Y Z F m) (c0 : (∀ n, ¬ gw_cok K m p k x y z n) → post 0 (nI m, nI s, nI r, K, X, Y, Z, F, H, yA, yO, yS, yR, yL, yN, yD, yT, yM, yF, yW, yP)) (c1 : ∀ n, gw_cok K m p k x y z n → post 1 (nI m, nI s, nI r, upd K n k, upd X n x, upd Y n y, upd Z n z, F, H, yA, yO, yS, yR, yL, yN, yD, yT, yM, yF, yW, yP)) : wpY_change post (nI m, nI s, nI r, K, X, Y, Z, F, H, yA, yO, yS, yR, yL, yN, yD, yT, yM, yF, yW, yP) p k x y z := by
  unfold wpY_change
  dsimp only
  rcases gw_net (x := p) (m := m) (by omega) with ⟨n, hn, rfl⟩ | hx
  · have one : ∀ j, gw_cok K m (nI n) k x y z j → j = n := fun j hj => by
      have := hj.2.1
      rw [nI_eq (by omega) (by have := hj.1; omega)] at this
      exact this.symm
    refine gy_net hm hn (br_f gw_n10 (gy_src hm hW (fun j hj e hs => br_f gw_n10 (c0 (fun i hi => ?_))) (fun hns => br_t rfl (gy_in (fun k2 k7 => br_f gw_n10 (gy_fit (by omega) (Int32.le_trans (by decide) k2) k7 (fun hf => br_f gw_n10 (gy_put (by omega) (c1 n ⟨hn, rfl, hns n hn rfl, ?_, hf⟩))) (fun hf => br_t rfl (c0 (fun j hj => ?_))))) (fun hk => br_t rfl (c0 (fun j hj => hk ?_)))))))
    · rw [nI_eq (by omega) (by omega)] at e
      have h1 := hi.2.2.1
      rw [one i hi, e, hs] at h1
      exact absurd h1.symm Bool.false_ne_true
    · intro q
      rcases q with q | q
      · rw [q] at k2; exact absurd k2 (by decide)
      · rw [q] at k2; exact absurd k2 (by decide)
    · have h1 := hj.2.2.2.2
      rw [one j hj] at h1
      exact hf h1
    · have h1 := gw_fit_k hj.2.2.2.2
      refine ⟨Int32.not_lt.mp (fun q => hj.2.2.2.1 ((gw_k2 h1.1).mp q)), h1.2⟩
  · refine gy_nonet hm hx (br_t rfl (c0 (fun n hn => hx ?_)))
    exact (gw_bl_iff (by omega)).mp ⟨n, hn.1, hn.2.1⟩
theorem gy_next {post : Int32 → SY → Prop} {p q : Int32} (hm : m ≤ 32) (c0 : (∀ n j, n < m → j < m → p = nI n → q = nI j → ¬ K n = 1) → post 0 (nI m, nI s, nI r, K, X, Y, Z, F, H, yA, yO, yS, yR, yL, yN, yD, yT, yM, yF, yW, yP)) (c1 : ∀ n j, n < m → j < m → p = nI n → q = nI j → K n = 1 → post 1 (nI m, nI s, nI r, K, X, Y, Z, upd F n (nI j), H, yA, yO, yS, yR, yL, yN, yD, yT, yM, yF, yW, yP)) : wpY_next post (nI m, nI s, nI r, K, X, Y, Z, F, H, yA, yO, yS, yR, yL, yN, yD, yT, yM, yF, yW, yP) p q := by
  unfold wpY_next
  dsimp only
  rcases gw_net (x := p) (m := m) (by omega) with ⟨n, hn, rfl⟩ | hx
  · have cn : (nI n).toNatClampNeg = n := nI_clamp (by omega)
    have vn : vp_in (nI n) 32 := vp_in_nI (by omega) (by omega)
    refine gy_net hm hn (br_f gw_n10 ⟨vn, br_c (fun e => ?_) (fun e => c0 (fun n' j hn' hj e1 e2 => ?_))⟩)
    · rw [cn] at e
      rcases gw_net (x := q) (m := m) (by omega) with ⟨j, hj, rfl⟩ | hx
      · exact gy_net hm hj (br_f gw_n10 ⟨vn, nm_r (by rw [cn]) (c1 n j hn hj rfl rfl e)⟩)
      · refine gy_nonet hm hx (br_t rfl (c0 (fun n' j hn' hj e1 e2 => absurd ?_ hx)))
        exact (gw_bl_iff (by omega)).mp ⟨j, hj, e2⟩
    · rw [cn] at e
      rw [nI_eq (by omega) (by omega)] at e1
      rw [← e1]
      exact e
  · refine gy_nonet hm hx (br_t rfl (c0 (fun n j hn hj e1 e2 => absurd ?_ hx)))
    exact (gw_bl_iff (by omega)).mp ⟨n, hn, e1⟩
theorem gy_set {post : Int32 → SY → Prop} {p : Int32} {b : Bool} (hm : m ≤ 32) (hW : gw_W K X Y Z F m) (c0 : (∀ n, n < m → p = nI n → gw_sk K n = false) → post 0 (nI m, nI s, nI r, K, X, Y, Z, F, H, yA, yO, yS, yR, yL, yN, yD, yT, yM, yF, yW, yP)) (c1 : ∀ n, n < m → p = nI n → gw_sk K n = true → post 1 (nI m, nI s, nI r, K, X, Y, Z, F, upd H n (gw_b b), yA, yO, yS, yR, yL, yN, yD, yT, yM, yF, yW, yP)) : wpY_set post (nI m, nI s, nI r, K, X, Y, Z, F, H, yA, yO, yS, yR, yL, yN, yD, yT, yM, yF, yW, yP) p (gw_b b) := by
  unfold wpY_set
  dsimp only
  refine gy_src hm hW (fun n hn e hs => br_f gw_n10 ?_) (fun h => br_t rfl (c0 h))
  have cn : (nI n).toNatClampNeg = n := nI_clamp (by omega)
  have vn : vp_in (nI n) 32 := vp_in_nI (by omega) (by omega)
  have g := c1 n hn e hs
  rw [e]
  exact ⟨vn, nm_r (by rw [cn, gw_narb]) g⟩
theorem gy_drop_l {post : Int32 → SY → Prop} (hm : m + 1 ≤ 32) (hW : (∀ n, n < m → K n = 1 → F n ≠ nI m) → gw_W K X Y Z F m) (h10 : gw_cnt (gw_sk K) m ≤ 10) (h6 : gw_cnt (gw_rk K) m ≤ 6) (c0 : (∃ n, n < m ∧ K n = 1 ∧ F n = nI m) → post (-1) (nI (m + 1), nI s, nI r, K, X, Y, Z, F, H, yA, yO, yS, yR, yL, yN, yD, yT, yM, yF, yW, yP)) (c1 : (∀ n, n < m → K n = 1 → F n ≠ nI m) → ∀ S R, gw_En (gw_sk K) S m → gw_En (gw_rk K) R m → post (nI m) (nI m, nI (gw_cnt (gw_sk K) m), nI (gw_cnt (gw_rk K) m), K, X, Y, Z, F, H, yA, yO, S, R, yL, yN, yD, yT, yM, yF, yW, yP)) : ∀ d n g, n + d = m → d < g → (∀ j, j < n → K j = 1 → F j ≠ nI m) → wY_drop_11 post (nI (m + 1)) (nI s) (nI r) K X Y Z F H yA yO yS yR yL yN yD yT yM yF yW yP g (nI n) := by
  intro d
  induction d with
  | zero =>
    intro n g h1 h2 hA
    obtain ⟨g, rfl⟩ := gw_fz h2
    have e : n = m := by omega
    rw [wY_drop_11, nI_pred]
    rw [e] at hA ⊢
    exact br_t (nI_le (by omega) (by omega)) (nm_e (gy_order (by omega) (hW hA) h10 h6 (fun S R hS hR => c1 hA S R hS hR)))
  | succ d ih =>
    intro n g h1 h2 hA
    obtain ⟨g, rfl⟩ := gw_fz h2
    have cn : (nI n).toNatClampNeg = n := nI_clamp (by omega)
    have vn : vp_in (nI n) 32 := vp_in_nI (by omega) (by omega)
    have go : (K n = 1 → F n ≠ nI m) → wY_drop_11 post (nI (m + 1)) (nI s) (nI r) K X Y Z F H yA yO yS yR yL yN yD yT yM yF yW yP g (nI (n + 1)) := fun hh =>
      ih (n + 1) g (by omega) (by omega) (lt_s hA hh)
    rw [wY_drop_11, nI_pred]
    refine br_f (nI_ge (by omega) (by omega)) ⟨vn, ?_⟩
    rw [cn]
    refine br_c (fun e => ⟨vn, br_c (fun e2 => c0 ⟨n, by omega, e, e2⟩) (fun e2 => nm_r (nI_1 n) (go (fun _ => e2)))⟩) (fun e => nm_r (nI_1 n) (go (fun q => absurd q e)))
theorem gy_drop {post : Int32 → SY → Prop} (hm : m + 1 ≤ 32) (hW : (∀ n, n < m → K n = 1 → F n ≠ nI m) → gw_W K X Y Z F m) (h10 : gw_cnt (gw_sk K) m ≤ 10) (h6 : gw_cnt (gw_rk K) m ≤ 6) (c0 : (∃ n, n < m ∧ K n = 1 ∧ F n = nI m) → post (-1) (nI (m + 1), nI s, nI r, K, X, Y, Z, F, H, yA, yO, yS, yR, yL, yN, yD, yT, yM, yF, yW, yP)) (c1 : (∀ n, n < m → K n = 1 → F n ≠ nI m) → ∀ S R, gw_En (gw_sk K) S m → gw_En (gw_rk K) R m → post (nI m) (nI m, nI (gw_cnt (gw_sk K) m), nI (gw_cnt (gw_rk K) m), K, X, Y, Z, F, H, yA, yO, S, R, yL, yN, yD, yT, yM, yF, yW, yP)) : wpY_drop post (nI (m + 1), nI s, nI r, K, X, Y, Z, F, H, yA, yO, yS, yR, yL, yN, yD, yT, yM, yF, yW, yP) := by
  unfold wpY_drop
  dsimp only
  refine br_f (nI_ne0 (by omega) (by omega)) ⟨m + 1, ?_⟩
  exact gy_drop_l hm hW h10 h6 c0 c1 m 0 (m + 1) (by omega) (by omega) (fun j hj => absurd hj (Nat.not_lt_zero _))
end
