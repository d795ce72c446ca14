/-! the owed rows of new, add, change, next, drop, set -/
theorem i_vc0 : wpX_init (fun u => wpY_init (fun v => i_Rel 0 u v)) :=
  gw_rel (k := 0) (m := 0) (K := fun _ => 0) (X := fun _ => 0) (Y := fun _ => 0) (Z := fun _ => 0) (F := fun _ => 0) (H := fun _ => 0) ⟨Nat.zero_le _, fun n hn => absurd hn (Nat.not_lt_zero _), fun _ => Or.inl rfl, Nat.zero_le _, Nat.zero_le _⟩ (fun n hn => absurd hn (Nat.not_lt_zero _)) (fun n hn => absurd hn (Nat.not_lt_zero _))
theorem i_vc_add {k : Nat} {u : SX} {v : SY} (I : i_Rel k u v) (hk : k + 6 ≤ 3072) (v1 : Int32) (v2 : Int32) (v3 : Int32) (v4 : Int32) : wpX_add (fun r u' => wpY_add (fun r' v' => r' = r ∧ i_Rel (k + 6) u' v') v v1 v2 v3 v4) u v1 v2 v3 v4 := by
  have J : i_Rel (k + 6) u v := I
  obtain ⟨m, K, X, Y, Z, F, H, ⟨hm, hW, h01, h10, h6⟩, ⟨tl, pe, xO, xN, xC, xS, xL, xE, xG, xW, xM, xP, rfl⟩, ⟨yA, yO, yS, yR, yL, yN, yD, yT, yM, yF, yW, yP, rfl, hS, hR⟩⟩ := I
  refine gx_add hm rfl rfl h10 h6 (fun hf => ?_) (fun hf hx => ?_) (fun hf hlt ht => ?_)
  · exact gy_add hm hW rfl rfl h10 h6 (fun _ => ⟨rfl, J⟩) (fun q => absurd q hf) (fun q => absurd q hf)
  · refine gy_add hm hW rfl rfl h10 h6 (fun q => absurd hf q) (fun _ _ => ⟨rfl, J⟩) (fun _ hlt ht => ?_)
    rcases hx with hx | hx
    · omega
    · exact absurd hx ht
  · refine gy_add hm hW rfl rfl h10 h6 (fun q => absurd hf q) (fun _ hx => ?_) (fun _ _ _ S R hS' hR' => ⟨rfl, gw_rel ⟨by omega, gw_W_add hW hf, gw_01_upd h01 (Or.inl rfl), ?_, ?_⟩ hS' hR'⟩)
    · rcases hx with hx | hx
      · omega
      · exact absurd hx ht
    · show gw_cnt (gw_sk (upd K m v1)) m + (gw_sk (upd K m v1) m).toNat ≤ 10
      rw [gw_csk_add, gw_sk_at]
      by_cases q : v1 = 0 ∨ v1 = 1
      · rw [decide_eq_true q]
        have : ¬ 10 ≤ gw_cnt (gw_sk K) m := fun h => ht (by
          rcases q with q | q
          · exact Or.inr ⟨q, h⟩
          · exact Or.inl ⟨q, Or.inl h⟩)
        show gw_cnt (gw_sk K) m + 1 ≤ 10
        omega
      · rw [decide_eq_false q]
        exact h10
    · show gw_cnt (gw_rk (upd K m v1)) m + (gw_rk (upd K m v1) m).toNat ≤ 6
      rw [gw_crk_add, gw_rk_at]
      by_cases q : v1 = 1
      · rw [decide_eq_true q]
        have : ¬ 6 ≤ gw_cnt (gw_rk K) m := fun h => ht (Or.inl ⟨q, Or.inr h⟩)
        show gw_cnt (gw_rk K) m + 1 ≤ 6
        omega
      · rw [decide_eq_false q]
        exact h6
theorem i_vc_change {k : Nat} {u : SX} {v : SY} (I : i_Rel k u v) (hk : k + 6 ≤ 3072) (v1 : Int32) (v2 : Int32) (v3 : Int32) (v4 : Int32) (v5 : Int32) : wpX_change (fun r u' => wpY_change (fun r' v' => r' = r ∧ i_Rel (k + 6) u' v') v v1 v2 v3 v4 v5) u v1 v2 v3 v4 v5 := by
  have J : i_Rel (k + 6) u v := I
  obtain ⟨m, K, X, Y, Z, F, H, ⟨hm, hW, h01, h10, h6⟩, ⟨tl, pe, xO, xN, xC, xS, xL, xE, xG, xW, xM, xP, rfl⟩, ⟨yA, yO, yS, yR, yL, yN, yD, yT, yM, yF, yW, yP, rfl, hS, hR⟩⟩ := I
  refine gx_change hm (fun hn => ?_) (fun n hn => ?_)
  · exact gy_change hm hW (fun _ => ⟨rfl, J⟩) (fun n q => absurd q (hn n))
  · refine gy_change hm hW (fun q => absurd hn (q n)) (fun j hj => ?_)
    have e : j = n := by
      have h1 := hn.2.1
      rw [hj.2.1, nI_eq (by have := hj.1; omega) (by have := hn.1; omega)] at h1
      exact h1
    subst e
    obtain ⟨h1, _, hs, hk2, hf⟩ := hn
    have es : ∀ n, gw_sk (upd K j v2) n = gw_sk K n := gw_sk_ch (fun q => hk2 (Or.inl q)) (fun q => hk2 (Or.inr q)) hs
    have er : ∀ n, gw_rk (upd K j v2) n = gw_rk K n := gw_rk_ch (fun q => hk2 (Or.inr q)) hs
    have fs : gw_sk (upd K j v2) = gw_sk K := funext es
    have fr : gw_rk (upd K j v2) = gw_rk K := funext er
    refine ⟨rfl, ?_⟩
    have g := gw_rel (k := k + 6) (K := upd K j v2) (X := upd X j v3) (Y := upd Y j v4) (Z := upd Z j v5) (F := F) (H := H) (m := m) (tl := tl) (pe := pe) (xO := xO) (xN := xN) (xC := xC) (xS := xS) (xL := xL) (xE := xE) (xG := xG) (xW := xW) (xM := xM) (xP := xP) (yA := yA) (yO := yO) (yS := yS) (yR := yR) (yL := yL) (yN := yN) (yD := yD) (yT := yT) (yM := yM) (yF := yF) (yW := yW) (yP := yP) ⟨hm, gw_W_ch hW hf (fun q => hk2 (Or.inl q)) (fun q => hk2 (Or.inr q)), h01, by rw [fs]; exact h10, by rw [fr]; exact h6⟩ (by rw [fs]; exact hS) (by rw [fr]; exact hR)
    rw [fs, fr] at g
    exact g
theorem i_vc_next {k : Nat} {u : SX} {v : SY} (I : i_Rel k u v) (hk : k + 6 ≤ 3072) (v1 : Int32) (v2 : Int32) : wpX_next (fun r u' => wpY_next (fun r' v' => r' = r ∧ i_Rel (k + 6) u' v') v v1 v2) u v1 v2 := by
  have J : i_Rel (k + 6) u v := I
  obtain ⟨m, K, X, Y, Z, F, H, ⟨hm, hW, h01, h10, h6⟩, ⟨tl, pe, xO, xN, xC, xS, xL, xE, xG, xW, xM, xP, rfl⟩, ⟨yA, yO, yS, yR, yL, yN, yD, yT, yM, yF, yW, yP, rfl, hS, hR⟩⟩ := I
  refine gx_next hm (fun hn => ?_) (fun n j hn hj e1 e2 hk1 => ?_)
  · exact gy_next hm (fun _ => ⟨rfl, J⟩) (fun n j hn' hj e1 e2 q => absurd q (hn n j hn' hj e1 e2))
  · refine gy_next hm (fun q => absurd hk1 (q n j hn hj e1 e2)) (fun n' j' hn' hj' e1' e2' _ => ?_)
    rw [e1, nI_eq (by omega) (by omega)] at e1'
    rw [e2, nI_eq (by omega) (by omega)] at e2'
    subst e1' e2'
    exact ⟨rfl, gw_rel ⟨hm, gw_W_nx hW hk1 hj, h01, h10, h6⟩ hS hR⟩
theorem i_vc_drop {k : Nat} {u : SX} {v : SY} (I : i_Rel k u v) (hk : k + 6 ≤ 3072) : wpX_drop (fun r u' => wpY_drop (fun r' v' => r' = r ∧ i_Rel (k + 6) u' v') v) u := by
  have J : i_Rel (k + 6) u v := I
  obtain ⟨m, K, X, Y, Z, F, H, ⟨hm, hW, h01, h10, h6⟩, ⟨tl, pe, xO, xN, xC, xS, xL, xE, xG, xW, xM, xP, rfl⟩, ⟨yA, yO, yS, yR, yL, yN, yD, yT, yM, yF, yW, yP, rfl, hS, hR⟩⟩ := I
  cases m with
  | zero => exact br_t rfl (br_t rfl ⟨rfl, J⟩)
  | succ m =>
    have h10' : gw_cnt (gw_sk K) m ≤ 10 := Nat.le_trans (gw_cnt_s _ _) h10
    have h6' : gw_cnt (gw_rk K) m ≤ 6 := Nat.le_trans (gw_cnt_s _ _) h6
    refine gx_drop (s := gw_cnt (gw_sk K) m) (r := gw_cnt (gw_rk K) m) hm (fun hx => ?_) (fun hx => ?_)
    · obtain ⟨n, hn, a, b⟩ := hx
      exact gy_drop (s := gw_cnt (gw_sk K) (m + 1)) (r := gw_cnt (gw_rk K) (m + 1)) hm (fun q => absurd b (q n hn a)) h10' h6' (fun _ => ⟨rfl, J⟩) (fun q => absurd b (q n hn a))
    · exact gy_drop (s := gw_cnt (gw_sk K) (m + 1)) (r := gw_cnt (gw_rk K) (m + 1)) hm (gw_W_dr hW) h10' h6' (fun ⟨n, hn, a, b⟩ => absurd b (hx n hn a)) (fun _ S R hS' hR' => ⟨rfl, gw_rel ⟨by omega, gw_W_dr hW hx, h01, h10', h6'⟩ hS' hR'⟩)
theorem gw_bz (v : Int32) : ∃ b : Bool, lw_bz v = gw_b b := by
  rcases lw_bz_01 v with e | e
  · exact ⟨false, e⟩
  · exact ⟨true, e⟩
theorem i_vc_set {k : Nat} {u : SX} {v : SY} (I : i_Rel k u v) (hk : k + 6 ≤ 3072) (v1 : Int32) (v2 : Int32) : wpX_set (fun r u' => wpY_set (fun r' v' => r' = r ∧ i_Rel (k + 6) u' v') v v1 (lw_bz v2)) u v1 (lw_bz v2) := by
  have J : i_Rel (k + 6) u v := I
  obtain ⟨m, K, X, Y, Z, F, H, ⟨hm, hW, h01, h10, h6⟩, ⟨tl, pe, xO, xN, xC, xS, xL, xE, xG, xW, xM, xP, rfl⟩, ⟨yA, yO, yS, yR, yL, yN, yD, yT, yM, yF, yW, yP, rfl, hS, hR⟩⟩ := I
  obtain ⟨b, e⟩ := gw_bz v2
  rw [e]
  refine gx_set hm (fun hn => ?_) (fun n hn e1 hs => ?_)
  · exact gy_set hm hW (fun _ => ⟨rfl, J⟩) (fun n hn' e1 hs => absurd hs (by rw [hn n hn' e1]; exact Bool.false_ne_true))
  · refine gy_set hm hW (fun q => absurd hs (by rw [q n hn e1]; exact Bool.false_ne_true)) (fun n' hn' e2 _ => ?_)
    rw [e1, nI_eq (by omega) (by omega)] at e2
    subst e2
    exact ⟨rfl, gw_rel ⟨hm, hW, gw_01_upd h01 (gw_b01 b), h10, h6⟩ hS hR⟩
