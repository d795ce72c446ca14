/-! the owed rows of value, count, witness, same, depends, tests -/
theorem i_vc_value {k : Nat} {u : SX} {v : SY} (I : i_Rel k u v) (hk : k + 6 ≤ 3072) (v1 : Int32) : wpX_value (fun r => wpY_value (fun r' v' => r' = r ∧ i_Rel (k + 6) u v') v v1) u v1 := by
  have J : i_Rel (k + 6) u v := I
  obtain ⟨m, K, X, Y, Z, F, H, ⟨hm, hW, h01, h10, h6⟩, ⟨tl, pe, xO, xN, xC, xS, xL, xE, xG, xW, xM, xP, rfl⟩, ⟨yA, yO, yS, yR, yL, yN, yD, yT, yM, yF, yW, yP, rfl, hS, hR⟩⟩ := I
  rcases gw_net (x := v1) (m := m) (by omega) with ⟨n, hn, rfl⟩ | hx
  · exact gx_value hm hW h01 hn (gy_value hm hW h01 rfl h10 hS hn (fun A => ⟨rfl, gw_rel ⟨hm, hW, h01, h10, h6⟩ hS hR⟩))
  · unfold wpX_value wpY_value
    dsimp only
    exact gx_nonet hx (br_t rfl (gy_nonet hm hx (br_t rfl ⟨rfl, J⟩)))
theorem i_vc_count {k : Nat} {u : SX} {v : SY} (I : i_Rel k u v) (hk : k + 6 ≤ 3072) (v1 : Int32) : wpX_count (fun r u' => wpY_count (fun r' v' => r' = r ∧ i_Rel (k + 6) u' v') v v1) u v1 := by
  have J : i_Rel (k + 6) u v := I
  obtain ⟨m, K, X, Y, Z, F, H, ⟨hm, hW, h01, h10, h6⟩, ⟨tl, pe, xO, xN, xC, xS, xL, xE, xG, xW, xM, xP, rfl⟩, ⟨yA, yO, yS, yR, yL, yN, yD, yT, yM, yF, yW, yP, rfl, hS, hR⟩⟩ := I
  rcases gw_net (x := v1) (m := m) (by omega) with ⟨n, hn, rfl⟩ | hx
  · exact gx_count hm hW hn h10 (fun O => gy_count hm hW rfl h10 hS hn (fun A => ⟨rfl, gw_rel ⟨hm, hW, h01, h10, h6⟩ hS hR⟩))
  · unfold wpX_count wpY_count
    dsimp only
    exact gx_nonet hx (br_t rfl (gy_nonet hm hx (br_t rfl ⟨rfl, J⟩)))
theorem gw_from (p : Int32) : ∃ lo, lo < 2 ^ 31 ∧ ((0 ≤ p ∧ p = nI lo) ∨ (¬ 0 ≤ p ∧ lo = 0)) := by
  by_cases h : 0 ≤ p
  · obtain ⟨j, hj, e⟩ := nI_of (x := p) (Int32.not_lt.mpr h)
    exact ⟨j, hj, Or.inl ⟨h, e⟩⟩
  · exact ⟨0, by decide, Or.inr ⟨h, rfl⟩⟩
theorem i_vc_witness {k : Nat} {u : SX} {v : SY} (I : i_Rel k u v) (hk : k + 6 ≤ 3072) (v1 : Int32) (v2 : Int32) : wpX_witness (fun r u' => wpY_witness (fun r' v' => r' = r ∧ i_Rel (k + 6) u' v') v v1 v2) u v1 v2 := by
  have J : i_Rel (k + 6) u v := I
  obtain ⟨m, K, X, Y, Z, F, H, ⟨hm, hW, h01, h10, h6⟩, ⟨tl, pe, xO, xN, xC, xS, xL, xE, xG, xW, xM, xP, rfl⟩, ⟨yA, yO, yS, yR, yL, yN, yD, yT, yM, yF, yW, yP, rfl, hS, hR⟩⟩ := I
  rcases gw_net (x := v1) (m := m) (by omega) with ⟨n, hn, rfl⟩ | hx
  · obtain ⟨lo, hl, hp⟩ := gw_from v2
    exact gx_wit hm hW hn h10 hl hp (fun O z hz => gy_wit hm hW rfl h10 hS hn hl hp (fun A z' hz' => ⟨gw_Fs_u hz' hz, gw_rel ⟨hm, hW, h01, h10, h6⟩ hS hR⟩))
  · unfold wpX_witness wpY_witness
    dsimp only
    exact gx_nonet hx (br_t rfl (gy_nonet hm hx (br_t rfl ⟨rfl, J⟩)))
theorem i_vc_same {k : Nat} {u : SX} {v : SY} (I : i_Rel k u v) (hk : k + 6 ≤ 3072) (v1 : Int32) (v2 : Int32) : wpX_same (fun r => wpY_same (fun r' v' => r' = r ∧ i_Rel (k + 6) u v') v v1 v2) u v1 v2 := by
  have J : i_Rel (k + 6) u v := I
  obtain ⟨m, K, X, Y, Z, F, H, ⟨hm, hW, h01, h10, h6⟩, ⟨tl, pe, xO, xN, xC, xS, xL, xE, xG, xW, xM, xP, rfl⟩, ⟨yA, yO, yS, yR, yL, yN, yD, yT, yM, yF, yW, yP, rfl, hS, hR⟩⟩ := I
  rcases gw_net (x := v1) (m := m) (by omega) with ⟨n, hn, rfl⟩ | hx
  · rcases gw_net (x := v2) (m := m) (by omega) with ⟨n2, hn2, rfl⟩ | hx
    · exact gx_same hm hW hn hn2 h10 (fun z hz => gy_same hm hW rfl h10 hS hn hn2 (fun A z' hz' => ⟨gw_tv_u hz' hz, gw_rel ⟨hm, hW, h01, h10, h6⟩ hS hR⟩))
    · unfold wpX_same wpY_same
      dsimp only
      exact gx_net hm hn (br_f gw_n10 (gx_nonet hx (br_t rfl (gy_net hm hn (br_f gw_n10 (gy_nonet hm hx (br_t rfl ⟨rfl, J⟩)))))))
  · unfold wpX_same wpY_same
    dsimp only
    exact gx_nonet hx (br_t rfl (gy_nonet hm hx (br_t rfl ⟨rfl, J⟩)))
theorem i_vc_depends {k : Nat} {u : SX} {v : SY} (I : i_Rel k u v) (hk : k + 6 ≤ 3072) (v1 : Int32) (v2 : Int32) : wpX_depends (fun r u' => wpY_depends (fun r' v' => r' = r ∧ i_Rel (k + 6) u' v') v v1 v2) u v1 v2 := by
  have J : i_Rel (k + 6) u v := I
  obtain ⟨m, K, X, Y, Z, F, H, ⟨hm, hW, h01, h10, h6⟩, ⟨tl, pe, xO, xN, xC, xS, xL, xE, xG, xW, xM, xP, rfl⟩, ⟨yA, yO, yS, yR, yL, yN, yD, yT, yM, yF, yW, yP, rfl, hS, hR⟩⟩ := I
  rcases gw_net (x := v1) (m := m) (by omega) with ⟨n, hn, rfl⟩ | hx
  · refine gx_dep hm hW hn rfl h10 (fun q => ?_) (fun src hsrc e hks O z hz => ?_)
    · exact gy_dep hm hW rfl h10 hS hn (fun _ => ⟨rfl, J⟩) (fun src hsrc e hks => absurd hks (by rw [q src hsrc e]; exact Bool.false_ne_true))
    · refine gy_dep hm hW rfl h10 hS hn (fun q => absurd hks (by rw [q src hsrc e]; exact Bool.false_ne_true)) (fun src' hsrc' e' _ A z' hz' => ?_)
      rw [e, nI_eq (by omega) (by omega)] at e'
      subst e'
      exact ⟨gw_tv_u hz' (gw_tv_iff hz (gw_felt (gw_cnt_lt hks hsrc))), gw_rel ⟨hm, hW, h01, h10, h6⟩ hS hR⟩
  · unfold wpX_depends wpY_depends
    dsimp only
    exact gx_nonet hx (br_t rfl (gy_nonet hm hx (br_t rfl ⟨rfl, J⟩)))
theorem i_vc_tests {k : Nat} {u : SX} {v : SY} (I : i_Rel k u v) (hk : k + 6 ≤ 3072) (v1 : Int32) (v2 : Int32) (v3 : Int32) : wpX_tests (fun r => wpY_tests (fun r' v' => r' = r ∧ i_Rel (k + 6) u v') v v1 (lw_bz v2) v3) u v1 (lw_bz v2) v3 := by
  have J : i_Rel (k + 6) u v := I
  obtain ⟨m, K, X, Y, Z, F, H, ⟨hm, hW, h01, h10, h6⟩, ⟨tl, pe, xO, xN, xC, xS, xL, xE, xG, xW, xM, xP, rfl⟩, ⟨yA, yO, yS, yR, yL, yN, yD, yT, yM, yF, yW, yP, rfl, hS, hR⟩⟩ := I
  obtain ⟨b, e⟩ := gw_bz v2
  rw [e]
  rcases gw_net (x := v1) (m := m) (by omega) with ⟨n, hn, rfl⟩ | hx
  · rcases gw_net (x := v3) (m := m) (by omega) with ⟨n2, hn2, rfl⟩ | hx
    · exact gx_tests hm hW hn hn2 h10 (gy_tests hm hW rfl h10 hS hn hn2 (fun A => ⟨rfl, gw_rel ⟨hm, hW, h01, h10, h6⟩ hS hR⟩))
    · unfold wpX_tests wpY_tests
      dsimp only
      exact gx_net hm hn (br_f gw_n10 (gx_nonet hx (br_t rfl (gy_net hm hn (br_f gw_n10 (gy_nonet hm hx (br_t rfl ⟨rfl, J⟩)))))))
  · unfold wpX_tests wpY_tests
    dsimp only
    exact gx_nonet hx (br_t rfl (gy_nonet hm hx (br_t rfl ⟨rfl, J⟩)))
