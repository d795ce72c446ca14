/-! the owed row of level -/
theorem i_vc_level {k : Nat} {u : SX} {v : SY} (I : i_Rel k u v) (hk : k + 6 ≤ 3072) (v1 : Int32) (v2 : Int32) : wpX_level (fun r u' => wpY_level (fun r' v' => r' = r ∧ i_Rel (k + 6) u' v') v v1 v2) u v1 v2 := by
  have J : i_Rel (k + 6) u v := I
  obtain ⟨m, K, X, Y, Z, F, H, ⟨hm, hW, h01, h10, h6⟩, ⟨tl, pe, xO, xN, xC, xS, xL, xE, xG, xW, xM, xP, rfl⟩, ⟨yA, yO, yS, yR, yL, yN, yD, yT, yM, yF, yW, yP, rfl, hS, hR⟩⟩ := I
  rcases gw_net (x := v1) (m := m) (by omega) with ⟨n, hn, rfl⟩ | hx
  · by_cases c : 1 ≤ v2 ∧ v2 ≤ 3
    · obtain ⟨c1, c3⟩ := c
      obtain ⟨j, hj, rfl⟩ := nI_of2 (x := v2) (M := 3) (n := 3) (by decide) (Int32.not_lt.mpr (Int32.le_trans (by decide) c1)) c3
      have hj1 : 1 ≤ j := (nI_leI (a := 1) (by decide) (by omega)).mp c1
      refine gx_level hm hW hn hj1 hj (fun A B lev hl => gy_level hm hW hn hj1 hj (fun A' B' lev' hl' => ⟨?_, gw_rel ⟨hm, hW, h01, h10, h6⟩ hS hR⟩))
      rw [gw_LV_u hl' hl n (by omega)]
    · unfold wpX_level wpY_level
      dsimp only
      have yy : ∀ {post : Int32 → Prop}, (post 0) → wpY_in post v2 1 3 := fun hp => gy_in (fun a b => absurd ⟨a, b⟩ c) (fun _ => hp)
      refine gx_net hm hn (br_f gw_n10 (br_c (fun q => ?_) (fun q => br_c (fun q2 => absurd ⟨Int32.not_lt.mp q, q2⟩ c) (fun q2 => ?_))))
      · exact gy_net hm hn (br_f gw_n10 (yy (br_t rfl ⟨rfl, J⟩)))
      · exact gy_net hm hn (br_f gw_n10 (yy (br_t rfl ⟨rfl, J⟩)))
  · unfold wpX_level wpY_level
    dsimp only
    exact gx_nonet hx (br_t rfl (gy_nonet hm hx (br_t rfl ⟨rfl, J⟩)))
