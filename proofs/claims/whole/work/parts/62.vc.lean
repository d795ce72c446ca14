/-! the owed rows of tick and cycle -/
section
variable {m s r : Nat} {K X Y Z F H yA yO yS yR yL yN yD yT yM yF yW yP : Nat → Int32}
theorem gy_tick2 {post : Int32 → SY → Prop} {t0 t1 n : Nat} (O : gw_Yo K X Y Z F H yS yR m s r) (hRho : gw_Rho (gw_S K X Y Z F H m) (gw_c0 K m H) t0 t1) (h64 : t1 ≤ 64) (hn : n < 2 ^ 31) (h : ∀ A B, post (nI (gw_ct K X Y Z F H m n)) (nI m, nI s, nI r, K, X, Y, Z, F, gw_nw K m H (gw_ct K X Y Z F H m n), A, B, yS, yR, yL, yN, yD, yT, yM, yF, yW, yP)) : wpY_tick post (nI m, nI s, nI r, K, X, Y, Z, F, H, yA, yO, yS, yR, yL, yN, yD, yT, yM, yF, yW, yP) (nI n) := by
  have g := gy_tick (yA := yA) (yO := yO) (yL := yL) (yN := yN) (yD := yD) (yT := yT) (yM := yM) (yF := yF) (yW := yW) (yP := yP) O hRho h64 hn h
  rw [gw_nw_ct0 O.2.2.1] at g
  exact g
theorem gy_cycle2 {post : Int32 → SY → Prop} {t0 t1 : Nat} {p : Int32} (O : gw_Yo K X Y Z F H yS yR m s r) (hRho : gw_Rho (gw_S K X Y Z F H m) (gw_c0 K m H) t0 t1) (h64 : t1 ≤ 64) (hp : p = 0 ∨ p = 1) (c1 : p = 0 → ∀ A B, post (nI t0) (nI m, nI s, nI r, K, X, Y, Z, F, H, A, B, yS, yR, yL, yN, yD, yT, yM, yF, yW, yP)) (c2 : p = 1 → ∀ A B, post (nI (t1 - t0)) (nI m, nI s, nI r, K, X, Y, Z, F, H, A, B, yS, yR, yL, yN, yD, yT, yM, yF, yW, yP)) : wpY_cycle post (nI m, nI s, nI r, K, X, Y, Z, F, H, yA, yO, yS, yR, yL, yN, yD, yT, yM, yF, yW, yP) p := by
  have e : gw_nw K m H (gw_ct K X Y Z F H m 0) = H := gw_nw_ct0 O.2.2.1
  have g := gy_cycle (post := post) (yA := yA) (yO := yO) (yL := yL) (yN := yN) (yD := yD) (yT := yT) (yM := yM) (yF := yF) (yW := yW) (yP := yP) O hRho h64 hp (fun q A B => by rw [e]; exact c1 q A B) (fun q A B => by rw [e]; exact c2 q A B)
  rw [e] at g
  exact g
end
theorem i_vc_tick {k : Nat} {u : SX} {v : SY} (I : i_Rel k u v) (hk : k + 6 ≤ 3072) (v1 : Int32) : wpX_tick (fun r u' => wpY_tick (fun r' v' => r' = r ∧ i_Rel (k + 6) u' v') v v1) u v1 := by
  have J : i_Rel (k + 6) u v := I
  obtain ⟨m, K, X, Y, Z, F, H, ⟨hm, hW, h01, h10, h6⟩, ⟨tl, pe, xO, xN, xC, xS, xL, xE, xG, xW, xM, xP, rfl⟩, ⟨yA, yO, yS, yR, yL, yN, yD, yT, yM, yF, yW, yP, rfl, hS, hR⟩⟩ := I
  by_cases c : 0 ≤ v1
  · obtain ⟨n, hn, rfl⟩ := nI_of (x := v1) (Int32.not_lt.mpr c)
    exact gx_tick hm hW h01 h6 hn (fun t0 t1 tl pe E hRho h64 => gy_tick2 ⟨hm, hW, h01, rfl, h10, hS, rfl, h6, hR⟩ hRho h64 hn (fun A B => ⟨rfl, gw_rel ⟨hm, hW, gw_nw_01 h01, h10, h6⟩ hS hR⟩))
  · exact br_f c (br_f c ⟨rfl, J⟩)
theorem i_vc_cycle {k : Nat} {u : SX} {v : SY} (I : i_Rel k u v) (hk : k + 6 ≤ 3072) (v1 : Int32) : wpX_cycle (fun r u' => wpY_cycle (fun r' v' => r' = r ∧ i_Rel (k + 6) u' v') v v1) u v1 := by
  have J : i_Rel (k + 6) u v := I
  obtain ⟨m, K, X, Y, Z, F, H, ⟨hm, hW, h01, h10, h6⟩, ⟨tl, pe, xO, xN, xC, xS, xL, xE, xG, xW, xM, xP, rfl⟩, ⟨yA, yO, yS, yR, yL, yN, yD, yT, yM, yF, yW, yP, rfl, hS, hR⟩⟩ := I
  refine gx_cycle hm hW h01 h6 (fun q => ?_) (fun t0 t1 tl pe E hRho h64 e => ?_) (fun t0 t1 tl pe E hRho h64 e => ?_)
  · unfold wpY_cycle
    dsimp only
    refine gy_in (fun a b => absurd ?_ q) (fun _ => br_t rfl ⟨rfl, J⟩)
    obtain ⟨j, hj, rfl⟩ := nI_of2 (x := v1) (M := 1) (n := 1) (by decide) (Int32.not_lt.mpr a) b
    rcases (show j = 0 ∨ j = 1 by omega) with e | e <;> subst e <;> decide
  · exact gy_cycle2 ⟨hm, hW, h01, rfl, h10, hS, rfl, h6, hR⟩ hRho h64 (Or.inl e) (fun _ A B => ⟨rfl, gw_rel ⟨hm, hW, h01, h10, h6⟩ hS hR⟩) (fun e2 => absurd (e.symm.trans e2) (by decide))
  · exact gy_cycle2 ⟨hm, hW, h01, rfl, h10, hS, rfl, h6, hR⟩ hRho h64 (Or.inr e) (fun e2 => absurd (e2.symm.trans e) (by decide)) (fun _ A B => ⟨rfl, gw_rel ⟨hm, hW, h01, h10, h6⟩ hS hR⟩)
