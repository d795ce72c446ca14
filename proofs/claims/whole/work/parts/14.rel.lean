/-! the relation: both sides hold the same circuit -/
def gw_C (K X Y Z F H : Nat → Int32) (m : Nat) : Prop := m ≤ 32 ∧ gw_W K X Y Z F m ∧ gw_01 H ∧ gw_cnt (gw_sk K) m ≤ 10 ∧ gw_cnt (gw_rk K) m ≤ 6
def i_Rel (_ : Nat) (u : SX) (v : SY) : Prop :=
  ∃ (m : Nat) (K X Y Z F H : Nat → Int32), gw_C K X Y Z F H m ∧ (∃ (tl pe : Int32) (xO xN xC xS xL xE xG xW xM xP : Nat → Int32), u = (nI m, nI (gw_cnt (gw_sk K) m), nI (gw_cnt (gw_rk K) m), tl, pe, K, X, Y, Z, F, H, xO, xN, xC, xS, xL, xE, xG, xW, xM, xP)) ∧ ∃ (yA yO yS yR yL yN yD yT yM yF yW yP : Nat → Int32), v = (nI m, nI (gw_cnt (gw_sk K) m), nI (gw_cnt (gw_rk K) m), K, X, Y, Z, F, H, yA, yO, yS, yR, yL, yN, yD, yT, yM, yF, yW, yP) ∧ gw_En (gw_sk K) yS m ∧ gw_En (gw_rk K) yR m
theorem i_up {k : Nat} {u : SX} {v : SY} (h : i_Rel k u v) : i_Rel (k + 6) u v := h
theorem gw_rel {k m : Nat} {K X Y Z F H : Nat → Int32} {tl pe : Int32} {xO xN xC xS xL xE xG xW xM xP yA yO yS yR yL yN yD yT yM yF yW yP : Nat → Int32} (hC : gw_C K X Y Z F H m) (hS : gw_En (gw_sk K) yS m) (hR : gw_En (gw_rk K) yR m) : i_Rel k (nI m, nI (gw_cnt (gw_sk K) m), nI (gw_cnt (gw_rk K) m), tl, pe, K, X, Y, Z, F, H, xO, xN, xC, xS, xL, xE, xG, xW, xM, xP) (nI m, nI (gw_cnt (gw_sk K) m), nI (gw_cnt (gw_rk K) m), K, X, Y, Z, F, H, yA, yO, yS, yR, yL, yN, yD, yT, yM, yF, yW, yP) :=
  ⟨m, K, X, Y, Z, F, H, hC, ⟨tl, pe, xO, xN, xC, xS, xL, xE, xG, xW, xM, xP, rfl⟩, ⟨yA, yO, yS, yR, yL, yN, yD, yT, yM, yF, yW, yP, rfl, hS, hR⟩⟩
theorem gw_fz {f d : Nat} (h : d < f) : ∃ g, f = g + 1 := ⟨f - 1, by omega⟩
theorem gw_net {x : Int32} {m : Nat} (hm : m < 2 ^ 31) : (∃ n, n < m ∧ x = nI n) ∨ ¬ (0 ≤ x ∧ x < nI m) := by
  by_cases h : 0 ≤ x ∧ x < nI m
  · exact Or.inl ((gw_bl_iff hm).mpr h)
  · exact Or.inr h
