/-! apart and classes -/
section
variable {L : Nat} {stp : Nat → Nat → Nat} {sh : Nat → Nat → Bool}
theorem gw_AF_ne {N c d : Nat} {a : Nat → Int32} (hN : ∀ w c, w < L → c < N → stp w c < N) (hb : N < 2 ^ 31) (h : gw_AF L stp sh N a) (hd : d < c) (hc : c < N) : a (c * 64 + d) = -1 ↔ ¬ ∃ s, gw_B L stp sh c d s := by
  obtain ⟨a1, a2⟩ := h c d hd hc
  constructor
  · rintro e ⟨t, ht⟩
    rw [a1 t ht] at e
    exact gw_m1 (by have := gw_B_lt hN hc (by omega) ht; omega) e
  · exact fun g => a2 (fun s hs => g ⟨s, hs⟩)
theorem gw_AF_ge {N c d : Nat} {a : Nat → Int32} (hN : ∀ w c, w < L → c < N → stp w c < N) (hb : N < 2 ^ 31) (h : gw_AF L stp sh N a) (hd : d < c) (hc : c < N) : 0 ≤ a (c * 64 + d) ↔ ∃ s, gw_B L stp sh c d s := by
  obtain ⟨a1, a2⟩ := h c d hd hc
  by_cases g : ∃ s, gw_B L stp sh c d s
  · obtain ⟨t, ht⟩ := g
    rw [a1 t ht]
    exact ⟨fun _ => ⟨t, ht⟩, fun _ => nI_pos' (by have := gw_B_lt hN hc (by omega) ht; omega)⟩
  · rw [a2 (fun s hs => g ⟨s, hs⟩)]
    exact ⟨fun q => absurd q (by decide), fun q => absurd q g⟩
theorem gw_rd_u {N c d : Nat} {a b : Nat → Int32} (ha : gw_AF L stp sh N a) (hb : gw_AF L stp sh N b) (hc : c < N) (hd : d < N) : gw_rd a c d = gw_rd b c d := by
  unfold gw_rd
  rcases Nat.lt_trichotomy c d with g | g | g
  · rw [if_neg (by omega), if_pos g, if_neg (by omega), if_pos g]
    exact gw_AF_u ha hb g hd
  · rw [if_neg (by omega), if_neg (by omega), if_neg (by omega), if_neg (by omega)]
  · rw [if_pos g, if_pos g]
    exact gw_AF_u ha hb g hc
/-- a configuration that leads its class -/
def gw_Le (L : Nat) (stp : Nat → Nat → Nat) (sh : Nat → Nat → Bool) (c : Nat) : Prop := ∀ d, d < c → ∃ t, gw_B L stp sh c d t
end
section
variable {m s r : Nat} {tl pe : Int32} {K X Y Z F H xO xN xC xS xL xE xG xW xM xP : Nat → Int32}
theorem gx_cl47_l {post : Int32 → SX → Prop} {J : Int32 → Int32 → Prop} {R c net f : Nat} (h6 : r ≤ 6) (hr : r = gw_cnt (gw_rk K) m) (hRR : R = 2 ^ r) (hc : c < R) (hF : gw_AF (2 ^ gw_q K m) (gw_stp K X Y Z F m) (gw_sh K X Y Z m net) R xP) (h1 : gw_Le (2 ^ gw_q K m) (gw_stp K X Y Z F m) (gw_sh K X Y Z m net) c → J (nI (f + 1)) (nI (c + 1))) (h0 : ¬ gw_Le (2 ^ gw_q K m) (gw_stp K X Y Z F m) (gw_sh K X Y Z m net) c → J (nI f) (nI (c + 1))) : ∀ d e g z, e + d = c → d < g → gw_tv (∀ y, y < e → ∃ t, gw_B (2 ^ gw_q K m) (gw_stp K X Y Z F m) (gw_sh K X Y Z m net) c y t) z → wX_classes_47 post J (nI R) (nI f) (nI c) (nI m) (nI s) (nI r) tl pe K X Y Z F H xO xN xC xS xL xE xG xW xM xP g z (nI e) := by
  have hR2 : R ≤ 64 := by rw [hRR]; exact gw_p6 h6
  have hstp : ∀ w x, w < 2 ^ gw_q K m → x < R → gw_stp K X Y Z F m w x < R := fun w x _ _ => by rw [hRR, hr]; exact gw_stp_lt K X Y Z F m w x
  intro d
  induction d with
  | zero =>
    intro e g z e1 e2 hz
    obtain ⟨g, rfl⟩ := gw_fz e2
    have ee : e = c := by omega
    subst ee
    rw [wX_classes_47]
    refine br_t (nI_le (by omega) (by omega)) ?_
    rcases hz with ⟨p, ez⟩ | ⟨p, ez⟩
    · rw [ez]; exact br_f gw_n10 (nm_r (nI_1 f) (nm_r (nI_1 e) (h1 p)))
    · rw [ez]; exact br_t rfl (nm_r (nI_1 e) (h0 p))
  | succ d ih =>
    intro e g z e1 e2 hz
    obtain ⟨g, rfl⟩ := gw_fz e2
    have cp : (nI (c * 64 + e)).toNatClampNeg = c * 64 + e := nI_clamp (by omega)
    have ne := gw_AF_ne hstp (by omega) hF (show e < c by omega) hc
    rw [wX_classes_47]
    refine br_f (nI_ge (by omega) (by omega)) ?_
    unfold wpX_pairOf
    rw [gw_pr64]
    dsimp only
    rw [cp]
    refine ⟨vp_in_nI (by omega) (by omega), br_c (fun q => nm_r (nI_1 e) (ih (e + 1) g 0 (by omega) (by omega) (gw_tv_f (fun p => ne.mp q (p e (by omega)))))) (fun q => nm_r (nI_1 e) (ih (e + 1) g z (by omega) (by omega) (gw_tv_iff hz ⟨fun p => lt_s p (Classical.byContradiction (fun n => q (ne.mpr n))), fun p y hy => p y (by omega)⟩)))⟩
theorem gx_cl35_l {post : Int32 → SX → Prop} {R net : Nat} (h6 : r ≤ 6) (hr : r = gw_cnt (gw_rk K) m) (hRR : R = 2 ^ r) (hF : gw_AF (2 ^ gw_q K m) (gw_stp K X Y Z F m) (gw_sh K X Y Z m net) R xP) (h : post (nI (gw_cnt (gw_dc (gw_Le (2 ^ gw_q K m) (gw_stp K X Y Z F m) (gw_sh K X Y Z m net))) R)) (nI m, nI s, nI r, tl, pe, K, X, Y, Z, F, H, xO, xN, xC, xS, xL, xE, xG, xW, xM, xP)) : ∀ d c g, c + d = R → d < g → wX_classes_35 post (nI R) (nI m) (nI s) (nI r) tl pe K X Y Z F H xO xN xC xS xL xE xG xW xM xP g (nI (gw_cnt (gw_dc (gw_Le (2 ^ gw_q K m) (gw_stp K X Y Z F m) (gw_sh K X Y Z m net))) c)) (nI c) := by
  have hR2 : R ≤ 64 := by rw [hRR]; exact gw_p6 h6
  intro d
  induction d with
  | zero =>
    intro c g h1 h2
    obtain ⟨g, rfl⟩ := gw_fz h2
    have e : c = R := by omega
    rw [wX_classes_35]
    refine br_t (nI_le (by omega) (by omega)) ?_
    rw [e]
    exact h
  | succ d ih =>
    intro c g h1 h2
    obtain ⟨g, rfl⟩ := gw_fz h2
    have ihn := ih (c + 1) g (by omega) (by omega)
    rw [wX_classes_35]
    refine br_f (nI_ge (by omega) (by omega)) ⟨c + 1, gx_cl47_l h6 hr hRR (by omega) hF (fun p => ?_) (fun p => ?_) c 0 (c + 1) 1 (by omega) (by omega) (gw_tv_t (fun y hy => absurd hy (Nat.not_lt_zero _)))⟩
    · rw [gw_dc_st p] at ihn
      exact ihn
    · rw [gw_dc_sf p] at ihn
      exact ihn
theorem gx_classes {post : Int32 → SX → Prop} {net : Nat} (hm : m ≤ 32) (hW : gw_W K X Y Z F m) (hn : net < m) (hs : s = gw_cnt (gw_sk K) m) (hr : r = gw_cnt (gw_rk K) m) (h10 : s ≤ 10) (h6 : r ≤ 6) (h : ∀ G W P, post (nI (gw_cnt (gw_dc (gw_Le (2 ^ gw_q K m) (gw_stp K X Y Z F m) (gw_sh K X Y Z m net))) (2 ^ r))) (nI m, nI s, nI r, tl, pe, K, X, Y, Z, F, H, xO, xN, xC, xS, xL, xE, G, W, xM, P)) : wpX_classes post (nI m, nI s, nI r, tl, pe, K, X, Y, Z, F, H, xO, xN, xC, xS, xL, xE, xG, xW, xM, xP) (nI net) := by
  unfold wpX_classes
  dsimp only
  refine gx_net hm hn (br_f gw_n10 (gx_goes hm hW hs hr h10 (fun G hG => gx_shows hm hW hn hs hr h10 (fun W hV => gx_fa hs hr h10 h6 hG hV (fun P hP hSy => nm_r (gw_pow (by omega)) ⟨2 ^ r + 1, ?_⟩)))))
  exact gx_cl35_l h6 hr rfl hP (h G W P) (2 ^ r) 0 (2 ^ r + 1) (by omega) (by omega)
theorem gx_apart {post : Int32 → SX → Prop} {net c d : Nat} (hm : m ≤ 32) (hW : gw_W K X Y Z F m) (hn : net < m) (hs : s = gw_cnt (gw_sk K) m) (hr : r = gw_cnt (gw_rk K) m) (h10 : s ≤ 10) (h6 : r ≤ 6) (hc : c < 2 ^ r) (hd : d < 2 ^ r) (h : ∀ G W P, gw_AF (2 ^ gw_q K m) (gw_stp K X Y Z F m) (gw_sh K X Y Z m net) (2 ^ r) P → post (gw_rd P c d) (nI m, nI s, nI r, tl, pe, K, X, Y, Z, F, H, xO, xN, xC, xS, xL, xE, G, W, xM, P)) : wpX_apart post (nI m, nI s, nI r, tl, pe, K, X, Y, Z, F, H, xO, xN, xC, xS, xL, xE, xG, xW, xM, xP) (nI net) (nI c) (nI d) := by
  have hp := gw_p6 h6
  have cp : (nI (c * 64 + d)).toNatClampNeg = c * 64 + d := nI_clamp (by omega)
  unfold wpX_apart
  dsimp only
  refine gx_net hm hn (br_f gw_n10 (gx_isconf h6 (fun _ => br_f gw_n10 (gx_isconf h6 (fun _ => br_f gw_n10 (gx_goes hm hW hs hr h10 (fun G hG => gx_shows hm hW hn hs hr h10 (fun W hV => gx_fa hs hr h10 h6 hG hV (fun P hP hSy => ?_))))) (fun q => absurd ⟨d, hd, rfl⟩ q))) (fun q => absurd ⟨c, hc, rfl⟩ q)))
  unfold wpX_pairOf
  dsimp only
  rw [gw_pr64, cp, hSy c d hc hd]
  exact ⟨vp_in_nI (by omega) (by omega), h G W P hP⟩
end
section
variable {m s r : Nat} {K X Y Z F H yA yO yS yR yL yN yD yT yM yF yW yP : Nat → Int32}
theorem gy_cl35_l {post : Int32 → SY → Prop} {J : Int32 → Int32 → Prop} {R c net f : Nat} (h6 : r ≤ 6) (hr : r = gw_cnt (gw_rk K) m) (hRR : R = 2 ^ r) (hc : c < R) (hF : gw_AF (2 ^ gw_q K m) (gw_stp K X Y Z F m) (gw_sh K X Y Z m net) R yP) (h1 : gw_Le (2 ^ gw_q K m) (gw_stp K X Y Z F m) (gw_sh K X Y Z m net) c → J (nI (f + 1)) (nI (c + 1))) (h0 : ¬ gw_Le (2 ^ gw_q K m) (gw_stp K X Y Z F m) (gw_sh K X Y Z m net) c → J (nI f) (nI (c + 1))) : ∀ d e g z, e + d = c → d < g → gw_tv (∀ y, y < e → ∃ t, gw_B (2 ^ gw_q K m) (gw_stp K X Y Z F m) (gw_sh K X Y Z m net) c y t) z → wY_classes_35 post J (nI f) (nI c) (nI m) (nI s) (nI r) K X Y Z F H yA yO yS yR yL yN yD yT yM yF yW yP g z (nI e) := by
  have hR2 : R ≤ 64 := by rw [hRR]; exact gw_p6 h6
  have hstp : ∀ w x, w < 2 ^ gw_q K m → x < R → gw_stp K X Y Z F m w x < R := fun w x _ _ => by rw [hRR, hr]; exact gw_stp_lt K X Y Z F m w x
  intro d
  induction d with
  | zero =>
    intro e g z e1 e2 hz
    obtain ⟨g, rfl⟩ := gw_fz e2
    have ee : e = c := by omega
    subst ee
    rw [wY_classes_35]
    refine br_t (nI_le (by omega) (by omega)) ?_
    rcases hz with ⟨p, ez⟩ | ⟨p, ez⟩
    · rw [ez]; exact br_f gw_n10 (nm_r (nI_1 f) (nm_r (nI_1 e) (h1 p)))
    · rw [ez]; exact br_t rfl (nm_r (nI_1 e) (h0 p))
  | succ d ih =>
    intro e g z e1 e2 hz
    obtain ⟨g, rfl⟩ := gw_fz e2
    have cp : (nI (c * 64 + e)).toNatClampNeg = c * 64 + e := nI_clamp (by omega)
    have ge := gw_AF_ge hstp (by omega) hF (show e < c by omega) hc
    rw [wY_classes_35]
    refine br_f (nI_ge (by omega) (by omega)) ?_
    rw [gw_pl64, cp]
    refine ⟨vp_in_nI (by omega) (by omega), br_c (fun q => nm_r (nI_1 e) (ih (e + 1) g z (by omega) (by omega) (gw_tv_iff hz ⟨fun p => lt_s p (ge.mp q), fun p y hy => p y (by omega)⟩))) (fun q => nm_r (nI_1 e) (ih (e + 1) g 0 (by omega) (by omega) (gw_tv_f (fun p => q (ge.mpr (p e (by omega)))))))⟩
theorem gy_cl19_l {post : Int32 → SY → Prop} {R net : Nat} (h6 : r ≤ 6) (hr : r = gw_cnt (gw_rk K) m) (hRR : R = 2 ^ r) (hF : gw_AF (2 ^ gw_q K m) (gw_stp K X Y Z F m) (gw_sh K X Y Z m net) R yP) (h : post (nI (gw_cnt (gw_dc (gw_Le (2 ^ gw_q K m) (gw_stp K X Y Z F m) (gw_sh K X Y Z m net))) R)) (nI m, nI s, nI r, K, X, Y, Z, F, H, yA, yO, yS, yR, yL, yN, yD, yT, yM, yF, yW, yP)) : ∀ d c g, c + d = R → d < g → wY_classes_19 post (nI m) (nI s) (nI r) K X Y Z F H yA yO yS yR yL yN yD yT yM yF yW yP g (nI (gw_cnt (gw_dc (gw_Le (2 ^ gw_q K m) (gw_stp K X Y Z F m) (gw_sh K X Y Z m net))) c)) (nI c) := by
  have hR2 : R ≤ 64 := by rw [hRR]; exact gw_p6 h6
  intro d
  induction d with
  | zero =>
    intro c g h1 h2
    obtain ⟨g, rfl⟩ := gw_fz h2
    have e : c = R := by omega
    rw [wY_classes_19, gw_pow (by omega), ← hRR]
    refine br_t (nI_le (by omega) (by omega)) ?_
    rw [e]
    exact h
  | succ d ih =>
    intro c g h1 h2
    obtain ⟨g, rfl⟩ := gw_fz h2
    have ihn := ih (c + 1) g (by omega) (by omega)
    rw [wY_classes_19, gw_pow (by omega), ← hRR]
    refine br_f (nI_ge (by omega) (by omega)) ⟨c + 1, gy_cl35_l h6 hr hRR (by omega) hF (fun p => ?_) (fun p => ?_) c 0 (c + 1) 1 (by omega) (by omega) (gw_tv_t (fun y hy => absurd hy (Nat.not_lt_zero _)))⟩
    · rw [gw_dc_st p] at ihn
      exact ihn
    · rw [gw_dc_sf p] at ihn
      exact ihn
theorem gy_classes {post : Int32 → SY → Prop} {net : Nat} (hm : m ≤ 32) (hW : gw_W K X Y Z F m) (hn : net < m) (hs : s = gw_cnt (gw_sk K) m) (h10 : s ≤ 10) (hS : gw_En (gw_sk K) yS m) (hr : r = gw_cnt (gw_rk K) m) (h6 : r ≤ 6) (hR : gw_En (gw_rk K) yR m) (h : ∀ A B C P, post (nI (gw_cnt (gw_dc (gw_Le (2 ^ gw_q K m) (gw_stp K X Y Z F m) (gw_sh K X Y Z m net))) (2 ^ r))) (nI m, nI s, nI r, K, X, Y, Z, F, H, A, yO, yS, yR, yL, yN, yD, yT, yM, B, C, P)) : wpY_classes post (nI m, nI s, nI r, K, X, Y, Z, F, H, yA, yO, yS, yR, yL, yN, yD, yT, yM, yF, yW, yP) (nI net) := by
  unfold wpY_classes
  dsimp only
  refine gy_net hm hn (br_f gw_n10 (gy_compare hm hW hn hs h10 hS hr h6 hR (fun A B C P hP => ⟨2 ^ r + 1, ?_⟩)))
  exact gy_cl19_l h6 hr rfl hP (h A B C P) (2 ^ r) 0 (2 ^ r + 1) (by omega) (by omega)
theorem gy_apart {post : Int32 → SY → Prop} {net c d : Nat} (hm : m ≤ 32) (hW : gw_W K X Y Z F m) (hn : net < m) (hs : s = gw_cnt (gw_sk K) m) (h10 : s ≤ 10) (hS : gw_En (gw_sk K) yS m) (hr : r = gw_cnt (gw_rk K) m) (h6 : r ≤ 6) (hR : gw_En (gw_rk K) yR m) (hc : c < 2 ^ r) (hd : d < 2 ^ r) (h0 : c = d → post (-1) (nI m, nI s, nI r, K, X, Y, Z, F, H, yA, yO, yS, yR, yL, yN, yD, yT, yM, yF, yW, yP)) (h : c ≠ d → ∀ A B C P, gw_AF (2 ^ gw_q K m) (gw_stp K X Y Z F m) (gw_sh K X Y Z m net) (2 ^ r) P → post (gw_rd P c d) (nI m, nI s, nI r, K, X, Y, Z, F, H, A, yO, yS, yR, yL, yN, yD, yT, yM, B, C, P)) : wpY_apart post (nI m, nI s, nI r, K, X, Y, Z, F, H, yA, yO, yS, yR, yL, yN, yD, yT, yM, yF, yW, yP) (nI net) (nI c) (nI d) := by
  have hp := gw_p6 h6
  have c1 : (nI (c * 64 + d)).toNatClampNeg = c * 64 + d := nI_clamp (by omega)
  have c2 : (nI (d * 64 + c)).toNatClampNeg = d * 64 + c := nI_clamp (by omega)
  unfold wpY_apart
  dsimp only
  rw [gw_pow (by omega)]
  refine nm_e (gy_net hm hn (br_f gw_n10 (gy_bl (by omega) (fun _ => br_f gw_n10 (gy_bl (by omega) (fun _ => br_f gw_n10 ?_) (fun q => absurd ⟨d, hd, rfl⟩ q))) (fun q => absurd ⟨c, hc, rfl⟩ q))))
  by_cases e : c = d
  · exact br_t (by rw [e]) (h0 e)
  · refine br_f (fun q => e ((nI_eq (by omega) (by omega)).mp q)) (gy_compare hm hW hn hs h10 hS hr h6 hR (fun A B C P hP => ?_))
    have g := h e A B C P hP
    dsimp only
    rw [gw_pl64, gw_pl64, c1, c2]
    unfold gw_rd at g
    rcases Nat.lt_or_ge d c with l | l
    · rw [if_pos l] at g
      exact br_f (nI_ge l (by omega)) ⟨vp_in_nI (by omega) (by omega), g⟩
    · rw [if_neg (by omega), if_pos (by omega)] at g
      exact br_t (nI_le l (by omega)) ⟨vp_in_nI (by omega) (by omega), g⟩
end
theorem i_vc_apart {k : Nat} {u : SX} {v : SY} (I : i_Rel k u v) (hk : k + 6 ≤ 3072) (v1 : Int32) (v2 : Int32) (v3 : Int32) : wpX_apart (fun r u' => wpY_apart (fun r' v' => r' = r ∧ i_Rel (k + 6) u' v') v v1 v2 v3) u v1 v2 v3 := by
  have J : i_Rel (k + 6) u v := I
  obtain ⟨m, K, X, Y, Z, F, H, ⟨hm, hW, h01, h10, h6⟩, ⟨tl, pe, xO, xN, xC, xS, xL, xE, xG, xW, xM, xP, rfl⟩, ⟨yA, yO, yS, yR, yL, yN, yD, yT, yM, yF, yW, yP, rfl, hS, hR⟩⟩ := I
  have hp := gw_p6 h6
  rcases gw_net (x := v1) (m := m) (by omega) with ⟨n, hn, rfl⟩ | hx
  · by_cases c : gw_bl v2 (2 ^ gw_cnt (gw_rk K) m)
    · obtain ⟨c, hc, rfl⟩ := c
      by_cases d : gw_bl v3 (2 ^ gw_cnt (gw_rk K) m)
      · obtain ⟨d, hd, rfl⟩ := d
        refine gx_apart hm hW hn rfl rfl h10 h6 hc hd (fun G W P hP => gy_apart hm hW hn rfl h10 hS rfl h6 hR hc hd (fun e => ⟨?_, gw_rel ⟨hm, hW, h01, h10, h6⟩ hS hR⟩) (fun _ A B C P' hP' => ⟨gw_rd_u hP' hP hc hd, gw_rel ⟨hm, hW, h01, h10, h6⟩ hS hR⟩))
        subst e
        unfold gw_rd
        rw [if_neg (by omega), if_neg (by omega)]
      · unfold wpX_apart wpY_apart
        dsimp only
        refine gx_net hm hn (br_f gw_n10 (gx_isconf h6 (fun _ => br_f gw_n10 (gx_isconf h6 (fun q => absurd q d) (fun _ => br_t rfl ?_))) (fun q => absurd ⟨c, hc, rfl⟩ q)))
        rw [gw_pow (by omega)]
        exact nm_e (gy_net hm hn (br_f gw_n10 (gy_bl (by omega) (fun _ => br_f gw_n10 (gy_bl (by omega) (fun q => absurd q d) (fun _ => br_t rfl ⟨rfl, J⟩))) (fun q => absurd ⟨c, hc, rfl⟩ q))))
    · unfold wpX_apart wpY_apart
      dsimp only
      refine gx_net hm hn (br_f gw_n10 (gx_isconf h6 (fun q => absurd q c) (fun _ => br_t rfl ?_)))
      rw [gw_pow (by omega)]
      exact nm_e (gy_net hm hn (br_f gw_n10 (gy_bl (by omega) (fun q => absurd q c) (fun _ => br_t rfl ⟨rfl, J⟩))))
  · unfold wpX_apart wpY_apart
    dsimp only
    exact gx_nonet hx (br_t rfl (nm_e (gy_nonet hm hx (br_t rfl ⟨rfl, J⟩))))
theorem i_vc_classes {k : Nat} {u : SX} {v : SY} (I : i_Rel k u v) (hk : k + 6 ≤ 3072) (v1 : Int32) : wpX_classes (fun r u' => wpY_classes (fun r' v' => r' = r ∧ i_Rel (k + 6) u' v') v v1) u v1 := by
  have J : i_Rel (k + 6) u v := I
  obtain ⟨m, K, X, Y, Z, F, H, ⟨hm, hW, h01, h10, h6⟩, ⟨tl, pe, xO, xN, xC, xS, xL, xE, xG, xW, xM, xP, rfl⟩, ⟨yA, yO, yS, yR, yL, yN, yD, yT, yM, yF, yW, yP, rfl, hS, hR⟩⟩ := I
  rcases gw_net (x := v1) (m := m) (by omega) with ⟨n, hn, rfl⟩ | hx
  · exact gx_classes hm hW hn rfl rfl h10 h6 (fun G W P => gy_classes hm hW hn rfl h10 hS rfl h6 hR (fun A B C P' => ⟨rfl, gw_rel ⟨hm, hW, h01, h10, h6⟩ hS hR⟩))
  · unfold wpX_classes wpY_classes
    dsimp only
    exact gx_nonet hx (br_t rfl (gy_nonet hm hx (br_t rfl ⟨rfl, J⟩)))
