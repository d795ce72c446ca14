/-! the reference's configuration, step, restore, round, tick, cycle -/
/-- the registers before place i at configuration c -/
def gw_nwi (K : Nat → Int32) (m i : Nat) (H : Nat → Int32) (c j : Nat) : Int32 := if j < m ∧ gw_rk K j = true ∧ gw_cnt (gw_rk K) j < i then gw_b (c.testBit (gw_cnt (gw_rk K) j)) else H j
theorem gw_nwi_0 {K H : Nat → Int32} {m c : Nat} : gw_nwi K m 0 H c = H := by
  funext j
  exact if_neg (fun g => absurd g.2.2 (Nat.not_lt_zero _))
theorem gw_nwi_r {K H : Nat → Int32} {m c : Nat} : gw_nwi K m (gw_cnt (gw_rk K) m) H c = gw_nw K m H c := by
  funext j
  unfold gw_nwi gw_nw
  by_cases g : j < m ∧ gw_rk K j = true
  · rw [if_pos g, if_pos ⟨g.1, g.2, gw_cnt_lt g.2 g.1⟩]
  · rw [if_neg g, if_neg (fun q => g ⟨q.1, q.2.1⟩)]
theorem gw_nwi_s {K H : Nat → Int32} {m c n i : Nat} (hn : n < m) (hr : gw_rk K n = true) (hi : gw_cnt (gw_rk K) n = i) : upd (gw_nwi K m i H c) n (gw_b (c.testBit i)) = gw_nwi K m (i + 1) H c := by
  funext j
  by_cases e : j = n
  · subst e
    rw [pk_us]
    unfold gw_nwi
    rw [if_pos ⟨hn, hr, by omega⟩, hi]
  · rw [pk_un e]
    unfold gw_nwi
    by_cases g : j < m ∧ gw_rk K j = true ∧ gw_cnt (gw_rk K) j < i
    · rw [if_pos g, if_pos ⟨g.1, g.2.1, by omega⟩]
    · rw [if_neg g, if_neg (fun q => g ⟨q.1, q.2.1, ?_⟩)]
      have : gw_cnt (gw_rk K) j ≠ i := fun e2 => e (gw_cnt_inj q.2.1 hr (by omega))
      omega
section
variable {m s r : Nat} {K X Y Z F H yA yO yS yR yL yN yD yT yM yF yW yP : Nat → Int32}
theorem gy_conf_l {post : Int32 → Prop} (hm : m ≤ 32) (h01 : gw_01 H) (hr : r = gw_cnt (gw_rk K) m) (h6 : r ≤ 6) (hE : gw_En (gw_rk K) yR m) (h : post (nI (gw_pk (fun _ => true) (fun i => gw_hs H (yR i).toNatClampNeg) r))) : ∀ d i g, i + d = r → d < g → wY_configuration_4 post (nI m) (nI s) (nI r) K X Y Z F H yA yO yS yR yL yN yD yT yM yF yW yP g (nI (gw_pk (fun _ => true) (fun i => gw_hs H (yR i).toNatClampNeg) i)) (nI i) := by
  intro d
  induction d with
  | zero =>
    intro i g h1 h2
    obtain ⟨g, rfl⟩ := gw_fz h2
    have e : i = r := by omega
    rw [wY_configuration_4]
    refine br_t (nI_le (by omega) (by omega)) ?_
    rw [e]
    exact h
  | succ d ih =>
    intro i g h1 h2
    obtain ⟨g, rfl⟩ := gw_fz h2
    have ci : (nI i).toNatClampNeg = i := nI_clamp (by omega)
    obtain ⟨n, hn, hq, hc, e⟩ := gw_En_at hE (show i < gw_cnt (gw_rk K) m by omega)
    have cn : (nI n).toNatClampNeg = n := nI_clamp (by omega)
    have ihn := ih (i + 1) g (by omega) (by omega)
    rw [gw_pk_t (q := fun _ => true) rfl, gw_cnt_all, e, cn] at ihn
    rw [wY_configuration_4]
    refine br_f (nI_ge (by omega) (by omega)) ⟨vp_in_nI (by omega) (by omega), ?_⟩
    rw [ci, e, cn]
    refine ⟨vp_in_nI (by omega) (by omega), ?_⟩
    rw [gw_hs_b h01 n]
    cases hb : gw_hs H n with
    | true =>
      rw [hb] at ihn
      exact br_f (by decide) (nm_r (gw_or _ true (by omega)) (nm_r (nI_1 i) ihn))
    | false =>
      rw [hb] at ihn
      exact br_t rfl (nm_r (gw_or _ false (by omega)) (nm_r (nI_1 i) ihn))
theorem gy_conf {post : Int32 → Prop} (hm : m ≤ 32) (h01 : gw_01 H) (hr : r = gw_cnt (gw_rk K) m) (h6 : r ≤ 6) (hE : gw_En (gw_rk K) yR m) (h : post (nI (gw_c0 K m H))) : wpY_configuration post (nI m, nI s, nI r, K, X, Y, Z, F, H, yA, yO, yS, yR, yL, yN, yD, yT, yM, yF, yW, yP) := by
  refine ⟨r + 1, gy_conf_l hm h01 hr h6 hE ?_ r 0 (r + 1) (by omega) (by omega)⟩
  have e : gw_pk (fun _ => true) (fun i => gw_hs H (yR i).toNatClampNeg) r = gw_c0 K m H := by
    rw [hr]
    refine gw_pk_comp (p := gw_rk K) (q := gw_rk K) (fun n _ hq => hq.symm) (fun n _ hq => hq) (fun n hn hq => ?_)
    show gw_hs H (yR (gw_cnt (gw_rk K) n)).toNatClampNeg = gw_hs H n
    rw [hE n hn hq, nI_clamp (by omega)]
  rw [e]
  exact h
theorem gy_step44_l {post : SY → Prop} {c : Nat} (hm : m ≤ 32) (hr : r = gw_cnt (gw_rk K) m) (h6 : r ≤ 6) (hE : gw_En (gw_rk K) yR m) (hO : ∀ n, n < m → gw_rk K n = true → yO (gw_cnt (gw_rk K) n) = gw_b (c.testBit (gw_cnt (gw_rk K) n))) (h : post (nI m, nI s, nI r, K, X, Y, Z, F, gw_nw K m H c, yA, yO, yS, yR, yL, yN, yD, yT, yM, yF, yW, yP)) : ∀ d i g, i + d = r → d < g → wY_step_44 post (nI m) (nI s) (nI r) g (nI i) K X Y Z F (gw_nwi K m i H c) yA yO yS yR yL yN yD yT yM yF yW yP := by
  intro d
  induction d with
  | zero =>
    intro i g h1 h2
    obtain ⟨g, rfl⟩ := gw_fz h2
    have e : i = gw_cnt (gw_rk K) m := by omega
    rw [wY_step_44]
    refine br_t (nI_le (by omega) (by omega)) ?_
    rw [e, gw_nwi_r]
    exact h
  | succ d ih =>
    intro i g h1 h2
    obtain ⟨g, rfl⟩ := gw_fz h2
    have ci : (nI i).toNatClampNeg = i := nI_clamp (by omega)
    obtain ⟨n, hn, hq, hc, e⟩ := gw_En_at hE (show i < gw_cnt (gw_rk K) m by omega)
    have cn : (nI n).toNatClampNeg = n := nI_clamp (by omega)
    have ihn := ih (i + 1) g (by omega) (by omega)
    have ho := hO n hn hq
    rw [hc] at ho
    rw [wY_step_44]
    refine br_f (nI_ge (by omega) (by omega)) ⟨vp_in_nI (by omega) (by omega), vp_in_nI (by omega) (by omega), ?_⟩
    rw [ci, e, cn, ho, gw_narb]
    exact ⟨vp_in_nI (by omega) (by omega), nm_r (gw_nwi_s hn hq hc) (nm_r (nI_1 i) ihn)⟩
theorem gy_step6_l {post : SY → Prop} {w : Nat → Bool} {c : Nat} (hm : m ≤ 32) (hW : gw_W K X Y Z F m) (hr : r = gw_cnt (gw_rk K) m) (h6 : r ≤ 6) (hE : gw_En (gw_rk K) yR m) (hA : ∀ j, j < m → yA j = gw_b (w j)) (hc : ∀ n, n < m → gw_rk K n = true → c.testBit (gw_cnt (gw_rk K) n) = w (F n).toNatClampNeg) (h : ∀ O, post (nI m, nI s, nI r, K, X, Y, Z, F, gw_nw K m H c, yA, O, yS, yR, yL, yN, yD, yT, yM, yF, yW, yP)) : ∀ d i g O, i + d = r → d < g → (∀ n, n < m → gw_rk K n = true → gw_cnt (gw_rk K) n < i → O (gw_cnt (gw_rk K) n) = gw_b (c.testBit (gw_cnt (gw_rk K) n))) → wY_step_6 post (nI m) (nI s) (nI r) g (nI i) K X Y Z F H yA O yS yR yL yN yD yT yM yF yW yP := by
  intro d
  induction d with
  | zero =>
    intro i g O h1 h2 hO
    obtain ⟨g, rfl⟩ := gw_fz h2
    rw [wY_step_6]
    refine br_t (nI_le (by omega) (by omega)) ⟨r + 1, ?_⟩
    have g := gy_step44_l (s := s) (X := X) (Y := Y) (Z := Z) (F := F) (H := H) (yA := yA) (yS := yS) (yL := yL) (yN := yN) (yD := yD) (yT := yT) (yM := yM) (yF := yF) (yW := yW) (yP := yP) (yO := O) (post := post) (c := c) hm hr h6 hE (fun n hn hq => hO n hn hq (by have := gw_cnt_lt hq hn; omega)) (h O) r 0 (r + 1) (by omega) (by omega)
    rw [gw_nwi_0] at g
    exact g
  | succ d ih =>
    intro i g O h1 h2 hO
    obtain ⟨g, rfl⟩ := gw_fz h2
    have ci : (nI i).toNatClampNeg = i := nI_clamp (by omega)
    obtain ⟨n, hn, hq, hcn, e⟩ := gw_En_at hE (show i < gw_cnt (gw_rk K) m by omega)
    have cn : (nI n).toNatClampNeg = n := nI_clamp (by omega)
    obtain ⟨p, hp, ep⟩ := (hW n hn).2.1 (gw_rk_t.mp hq)
    have cp : (nI p).toNatClampNeg = p := nI_clamp (by omega)
    have hcb := hc n hn hq
    rw [ep, cp] at hcb
    rw [wY_step_6]
    refine br_f (nI_ge (by omega) (by omega)) ⟨vp_in_nI (by omega) (by omega), ?_⟩
    rw [ci, e, cn, ep, cp, hA p hp, gw_narb]
    refine ⟨vp_in_nI (by omega) (by omega), vp_in_nI (by omega) (by omega), vp_in_nI (by omega) (by omega), nm_e (nm_r (nI_1 i) (ih (i + 1) g _ (by omega) (by omega) (fun j hj hqj hlt => ?_)))⟩
    by_cases ej : j = n
    · subst ej
      rw [← hcn, pk_us, hcb]
    · have : gw_cnt (gw_rk K) j ≠ i := fun e2 => ej (gw_cnt_inj hqj hq (by omega))
      rw [pk_un this]
      exact hO j hj hqj (by omega)
theorem gy_step {post : SY → Prop} (hm : m ≤ 32) (hW : gw_W K X Y Z F m) (h01 : gw_01 H) (hs : s = gw_cnt (gw_sk K) m) (h10 : s ≤ 10) (hS : gw_En (gw_sk K) yS m) (hr : r = gw_cnt (gw_rk K) m) (h6 : r ≤ 6) (hE : gw_En (gw_rk K) yR m) (h : ∀ A O, post (nI m, nI s, nI r, K, X, Y, Z, F, gw_nw K m H (gw_stp K X Y Z F m (gw_w0 K m H) (gw_c0 K m H)), A, O, yS, yR, yL, yN, yD, yT, yM, yF, yW, yP)) : wpY_step post (nI m, nI s, nI r, K, X, Y, Z, F, H, yA, yO, yS, yR, yL, yN, yD, yT, yM, yF, yW, yP) := by
  unfold wpY_step
  dsimp only
  refine gy_present hm hW h01 hs h10 hS (fun A hA => ⟨r + 1, ?_⟩)
  refine gy_step6_l (w := gw_v K X Y Z m (gw_hs H)) (c := gw_stp K X Y Z F m (gw_w0 K m H) (gw_c0 K m H)) hm hW hr h6 hE hA (fun n hn hq => ?_) (fun O => h A O) r 0 (r + 1) yO (by omega) (by omega) (fun n hn hq hlt => absurd hlt (Nat.not_lt_zero _))
  rw [← gw_tk_hs]
  exact gw_pk_bit (q := gw_rk K) (b := fun n => gw_v K X Y Z m (gw_hs H) (F n).toNatClampNeg) hq hn
theorem gy_rest_l {post : SY → Prop} {c : Nat} (hm : m ≤ 32) (hc : c < 2 ^ 31) (hr : r = gw_cnt (gw_rk K) m) (h6 : r ≤ 6) (hE : gw_En (gw_rk K) yR m) (h : post (nI m, nI s, nI r, K, X, Y, Z, F, gw_nw K m H c, yA, yO, yS, yR, yL, yN, yD, yT, yM, yF, yW, yP)) : ∀ d i g, i + d = r → d < g → wY_restore_2 post (nI c) (nI m) (nI s) (nI r) g (nI i) K X Y Z F (gw_nwi K m i H c) yA yO yS yR yL yN yD yT yM yF yW yP := by
  intro d
  induction d with
  | zero =>
    intro i g h1 h2
    obtain ⟨g, rfl⟩ := gw_fz h2
    have e : i = gw_cnt (gw_rk K) m := by omega
    rw [wY_restore_2]
    refine br_t (nI_le (by omega) (by omega)) ?_
    rw [e, gw_nwi_r]
    exact h
  | succ d ih =>
    intro i g h1 h2
    obtain ⟨g, rfl⟩ := gw_fz h2
    have ci : (nI i).toNatClampNeg = i := nI_clamp (by omega)
    obtain ⟨n, hn, hq, hcn, e⟩ := gw_En_at hE (show i < gw_cnt (gw_rk K) m by omega)
    have cn : (nI n).toNatClampNeg = n := nI_clamp (by omega)
    have ihn := ih (i + 1) g (by omega) (by omega)
    have hst := gw_nwi_s (H := H) (c := c) hn hq hcn
    rw [wY_restore_2]
    refine br_f (nI_ge (by omega) (by omega)) ⟨vp_in_nI (by omega) (by omega), ?_⟩
    rw [gw_sbit hc (by omega), ci, e, cn]
    cases hb : c.testBit i with
    | true =>
      rw [hb] at hst
      exact br_t rfl ⟨vp_in_nI (by omega) (by omega), nm_r hst (nm_r (nI_1 i) ihn)⟩
    | false =>
      rw [hb] at hst
      exact br_f (by decide) ⟨vp_in_nI (by omega) (by omega), nm_r hst (nm_r (nI_1 i) ihn)⟩
theorem gy_rest {post : SY → Prop} {c : Nat} (hm : m ≤ 32) (hc : c < 2 ^ 31) (hr : r = gw_cnt (gw_rk K) m) (h6 : r ≤ 6) (hE : gw_En (gw_rk K) yR m) (h : post (nI m, nI s, nI r, K, X, Y, Z, F, gw_nw K m H c, yA, yO, yS, yR, yL, yN, yD, yT, yM, yF, yW, yP)) : wpY_restore post (nI m, nI s, nI r, K, X, Y, Z, F, H, yA, yO, yS, yR, yL, yN, yD, yT, yM, yF, yW, yP) (nI c) := by
  have g := gy_rest_l (s := s) (X := X) (Y := Y) (Z := Z) (F := F) (H := H) (yA := yA) (yO := yO) (yS := yS) (yL := yL) (yN := yN) (yD := yD) (yT := yT) (yM := yM) (yF := yF) (yW := yW) (yP := yP) (post := post) hm hc hr h6 hE h r 0 (r + 1) (by omega) (by omega)
  rw [gw_nwi_0] at g
  exact ⟨r + 1, g⟩
/-- the same over the held values with the registers at configuration c -/
theorem gy_confc {post : Int32 → Prop} {c : Nat} (hm : m ≤ 32) (h01 : gw_01 H) (hr : r = gw_cnt (gw_rk K) m) (h6 : r ≤ 6) (hE : gw_En (gw_rk K) yR m) (hc : c < 2 ^ gw_cnt (gw_rk K) m) (h : post (nI c)) : wpY_configuration post (nI m, nI s, nI r, K, X, Y, Z, F, gw_nw K m H c, yA, yO, yS, yR, yL, yN, yD, yT, yM, yF, yW, yP) := by
  refine gy_conf hm (gw_nw_01 h01) hr h6 hE ?_
  rw [gw_c0_nw hc]
  exact h
theorem gy_stepc {post : SY → Prop} {c : Nat} (hm : m ≤ 32) (hW : gw_W K X Y Z F m) (h01 : gw_01 H) (hs : s = gw_cnt (gw_sk K) m) (h10 : s ≤ 10) (hS : gw_En (gw_sk K) yS m) (hr : r = gw_cnt (gw_rk K) m) (h6 : r ≤ 6) (hE : gw_En (gw_rk K) yR m) (hc : c < 2 ^ gw_cnt (gw_rk K) m) (h : ∀ A O, post (nI m, nI s, nI r, K, X, Y, Z, F, gw_nw K m H (gw_S K X Y Z F H m c), A, O, yS, yR, yL, yN, yD, yT, yM, yF, yW, yP)) : wpY_step post (nI m, nI s, nI r, K, X, Y, Z, F, gw_nw K m H c, yA, yO, yS, yR, yL, yN, yD, yT, yM, yF, yW, yP) := by
  refine gy_step hm hW (gw_nw_01 h01) hs h10 hS hr h6 hE (fun A O => ?_)
  rw [gw_nw_nw, gw_w0_nw, gw_c0_nw hc]
  exact h A O
theorem gy_restc {post : SY → Prop} {c d : Nat} (hm : m ≤ 32) (hd : d < 2 ^ 31) (hr : r = gw_cnt (gw_rk K) m) (h6 : r ≤ 6) (hE : gw_En (gw_rk K) yR m) (h : post (nI m, nI s, nI r, K, X, Y, Z, F, gw_nw K m H d, yA, yO, yS, yR, yL, yN, yD, yT, yM, yF, yW, yP)) : wpY_restore post (nI m, nI s, nI r, K, X, Y, Z, F, gw_nw K m H c, yA, yO, yS, yR, yL, yN, yD, yT, yM, yF, yW, yP) (nI d) := by
  refine gy_rest hm hd hr h6 hE ?_
  rw [gw_nw_nw]
  exact h
end
/-- what the ticks of the reference rest on -/
def gw_Yo (K X Y Z F H yS yR : Nat → Int32) (m s r : Nat) : Prop := m ≤ 32 ∧ gw_W K X Y Z F m ∧ gw_01 H ∧ s = gw_cnt (gw_sk K) m ∧ s ≤ 10 ∧ gw_En (gw_sk K) yS m ∧ r = gw_cnt (gw_rk K) m ∧ r ≤ 6 ∧ gw_En (gw_rk K) yR m
section
variable {m s r : Nat} {K X Y Z F H yA yO yS yR yL yN yD yT yM yF yW yP : Nat → Int32}
theorem gy_ctc {post : Int32 → Prop} {t : Nat} (O : gw_Yo K X Y Z F H yS yR m s r) (h : post (nI (gw_ct K X Y Z F H m t))) : wpY_configuration post (nI m, nI s, nI r, K, X, Y, Z, F, gw_nw K m H (gw_ct K X Y Z F H m t), yA, yO, yS, yR, yL, yN, yD, yT, yM, yF, yW, yP) := by
  obtain ⟨hm, hW, h01, hs, h10, hS, hr, h6, hR⟩ := O
  exact gy_confc hm h01 hr h6 hR (gw_ct_lt t) h
theorem gy_cts {post : SY → Prop} {t : Nat} (O : gw_Yo K X Y Z F H yS yR m s r) (h : ∀ A B, post (nI m, nI s, nI r, K, X, Y, Z, F, gw_nw K m H (gw_ct K X Y Z F H m (t + 1)), A, B, yS, yR, yL, yN, yD, yT, yM, yF, yW, yP)) : wpY_step post (nI m, nI s, nI r, K, X, Y, Z, F, gw_nw K m H (gw_ct K X Y Z F H m t), yA, yO, yS, yR, yL, yN, yD, yT, yM, yF, yW, yP) := by
  obtain ⟨hm, hW, h01, hs, h10, hS, hr, h6, hR⟩ := O
  exact gy_stepc hm hW h01 hs h10 hS hr h6 hR (gw_ct_lt t) h
theorem gy_ctr {post : SY → Prop} {t q : Nat} (O : gw_Yo K X Y Z F H yS yR m s r) (h : post (nI m, nI s, nI r, K, X, Y, Z, F, gw_nw K m H (gw_ct K X Y Z F H m q), yA, yO, yS, yR, yL, yN, yD, yT, yM, yF, yW, yP)) : wpY_restore post (nI m, nI s, nI r, K, X, Y, Z, F, gw_nw K m H (gw_ct K X Y Z F H m t), yA, yO, yS, yR, yL, yN, yD, yT, yM, yF, yW, yP) (nI (gw_ct K X Y Z F H m q)) := by
  obtain ⟨hm, hW, h01, hs, h10, hS, hr, h6, hR⟩ := O
  have := gw_ct_64 (X := X) (Y := Y) (Z := Z) (F := F) (H := H) (show gw_cnt (gw_rk K) m ≤ 6 by omega) q
  exact gy_restc hm (by omega) hr h6 hR h
theorem gw_nw_ct0 (h01 : gw_01 H) : gw_nw K m H (gw_ct K X Y Z F H m 0) = H := gw_nw_c0 h01
theorem gy_r34_l {post : Int32 → SY → Prop} {t0 t1 : Nat} (O : gw_Yo K X Y Z F H yS yR m s r) (hRho : gw_Rho (gw_S K X Y Z F H m) (gw_c0 K m H) t0 t1) (h64 : t1 ≤ 64) (h : ∀ A B, post (nI (t1 - t0)) (nI m, nI s, nI r, K, X, Y, Z, F, gw_nw K m H (gw_ct K X Y Z F H m 0), A, B, yS, yR, yL, yN, yD, yT, yM, yF, yW, yP)) : ∀ d n g A B, n + d = t1 - t0 → 0 < n → d < g → wY_round_34 post (nI (gw_ct K X Y Z F H m 0)) (nI (gw_ct K X Y Z F H m 64)) g (nI n) (nI m) (nI s) (nI r) K X Y Z F (gw_nw K m H (gw_ct K X Y Z F H m (64 + n))) A B yS yR yL yN yD yT yM yF yW yP := by
  have h6 : gw_cnt (gw_rk K) m ≤ 6 := by have := O.2.2.2.2.2.2; omega
  intro d
  induction d with
  | zero =>
    intro n g A B h1 h0 h2
    obtain ⟨g, rfl⟩ := gw_fz h2
    have e : gw_ct K X Y Z F H m (64 + n) = gw_ct K X Y Z F H m 64 := by
      rw [show n = t1 - t0 by omega]
      exact gw_rho_p hRho 64 (by have := hRho.1; omega)
    rw [wY_round_34]
    refine gy_ctc O ?_
    rw [e]
    refine br_t rfl (gy_ctr O ?_)
    rw [show n = t1 - t0 by omega]
    exact h A B
  | succ d ih =>
    intro n g A B h1 h0 h2
    obtain ⟨g, rfl⟩ := gw_fz h2
    have ne : gw_ct K X Y Z F H m (64 + n) ≠ gw_ct K X Y Z F H m 64 := gw_rho_min hRho (by have := hRho.1; omega) h0 (by omega)
    have l1 := gw_ct_64 (X := X) (Y := Y) (Z := Z) (F := F) (H := H) h6 (64 + n)
    have l2 := gw_ct_64 (X := X) (Y := Y) (Z := Z) (F := F) (H := H) h6 64
    rw [wY_round_34]
    refine gy_ctc O (br_f (fun q => ne ((nI_eq (by omega) (by omega)).mp q)) (gy_cts O (fun A' B' => nm_r (nI_1 n) ?_)))
    exact ih (n + 1) g A' B' (by omega) (by omega) (by omega)
theorem gy_r7_l {post : Int32 → SY → Prop} {t0 t1 : Nat} (O : gw_Yo K X Y Z F H yS yR m s r) (hRho : gw_Rho (gw_S K X Y Z F H m) (gw_c0 K m H) t0 t1) (h64 : t1 ≤ 64) (h : ∀ A B, post (nI (t1 - t0)) (nI m, nI s, nI r, K, X, Y, Z, F, gw_nw K m H (gw_ct K X Y Z F H m 0), A, B, yS, yR, yL, yN, yD, yT, yM, yF, yW, yP)) : ∀ d t g A B, t + d = 64 → d < g → wY_round_7 post (nI (gw_ct K X Y Z F H m 0)) g (nI t) (nI m) (nI s) (nI r) K X Y Z F (gw_nw K m H (gw_ct K X Y Z F H m t)) A B yS yR yL yN yD yT yM yF yW yP := by
  intro d
  induction d with
  | zero =>
    intro t g A B h1 h2
    obtain ⟨g, rfl⟩ := gw_fz h2
    have e : t = 64 := by omega
    subst e
    rw [wY_round_7]
    refine br_t (nI_le (a := 64) (by omega) (by omega)) (gy_ctc O (gy_cts O (fun A' B' => ⟨t1 - t0 + 1, ?_⟩)))
    exact gy_r34_l O hRho h64 h (t1 - t0 - 1) 1 (t1 - t0 + 1) A' B' (by have := hRho.1; omega) (by omega) (by omega)
  | succ d ih =>
    intro t g A B h1 h2
    obtain ⟨g, rfl⟩ := gw_fz h2
    rw [wY_round_7]
    refine br_f (nI_ge (b := 64) (by omega) (by decide)) (gy_cts O (fun A' B' => nm_r (nI_1 t) ?_))
    exact ih (t + 1) g A' B' (by omega) (by omega)
theorem gy_round {post : Int32 → SY → Prop} {t0 t1 : Nat} (O : gw_Yo K X Y Z F H yS yR m s r) (hRho : gw_Rho (gw_S K X Y Z F H m) (gw_c0 K m H) t0 t1) (h64 : t1 ≤ 64) (h : ∀ A B, post (nI (t1 - t0)) (nI m, nI s, nI r, K, X, Y, Z, F, gw_nw K m H (gw_ct K X Y Z F H m 0), A, B, yS, yR, yL, yN, yD, yT, yM, yF, yW, yP)) : wpY_round post (nI m, nI s, nI r, K, X, Y, Z, F, gw_nw K m H (gw_ct K X Y Z F H m 0), yA, yO, yS, yR, yL, yN, yD, yT, yM, yF, yW, yP) := by
  unfold wpY_round
  dsimp only
  exact gy_ctc O ⟨65, gy_r7_l O hRho h64 h 64 0 65 yA yO (by omega) (by omega)⟩
theorem gy_t29_l {post : Int32 → SY → Prop} {q : Nat} (O : gw_Yo K X Y Z F H yS yR m s r) (hq : q < 2 ^ 31) (h : ∀ A B, post (nI (gw_ct K X Y Z F H m q)) (nI m, nI s, nI r, K, X, Y, Z, F, gw_nw K m H (gw_ct K X Y Z F H m q), A, B, yS, yR, yL, yN, yD, yT, yM, yF, yW, yP)) : ∀ d t g A B, t + d = q → d < g → wY_tick_29 post (nI q) g (nI t) (nI m) (nI s) (nI r) K X Y Z F (gw_nw K m H (gw_ct K X Y Z F H m t)) A B yS yR yL yN yD yT yM yF yW yP := by
  intro d
  induction d with
  | zero =>
    intro t g A B h1 h2
    obtain ⟨g, rfl⟩ := gw_fz h2
    have e : t = q := by omega
    subst e
    rw [wY_tick_29]
    exact br_t (nI_le (by omega) (by omega)) (gy_ctc O (h A B))
  | succ d ih =>
    intro t g A B h1 h2
    obtain ⟨g, rfl⟩ := gw_fz h2
    rw [wY_tick_29]
    refine br_f (nI_ge (by omega) (by omega)) (gy_cts O (fun A' B' => nm_r (nI_1 t) ?_))
    exact ih (t + 1) g A' B' (by omega) (by omega)
theorem gy_tick {post : Int32 → SY → Prop} {t0 t1 n : Nat} (O : gw_Yo K X Y Z F H yS yR m s r) (hRho : gw_Rho (gw_S K X Y Z F H m) (gw_c0 K m H) t0 t1) (h64 : t1 ≤ 64) (hn : n < 2 ^ 31) (h : ∀ A B, post (nI (gw_ct K X Y Z F H m n)) (nI m, nI s, nI r, K, X, Y, Z, F, gw_nw K m H (gw_ct K X Y Z F H m n), A, B, yS, yR, yL, yN, yD, yT, yM, yF, yW, yP)) : wpY_tick post (nI m, nI s, nI r, K, X, Y, Z, F, gw_nw K m H (gw_ct K X Y Z F H m 0), yA, yO, yS, yR, yL, yN, yD, yT, yM, yF, yW, yP) (nI n) := by
  have h0 := hRho.1
  unfold wpY_tick
  dsimp only
  refine br_t (nI_pos' hn) ?_
  rcases Nat.lt_or_ge 64 n with c | c
  · refine br_f (nI_ge (b := n) (a := 64) c hn) (gy_round O hRho h64 (fun A B => ?_))
    have e : gw_ct K X Y Z F H m (64 + (n - 64) % (t1 - t0)) = gw_ct K X Y Z F H m n := gw_rho_u hRho (by omega) (by omega)
    have hml : (n - 64) % (t1 - t0) < t1 - t0 := Nat.mod_lt _ (by omega)
    have e1 : (nI n - 64 : Int32) = nI (n - 64) := pk_sub (b := 64) (by omega)
    have e2 : (64 : Int32) + nI ((n - 64) % (t1 - t0)) = nI (64 + (n - 64) % (t1 - t0)) := nI_add 64 _
    dsimp only
    refine ⟨nI_ne0 (by omega) (by omega), ?_⟩
    rw [e1, pk_rem (by omega) (by omega) (by omega), e2]
    refine nm_e ⟨64 + (n - 64) % (t1 - t0) + 1, gy_t29_l O (by omega) (fun A' B' => ?_) (64 + (n - 64) % (t1 - t0)) 0 _ A B (by omega) (by omega)⟩
    rw [e]
    exact h A' B'
  · exact br_t (nI_le (b := 64) c (by decide)) ⟨n + 1, gy_t29_l O hn h n 0 (n + 1) yA yO (by omega) (by omega)⟩
theorem gy_c73_l {post : Int32 → SY → Prop} {J : Int32 → Int32 → Int32 → Int32 → Int32 → (Nat → Int32) → (Nat → Int32) → (Nat → Int32) → (Nat → Int32) → (Nat → Int32) → (Nat → Int32) → (Nat → Int32) → (Nat → Int32) → (Nat → Int32) → (Nat → Int32) → (Nat → Int32) → (Nat → Int32) → (Nat → Int32) → (Nat → Int32) → (Nat → Int32) → (Nat → Int32) → (Nat → Int32) → (Nat → Int32) → Prop} {p u : Nat} {x3 x6 : Int32} (O : gw_Yo K X Y Z F H yS yR m s r) (hp : p < 2 ^ 31) (h0 : nI (gw_ct K X Y Z F H m (u + p)) = x6 → ∀ A B, J (nI u) 0 (nI m) (nI s) (nI r) K X Y Z F (gw_nw K m H (gw_ct K X Y Z F H m (u + p))) A B yS yR yL yN yD yT yM yF yW yP) (h1 : ¬ nI (gw_ct K X Y Z F H m (u + p)) = x6 → ∀ A B, J (nI (u + 1)) 1 (nI m) (nI s) (nI r) K X Y Z F (gw_nw K m H (gw_ct K X Y Z F H m (u + p))) A B yS yR yL yN yD yT yM yF yW yP) : ∀ d t g A B, t + d = p → d < g → wY_cycle_73 post J (nI p) x3 (nI u) x6 g (nI t) (nI m) (nI s) (nI r) K X Y Z F (gw_nw K m H (gw_ct K X Y Z F H m (u + t))) A B yS yR yL yN yD yT yM yF yW yP := by
  intro d
  induction d with
  | zero =>
    intro t g A B e1 e2
    obtain ⟨g, rfl⟩ := gw_fz e2
    have e : t = p := by omega
    subst e
    rw [wY_cycle_73]
    refine br_t (nI_le (by omega) (by omega)) (gy_ctc O (br_c (fun q => ?_) (fun q => ?_)))
    · exact br_t rfl (h0 q A B)
    · exact br_f gw_n10 (nm_r (nI_1 u) (h1 q A B))
  | succ d ih =>
    intro t g A B e1 e2
    obtain ⟨g, rfl⟩ := gw_fz e2
    rw [wY_cycle_73]
    refine br_f (nI_ge (by omega) (by omega)) (gy_cts O (fun A' B' => nm_r (nI_1 t) ?_))
    exact ih (t + 1) g A' B' (by omega) (by omega)
theorem gy_c47_l {post : Int32 → SY → Prop} {J : Int32 → Int32 → Int32 → Int32 → Int32 → (Nat → Int32) → (Nat → Int32) → (Nat → Int32) → (Nat → Int32) → (Nat → Int32) → (Nat → Int32) → (Nat → Int32) → (Nat → Int32) → (Nat → Int32) → (Nat → Int32) → (Nat → Int32) → (Nat → Int32) → (Nat → Int32) → (Nat → Int32) → (Nat → Int32) → (Nat → Int32) → (Nat → Int32) → (Nat → Int32) → Prop} {p u : Nat} {x3 : Int32} (O : gw_Yo K X Y Z F H yS yR m s r) (hp : p < 2 ^ 31) (hu : u < 2 ^ 31) (h0 : gw_ct K X Y Z F H m (u + p) = gw_ct K X Y Z F H m u → ∀ A B, J (nI u) 0 (nI m) (nI s) (nI r) K X Y Z F (gw_nw K m H (gw_ct K X Y Z F H m (u + p))) A B yS yR yL yN yD yT yM yF yW yP) (h1 : ¬ gw_ct K X Y Z F H m (u + p) = gw_ct K X Y Z F H m u → ∀ A B, J (nI (u + 1)) 1 (nI m) (nI s) (nI r) K X Y Z F (gw_nw K m H (gw_ct K X Y Z F H m (u + p))) A B yS yR yL yN yD yT yM yF yW yP) : ∀ d t g A B, t + d = u → d < g → wY_cycle_47 post J (nI p) x3 (nI u) g (nI t) (nI m) (nI s) (nI r) K X Y Z F (gw_nw K m H (gw_ct K X Y Z F H m t)) A B yS yR yL yN yD yT yM yF yW yP := by
  have h6 : gw_cnt (gw_rk K) m ≤ 6 := by have := O.2.2.2.2.2.2; omega
  have l1 := gw_ct_64 (X := X) (Y := Y) (Z := Z) (F := F) (H := H) h6 (u + p)
  have l2 := gw_ct_64 (X := X) (Y := Y) (Z := Z) (F := F) (H := H) h6 u
  intro d
  induction d with
  | zero =>
    intro t g A B e1 e2
    obtain ⟨g, rfl⟩ := gw_fz e2
    have e : t = u := by omega
    subst e
    rw [wY_cycle_47]
    refine br_t (nI_le (by omega) (by omega)) (gy_ctc O ⟨p + 1, ?_⟩)
    refine gy_c73_l O hp (fun q => h0 ?_) (fun q => h1 ?_) p 0 (p + 1) A B (by omega) (by omega)
    · exact (nI_eq (by omega) (by omega)).mp q
    · exact fun q2 => q (by rw [q2])
  | succ d ih =>
    intro t g A B e1 e2
    obtain ⟨g, rfl⟩ := gw_fz e2
    rw [wY_cycle_47]
    refine br_f (nI_ge (by omega) (by omega)) (gy_cts O (fun A' B' => nm_r (nI_1 t) ?_))
    exact ih (t + 1) g A' B' (by omega) (by omega)
theorem gy_c34_l {post : Int32 → SY → Prop} {t0 t1 : Nat} (O : gw_Yo K X Y Z F H yS yR m s r) (hRho : gw_Rho (gw_S K X Y Z F H m) (gw_c0 K m H) t0 t1) (h64 : t1 ≤ 64) (h : ∀ A B, post (nI t0) (nI m, nI s, nI r, K, X, Y, Z, F, gw_nw K m H (gw_ct K X Y Z F H m 0), A, B, yS, yR, yL, yN, yD, yT, yM, yF, yW, yP)) : ∀ d u g q A B, u + d = t0 → d + 1 < g → wY_cycle_34 post (nI (t1 - t0)) (nI (gw_ct K X Y Z F H m 0)) g (nI u) 1 (nI m) (nI s) (nI r) K X Y Z F (gw_nw K m H (gw_ct K X Y Z F H m q)) A B yS yR yL yN yD yT yM yF yW yP := by
  have hlt := hRho.1
  intro d
  induction d with
  | zero =>
    intro u g q A B e1 e2
    obtain ⟨g, rfl⟩ := gw_fz e2
    obtain ⟨g, rfl⟩ := gw_fz (show 0 < g by omega)
    have e : u = t0 := by omega
    rw [wY_cycle_34]
    refine br_f gw_n10 (gy_ctr O ⟨u + 1, ?_⟩)
    refine gy_c47_l O (by omega) (by omega) (fun _ A' B' => ?_) (fun q2 => absurd ?_ q2) u 0 (u + 1) A B (by omega) (by omega)
    · rw [wY_cycle_34]
      refine br_t rfl (gy_ctr O ?_)
      rw [e]
      exact h A' B'
    · rw [e]
      exact (gw_rho_tail0 hRho).symm
  | succ d ih =>
    intro u g q A B e1 e2
    obtain ⟨g, rfl⟩ := gw_fz e2
    rw [wY_cycle_34]
    refine br_f gw_n10 (gy_ctr O ⟨u + 1, ?_⟩)
    refine gy_c47_l O (by omega) (by omega) (fun q2 => absurd q2 ?_) (fun _ A' B' => ?_) u 0 (u + 1) A B (by omega) (by omega)
    · exact fun e => gw_rho_tail hRho (show u < t0 by omega) e.symm
    · exact ih (u + 1) g _ A' B' (by omega) (by omega)
theorem gy_cycle {post : Int32 → SY → Prop} {t0 t1 : Nat} {p : Int32} (O : gw_Yo K X Y Z F H yS yR m s r) (hRho : gw_Rho (gw_S K X Y Z F H m) (gw_c0 K m H) t0 t1) (h64 : t1 ≤ 64) (hp : p = 0 ∨ p = 1) (c1 : p = 0 → ∀ A B, post (nI t0) (nI m, nI s, nI r, K, X, Y, Z, F, gw_nw K m H (gw_ct K X Y Z F H m 0), A, B, yS, yR, yL, yN, yD, yT, yM, yF, yW, yP)) (c2 : p = 1 → ∀ A B, post (nI (t1 - t0)) (nI m, nI s, nI r, K, X, Y, Z, F, gw_nw K m H (gw_ct K X Y Z F H m 0), A, B, yS, yR, yL, yN, yD, yT, yM, yF, yW, yP)) : wpY_cycle post (nI m, nI s, nI r, K, X, Y, Z, F, gw_nw K m H (gw_ct K X Y Z F H m 0), yA, yO, yS, yR, yL, yN, yD, yT, yM, yF, yW, yP) p := by
  unfold wpY_cycle
  dsimp only
  refine gy_in (fun _ _ => br_f gw_n10 (gy_round O hRho h64 (fun A B => br_c (fun e => c2 e A B) (fun e => gy_ctc O ⟨t0 + 2, ?_⟩)))) (fun q => absurd ?_ q)
  · exact gy_c34_l O hRho h64 (c1 (hp.resolve_right e)) t0 0 (t0 + 2) 0 A B (by omega) (by omega)
  · rcases hp with e | e <;> rw [e] <;> decide
end
