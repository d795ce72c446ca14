/-! how soon two configurations are apart, in the reference -/
section
variable {m s r : Nat} {K X Y Z F H yA yO yS yR yL yN yD yT yM yF yW yP : Nat → Int32}
theorem gy_inp_l {post : Int32 → Prop} (hm : m ≤ 32) (hs : s = gw_cnt (gw_sk K) m) (h10 : s ≤ 10) (hE : gw_En (gw_sk K) yS m) (h : post (nI (gw_pk (fun _ => true) (fun j => gw_ik K (yS j).toNatClampNeg) s))) : ∀ d i g, i + d = s → d < g → wY_inputs_4 post (nI m) (nI s) (nI r) K X Y Z F H yA yO yS yR yL yN yD yT yM yF yW yP g (nI (gw_pk (fun _ => true) (fun j => gw_ik K (yS j).toNatClampNeg) i)) (nI i) := by
  intro d
  induction d with
  | zero =>
    intro i g h1 h2
    obtain ⟨g, rfl⟩ := gw_fz h2
    have e : i = s := by omega
    rw [wY_inputs_4]
    refine br_t (nI_le (by omega) (by omega)) ?_
    rw [e]
    exact h
  | succ d ih =>
    intro i g h1 h2
    obtain ⟨g, rfl⟩ := gw_fz h2
    have ci : (nI i).toNatClampNeg = i := nI_clamp (by omega)
    obtain ⟨n, hn, hq, hc, e⟩ := gw_En_at hE (show i < gw_cnt (gw_sk K) m by omega)
    have cn : (nI n).toNatClampNeg = n := nI_clamp (by omega)
    have ihn := ih (i + 1) g (by omega) (by omega)
    rw [gw_pk_t (q := fun _ => true) rfl, gw_cnt_all, e, cn] at ihn
    rw [wY_inputs_4]
    refine br_f (nI_ge (by omega) (by omega)) ⟨vp_in_nI (by omega) (by omega), ?_⟩
    rw [ci, e, cn]
    refine ⟨vp_in_nI (by omega) (by omega), br_c (fun q => ?_) (fun q => ?_)⟩
    · rw [gw_ik_t.mpr q] at ihn
      exact nm_r (gw_or _ true (by omega)) (nm_r (nI_1 i) ihn)
    · rw [gw_ik_f.mpr q, show Bool.toNat false = 0 from rfl, Nat.zero_shiftLeft, Nat.or_zero] at ihn
      exact nm_r (nI_1 i) ihn
theorem gy_inp {post : Int32 → Prop} (hm : m ≤ 32) (hs : s = gw_cnt (gw_sk K) m) (h10 : s ≤ 10) (hE : gw_En (gw_sk K) yS m) (h : post (nI (gw_msk K m))) : wpY_inputs post (nI m, nI s, nI r, K, X, Y, Z, F, H, yA, yO, yS, yR, yL, yN, yD, yT, yM, yF, yW, yP) := by
  refine ⟨s + 1, gy_inp_l hm hs h10 hE ?_ s 0 (s + 1) (by omega) (by omega)⟩
  have e : gw_pk (fun _ => true) (fun j => gw_ik K (yS j).toNatClampNeg) s = gw_msk K m := by
    rw [hs]
    refine gw_pk_comp (p := gw_sk K) (q := gw_sk K) (fun n _ hq => hq.symm) (fun n _ hq => hq) (fun n hn hq => ?_)
    show gw_ik K (yS (gw_cnt (gw_sk K) n)).toNatClampNeg = gw_ik K n
    rw [hE n hn hq, nI_clamp (by omega)]
  rw [e]
  exact h
theorem gy_join_l {post : Int32 → Prop} {c b : Nat} (hm : m ≤ 32) (hc : c < 2 ^ 31) (hs : s = gw_cnt (gw_sk K) m) (h10 : s ≤ 10) (hE : gw_En (gw_sk K) yS m) (h : ∀ a : Nat, (∀ i, a.testBit i = (b.testBit i || (decide (i < s) && (gw_rk K (yS i).toNatClampNeg && c.testBit (gw_cnt (fun j => gw_rk K (yS j).toNatClampNeg) i))))) → post (nI a)) : ∀ d j g (a : Nat), j + d = s → d < g → (∀ i, a.testBit i = (b.testBit i || (decide (i < j) && (gw_rk K (yS i).toNatClampNeg && c.testBit (gw_cnt (fun j => gw_rk K (yS j).toNatClampNeg) i))))) → wY_join_8 post (nI c) (nI m) (nI s) (nI r) K X Y Z F H yA yO yS yR yL yN yD yT yM yF yW yP g (nI a) (nI (gw_cnt (fun j => gw_rk K (yS j).toNatClampNeg) j)) (nI j) := by
  intro d
  induction d with
  | zero =>
    intro j g a h1 h2 ha
    obtain ⟨g, rfl⟩ := gw_fz h2
    have e : j = s := by omega
    subst e
    rw [wY_join_8]
    exact br_t (nI_le (by omega) (by omega)) (h a ha)
  | succ d ih =>
    intro j g a h1 h2 ha
    obtain ⟨g, rfl⟩ := gw_fz h2
    have cj : (nI j).toNatClampNeg = j := nI_clamp (by omega)
    obtain ⟨n, hn, hq, hcn, e⟩ := gw_En_at hE (show j < gw_cnt (gw_sk K) m by omega)
    have cn : (nI n).toNatClampNeg = n := nI_clamp (by omega)
    have hle := gw_cnt_le (fun j => gw_rk K (yS j).toNatClampNeg) j
    rw [wY_join_8]
    refine br_f (nI_ge (by omega) (by omega)) ⟨vp_in_nI (by omega) (by omega), ?_⟩
    rw [cj, e, cn]
    refine ⟨vp_in_nI (by omega) (by omega), br_c (fun q => ?_) (fun q => ?_)⟩
    · have hqj : gw_rk K (yS j).toNatClampNeg = true := by rw [e, cn]; exact gw_rk_t.mpr q
      have ihn := ih (j + 1) g (a ||| ((c.testBit (gw_cnt (fun j => gw_rk K (yS j).toNatClampNeg) j)).toNat <<< j)) (by omega) (by omega) (fun i => by
        rw [Nat.testBit_or, gw_sh_bit, ha i]
        rcases Nat.lt_trichotomy i j with l | l | l
        · rw [decide_eq_true l, decide_eq_true (show i < j + 1 by omega), decide_eq_false (show ¬ i = j by omega), Bool.false_and, Bool.or_false]
        · subst l
          rw [decide_eq_false (show ¬ i < i by omega), decide_eq_true (show i < i + 1 by omega), decide_eq_true rfl, hqj]
          simp
        · rw [decide_eq_false (show ¬ i < j by omega), decide_eq_false (show ¬ i < j + 1 by omega), decide_eq_false (show ¬ i = j by omega)]
          simp)
      rw [gw_cnt_t (q := fun j => gw_rk K (yS j).toNatClampNeg) hqj] at ihn
      refine nm_r ?_ (nm_r (nI_1 _) (nm_r (nI_1 j) ihn))
      rw [gw_sbit hc (by omega), gw_or _ _ (by omega)]
    · have hqj : gw_rk K (yS j).toNatClampNeg = false := by rw [e, cn]; exact gw_rk_f.mpr q
      have ihn := ih (j + 1) g a (by omega) (by omega) (fun i => by
        rw [ha i]
        rcases Nat.lt_trichotomy i j with l | l | l
        · rw [decide_eq_true l, decide_eq_true (show i < j + 1 by omega)]
        · subst l
          rw [hqj]
          simp
        · rw [decide_eq_false (show ¬ i < j by omega), decide_eq_false (show ¬ i < j + 1 by omega)])
      rw [gw_cnt_f (q := fun j => gw_rk K (yS j).toNatClampNeg) hqj] at ihn
      exact nm_r (nI_1 j) ihn
theorem gy_join {post : Int32 → Prop} {c b : Nat} (hm : m ≤ 32) (hc : c < 2 ^ 31) (hs : s = gw_cnt (gw_sk K) m) (h10 : s ≤ 10) (hE : gw_En (gw_sk K) yS m) (hb : b &&& gw_msk K m = b) (h : post (nI (gw_jn K m (gw_of K m b) c))) : wpY_join post (nI m, nI s, nI r, K, X, Y, Z, F, H, yA, yO, yS, yR, yL, yN, yD, yT, yM, yF, yW, yP) (nI c) (nI b) := by
  refine ⟨s + 1, gy_join_l hm hc hs h10 hE (fun a ha => ?_) s 0 (s + 1) b (by omega) (by omega) (fun i => by rw [decide_eq_false (Nat.not_lt_zero _), Bool.false_and, Bool.or_false])⟩
  have hbl := gw_msk_lt hb
  have e : a = gw_jn K m (gw_of K m b) c := by
    refine gw_join hb ?_ (fun n hn hk => ?_)
    · apply Nat.lt_pow_two_of_testBit
      intro i hi
      rw [ha i, decide_eq_false (show ¬ i < s by omega), Nat.testBit_lt_two_pow (Nat.lt_of_lt_of_le hbl (Nat.pow_le_pow_right (by omega) hi))]
      rfl
    · have hlt := gw_cnt_lt hk hn
      have e1 : gw_rk K (yS (gw_cnt (gw_sk K) n)).toNatClampNeg = gw_rk K n := by rw [hE n hn hk, nI_clamp (by omega)]
      have e2 : gw_cnt (fun j => gw_rk K (yS j).toNatClampNeg) (gw_cnt (gw_sk K) n) = gw_cnt (gw_rk K) n := by
        refine gw_cnt_comp (fun i hi hki => ?_) (fun i _ hki => gw_rk_sk hki)
        show gw_rk K (yS (gw_cnt (gw_sk K) i)).toNatClampNeg = gw_rk K i
        rw [hE i (by omega) hki, nI_clamp (by omega)]
      rw [ha, decide_eq_true (show gw_cnt (gw_sk K) n < s by omega), e1, e2, Bool.true_and]
  rw [← e] at h
  exact h
/-- the test of a round at offset w -/
def gw_dt (K X Y Z F A : Nat → Int32) (m net c e t w : Nat) : Prop := (t = 0 ∧ gw_sh K X Y Z m net w c ≠ gw_sh K X Y Z m net w e) ∨ ∃ t', t = t' + 1 ∧ gw_rd A (gw_stp K X Y Z F m w c) (gw_stp K X Y Z F m w e) = nI t'
theorem gy_diff_l {post : Int32 → Prop} {c e t net : Nat} (hm : m ≤ 32) (hs : s = gw_cnt (gw_sk K) m) (h10 : s ≤ 10) (hS : gw_En (gw_sk K) yS m) (hr : r = gw_cnt (gw_rk K) m) (h6 : r ≤ 6) (hc : c < 2 ^ r) (he : e < 2 ^ r) (ht : t ≤ 1000) (hB : ∀ b, b < 2 ^ s → yF b = nI (gw_tk K X Y Z F m (gw_sa K b))) (hV : ∀ b, b < 2 ^ s → yW b = gw_b (gw_T K X Y Z m net b)) (h : ∀ z, gw_tv (∃ w, w < 2 ^ gw_q K m ∧ gw_dt K X Y Z F yP m net c e t w) z → post z) : ∀ b g, b + 1 < g → b &&& gw_msk K m = b → (∀ b', b' &&& gw_msk K m = b' → b < b' → ¬ gw_dt K X Y Z F yP m net c e t (gw_of K m b')) → wY_differs_7 post (nI c) (nI e) (nI t) (nI (gw_msk K m)) (nI m) (nI s) (nI r) K X Y Z F H yA yO yS yR yL yN yD yT yM yF yW yP g (nI b) 0 := by
  have hR2 := gw_p6 h6
  have hN2 := gw_p10 h10
  intro b
  induction b using Nat.strongRecOn with
  | ind b ih =>
    intro g hg hb hno
    obtain ⟨g, rfl⟩ := gw_fz hg
    obtain ⟨g, rfl⟩ := gw_fz (show b < g by omega)
    have hbl := gw_msk_lt hb
    rw [← hs] at hbl
    have hcr : c < 2 ^ gw_cnt (gw_rk K) m := by rw [← hr]; exact hc
    have her : e < 2 ^ gw_cnt (gw_rk K) m := by rw [← hr]; exact he
    have hw : gw_of K m b < 2 ^ gw_q K m := gw_of_lt K m b
    have la : gw_jn K m (gw_of K m b) c < 2 ^ s := by rw [hs]; exact gw_jn_lt K m _ _
    have lb : gw_jn K m (gw_of K m b) e < 2 ^ s := by rw [hs]; exact gw_jn_lt K m _ _
    have fa : yF (gw_jn K m (gw_of K m b) c) = nI (gw_stp K X Y Z F m (gw_of K m b) c) := by
      rw [hB _ la, ← gw_stp_a, gw_co_j hcr, gw_of_j hw]
    have fb : yF (gw_jn K m (gw_of K m b) e) = nI (gw_stp K X Y Z F m (gw_of K m b) e) := by
      rw [hB _ lb, ← gw_stp_a, gw_co_j her, gw_of_j hw]
    have wa : yW (gw_jn K m (gw_of K m b) c) = gw_b (gw_sh K X Y Z m net (gw_of K m b) c) := by
      rw [hV _ la]
      unfold gw_T
      rw [← gw_sh_a, gw_co_j hcr, gw_of_j hw]
    have wb : yW (gw_jn K m (gw_of K m b) e) = gw_b (gw_sh K X Y Z m net (gw_of K m b) e) := by
      rw [hV _ lb]
      unfold gw_T
      rw [← gw_sh_a, gw_co_j her, gw_of_j hw]
    have ca : (nI (gw_jn K m (gw_of K m b) c)).toNatClampNeg = gw_jn K m (gw_of K m b) c := nI_clamp (by omega)
    have cb : (nI (gw_jn K m (gw_of K m b) e)).toNatClampNeg = gw_jn K m (gw_of K m b) e := nI_clamp (by omega)
    have va : vp_in (nI (gw_jn K m (gw_of K m b) c)) 1024 := vp_in_nI (by omega) (by omega)
    have vb : vp_in (nI (gw_jn K m (gw_of K m b) e)) 1024 := vp_in_nI (by omega) (by omega)
    have l1 : gw_stp K X Y Z F m (gw_of K m b) c < 64 := Nat.lt_of_lt_of_le (gw_stp_lt K X Y Z F m _ c) (by rw [← hr]; exact hR2)
    have l2 : gw_stp K X Y Z F m (gw_of K m b) e < 64 := Nat.lt_of_lt_of_le (gw_stp_lt K X Y Z F m _ e) (by rw [← hr]; exact hR2)
    have go : ¬ gw_dt K X Y Z F yP m net c e t (gw_of K m b) → wY_differs_154 post (wY_differs_7 post (nI c) (nI e) (nI t) (nI (gw_msk K m)) (nI m) (nI s) (nI r) K X Y Z F H yA yO yS yR yL yN yD yT yM yF yW yP (g + 1)) (nI c) (nI e) (nI t) (nI (gw_msk K m)) (nI b) (nI m) (nI s) (nI r) K X Y Z F H yA yO yS yR yL yN yD yT yM yF yW yP := by
      intro hn
      have hno2 : ∀ b', b' &&& gw_msk K m = b' → b ≤ b' → ¬ gw_dt K X Y Z F yP m net c e t (gw_of K m b') := fun b' h3 h4 => by
        rcases Nat.lt_or_ge b b' with l | l
        · exact hno b' h3 l
        · rw [show b' = b by omega]; exact hn
      by_cases b0 : b = 0
      · subst b0
        refine br_t rfl (nm_e ?_)
        rw [wY_differs_7]
        refine br_f gw_n10 (h 0 (gw_tv_f ?_))
        rintro ⟨w, h3, h4⟩
        have h5 := hno2 (gw_jn K m w 0) gw_msk_w (Nat.zero_le _)
        rw [gw_of_j h3] at h5
        exact h5 h4
      · refine br_f (nI_ne0 (by omega) (by omega)) (nm_r (e' := nI ((b - 1) &&& gw_msk K m)) ?_ (ih ((b - 1) &&& gw_msk K m) ?_ (g + 1) ?_ (gw_subm_in b _) (fun b' h3 h4 => ?_)))
        · obtain ⟨b1, rfl⟩ : ∃ b1, b = b1 + 1 := ⟨b - 1, by omega⟩
          rw [nI_pred, nx_and, Nat.add_sub_cancel]
        · exact Nat.lt_of_le_of_lt Nat.and_le_left (by omega)
        · have : (b - 1) &&& gw_msk K m ≤ b - 1 := Nat.and_le_left
          omega
        · refine hno2 b' h3 ?_
          apply Nat.le_of_not_lt
          intro l
          have := gw_subm b (gw_msk K m) b' hb h3 l
          omega
    have fin : ∀ p q : Nat, p < 64 → q < 64 → q ≤ p → ((gw_stp K X Y Z F m (gw_of K m b) c = p ∧ gw_stp K X Y Z F m (gw_of K m b) e = q) ∨ (gw_stp K X Y Z F m (gw_of K m b) c = q ∧ gw_stp K X Y Z F m (gw_of K m b) e = p)) → wY_differs_100 post (wY_differs_7 post (nI c) (nI e) (nI t) (nI (gw_msk K m)) (nI m) (nI s) (nI r) K X Y Z F H yA yO yS yR yL yN yD yT yM yF yW yP (g + 1)) (nI c) (nI e) (nI t) (nI (gw_msk K m)) (nI b) (nI (gw_jn K m (gw_of K m b) c)) (nI (gw_jn K m (gw_of K m b) e)) (nI p) (nI q) (nI m) (nI s) (nI r) K X Y Z F H yA yO yS yR yL yN yD yT yM yF yW yP := by
      intro p q hp hq hqp hpq
      unfold wY_differs_100
      rw [ca, cb, wa, wb, gw_b_inj]
      by_cases t0 : t = 0
      · refine br_t (by rw [t0]; rfl) ⟨va, vb, br_c (fun q2 => go ?_) (fun q2 => h 1 (gw_tv_t ⟨_, hw, Or.inl ⟨t0, q2⟩⟩))⟩
        rintro (⟨_, q3⟩ | ⟨t', q3, _⟩)
        · exact q3 q2
        · omega
      · obtain ⟨t', rfl⟩ : ∃ t', t = t' + 1 := ⟨t - 1, by omega⟩
        refine br_f (nI_ne0 (by omega) (by omega)) ?_
        have cp : (nI (p * 64 + q)).toNatClampNeg = p * 64 + q := nI_clamp (by omega)
        by_cases epq : p = q
        · subst epq
          refine br_t rfl (go ?_)
          rintro (⟨q3, _⟩ | ⟨t2, q3, q4⟩)
          · omega
          · have e1 : gw_stp K X Y Z F m (gw_of K m b) c = p := by rcases hpq with z | z <;> exact z.1
            have e2 : gw_stp K X Y Z F m (gw_of K m b) e = p := by rcases hpq with z | z <;> exact z.2
            rw [e1, e2] at q4
            unfold gw_rd at q4
            rw [if_neg (by omega), if_neg (by omega)] at q4
            exact gw_m1 (show t2 < 2 ^ 31 by omega) q4.symm
        · have erd : gw_rd yP (gw_stp K X Y Z F m (gw_of K m b) c) (gw_stp K X Y Z F m (gw_of K m b) e) = yP (p * 64 + q) := by
            unfold gw_rd
            rcases hpq with z | z
            · rw [z.1, z.2, if_pos (by omega)]
            · rw [z.1, z.2, if_neg (by omega), if_pos (by omega)]
          rw [gw_pl64, cp, nI_pred]
          refine br_f (fun q2 => epq ((nI_eq (by omega) (by omega)).mp q2)) ⟨vp_in_nI (by omega) (by omega), br_c (fun q2 => h 1 (gw_tv_t ⟨_, hw, Or.inr ⟨t', rfl, by rw [erd]; exact q2⟩⟩)) (fun q2 => go ?_)⟩
          rintro (⟨q3, _⟩ | ⟨t2, q3, q4⟩)
          · omega
          · have : t2 = t' := by omega
            subst this
            rw [erd] at q4
            exact q2 q4
    rw [wY_differs_7]
    refine br_t rfl (gy_join hm (by omega) hs h10 hS hb (gy_join hm (by omega) hs h10 hS hb ?_))
    rw [ca, cb, fa, fb]
    refine ⟨va, vb, ?_⟩
    rcases Nat.lt_or_ge (gw_stp K X Y Z F m (gw_of K m b) e) (gw_stp K X Y Z F m (gw_of K m b) c) with l | l
    · refine br_f (nI_ge l (by omega)) ⟨va, ?_⟩
      unfold wY_differs_64
      rw [ca, cb, fa, fb]
      exact ⟨va, vb, br_f (nI_ge l (by omega)) ⟨vb, fin _ _ l1 l2 (by omega) (Or.inl ⟨rfl, rfl⟩)⟩⟩
    · refine br_t (nI_le l (by omega)) ⟨vb, ?_⟩
      unfold wY_differs_64
      rw [ca, cb, fa, fb]
      exact ⟨va, vb, br_t (nI_le l (by omega)) ⟨va, fin _ _ l2 l1 l (Or.inr ⟨rfl, rfl⟩)⟩⟩
theorem gy_diff {post : Int32 → Prop} {c e t net : Nat} (hm : m ≤ 32) (hs : s = gw_cnt (gw_sk K) m) (h10 : s ≤ 10) (hS : gw_En (gw_sk K) yS m) (hr : r = gw_cnt (gw_rk K) m) (h6 : r ≤ 6) (hc : c < 2 ^ r) (he : e < 2 ^ r) (ht : t ≤ 1000) (hB : ∀ b, b < 2 ^ s → yF b = nI (gw_tk K X Y Z F m (gw_sa K b))) (hV : ∀ b, b < 2 ^ s → yW b = gw_b (gw_T K X Y Z m net b)) (h : ∀ z, gw_tv (∃ w, w < 2 ^ gw_q K m ∧ gw_dt K X Y Z F yP m net c e t w) z → post z) : wpY_differs post (nI m, nI s, nI r, K, X, Y, Z, F, H, yA, yO, yS, yR, yL, yN, yD, yT, yM, yF, yW, yP) (nI c) (nI e) (nI t) (nI (gw_msk K m)) :=
  ⟨gw_msk K m + 2, gy_diff_l hm hs h10 hS hr h6 hc he ht hB hV h (gw_msk K m) _ (by omega) (Nat.and_self _) (fun b' h1 h2 => absurd (gw_msk_le h1) (by omega))⟩
theorem gy_c60_l {post : SY → Prop} {J37 J : Int32 → Int32 → (Nat → Int32) → (Nat → Int32) → (Nat → Int32) → (Nat → Int32) → (Nat → Int32) → (Nat → Int32) → (Nat → Int32) → (Nat → Int32) → (Nat → Int32) → (Nat → Int32) → (Nat → Int32) → (Nat → Int32) → (Nat → Int32) → (Nat → Int32) → (Nat → Int32) → (Nat → Int32) → (Nat → Int32) → (Nat → Int32) → Prop} {R t c net : Nat} (hm : m ≤ 32) (hs : s = gw_cnt (gw_sk K) m) (h10 : s ≤ 10) (hS : gw_En (gw_sk K) yS m) (hr : r = gw_cnt (gw_rk K) m) (h6 : r ≤ 6) (hRR : R = 2 ^ r) (hc : c < R) (ht : t ≤ 1000) (hB : ∀ b, b < 2 ^ s → yF b = nI (gw_tk K X Y Z F m (gw_sa K b))) (hV : ∀ b, b < 2 ^ s → yW b = gw_b (gw_T K X Y Z m net b)) (h : ∀ A z, gw_AS (2 ^ gw_q K m) (gw_stp K X Y Z F m) (gw_sh K X Y Z m net) R t (fun x y => x < c + 1) A → gw_tv (gw_any (2 ^ gw_q K m) (gw_stp K X Y Z F m) (gw_sh K X Y Z m net) R t (c + 1) 0) z → J z (nI (c + 1)) K X Y Z F H yA yO yS yR yL yN yD yT yM yF yW A) : ∀ d e g z A, e + d = c → d < g → gw_AS (2 ^ gw_q K m) (gw_stp K X Y Z F m) (gw_sh K X Y Z m net) R t (fun x y => x < c ∨ (x = c ∧ y < e)) A → gw_tv (gw_any (2 ^ gw_q K m) (gw_stp K X Y Z F m) (gw_sh K X Y Z m net) R t c e) z → wY_compare_60 post J37 J (nI (gw_msk K m)) (nI t) (nI c) (nI m) (nI s) (nI r) g z (nI e) K X Y Z F H yA yO yS yR yL yN yD yT yM yF yW A := by
  have hR2 : R ≤ 64 := by rw [hRR]; exact gw_p6 h6
  have hstp : ∀ w x, w < 2 ^ gw_q K m → x < R → gw_stp K X Y Z F m w x < R := fun w x _ _ => by rw [hRR, hr]; exact gw_stp_lt K X Y Z F m w x
  intro d
  induction d with
  | zero =>
    intro e g z A h1 h2 hA hz
    obtain ⟨g, rfl⟩ := gw_fz h2
    rw [wY_compare_60]
    refine br_t (nI_le (by omega) (by omega)) (nm_r (nI_1 c) (h A z (gw_AS_congr hA (fun x y hx hy => ?_)) (gw_tv_iff hz ?_)))
    · constructor
      · rintro (q | q) <;> omega
      · intro q; omega
    · constructor
      · rintro ⟨x, y, q1, q2, q3, q4⟩
        exact ⟨x, y, q1, q2, by omega, q4⟩
      · rintro ⟨x, y, q1, q2, q3, q4⟩
        exact ⟨x, y, q1, q2, by omega, q4⟩
  | succ d ih =>
    intro e g z A h1 h2 hA hz
    obtain ⟨g, rfl⟩ := gw_fz h2
    have cp : (nI (c * 64 + e)).toNatClampNeg = c * 64 + e := nI_clamp (by omega)
    have vp : vp_in (nI (c * 64 + e)) 4096 := vp_in_nI (by omega) (by omega)
    have pc : ∀ x y, y < x → x < R → ((x < c ∨ (x = c ∧ y < e)) ∨ (x = c ∧ y = e) ↔ (x < c ∨ (x = c ∧ y < e + 1))) := by
      intro x y _ _
      constructor
      · rintro ((q | q) | q) <;> omega
      · intro q; omega
    have anyno : ¬ gw_B (2 ^ gw_q K m) (gw_stp K X Y Z F m) (gw_sh K X Y Z m net) c e t → gw_tv (gw_any (2 ^ gw_q K m) (gw_stp K X Y Z F m) (gw_sh K X Y Z m net) R t c (e + 1)) z := by
      intro nb
      refine gw_tv_iff hz ⟨?_, ?_⟩
      · rintro ⟨x, y, q1, q2, q3, q4⟩
        exact ⟨x, y, q1, q2, by omega, q4⟩
      · rintro ⟨x, y, q1, q2, q3, q4⟩
        by_cases q5 : x = c ∧ y = e
        · obtain ⟨rfl, rfl⟩ := q5
          exact absurd q4 nb
        · exact ⟨x, y, q1, q2, by omega, q4⟩
    rw [wY_compare_60]
    refine br_f (nI_ge (by omega) (by omega)) ?_
    rw [gw_pl64, cp]
    refine ⟨vp, ?_⟩
    rcases gw_AS_cases hA (show e < c by omega) hc with ⟨s', hs', hb', q⟩ | ⟨hp, _, _⟩ | ⟨n1, n2, q⟩
    · rw [q]
      refine br_t (nI_pos' (by omega)) (nm_r (nI_1 e) (ih (e + 1) g z A (by omega) (by omega) (gw_AS_congr (gw_AS_skip hA (by omega) hc (Or.inl ?_)) pc) (anyno (fun hb => ?_))))
      · rw [q]; exact gw_m1 (by omega)
      · have := gw_B_u hb hb'
        omega
    · omega
    · refine br_f (by rw [q]; decide) (gy_diff hm hs h10 hS hr h6 (by omega) (by omega) ht hB hV (fun z10 hz10 => ?_))
      have hz2 : gw_tv (gw_B (2 ^ gw_q K m) (gw_stp K X Y Z F m) (gw_sh K X Y Z m net) c e t) z10 := by
        refine gw_tv_iff hz10 ?_
        by_cases t0 : t = 0
        · subst t0
          rw [gw_B_0]
          constructor
          · rintro ⟨w, hw, ⟨_, q2⟩ | ⟨t', q2, _⟩⟩
            · exact ⟨w, hw, q2⟩
            · omega
          · rintro ⟨w, hw, q2⟩
            exact ⟨w, hw, Or.inl ⟨rfl, q2⟩⟩
        · obtain ⟨t', rfl⟩ : ∃ t', t = t' + 1 := ⟨t - 1, by omega⟩
          rw [← gw_AS_test hstp hA (by omega) (show e < c by omega) hc n1]
          constructor
          · rintro ⟨w, hw, ⟨q2, _⟩ | ⟨t2, q2, q3⟩⟩
            · omega
            · exact ⟨w, hw, by rw [show t' = t2 by omega]; exact q3⟩
          · rintro ⟨w, hw, q2⟩
            exact ⟨w, hw, Or.inr ⟨t', rfl, q2⟩⟩
      rcases hz2 with ⟨hb, e10⟩ | ⟨nb, e10⟩
      · rw [e10]
        exact br_f gw_n10 ⟨vp, nm_e (nm_r (nI_1 e) (ih (e + 1) g 1 _ (by omega) (by omega) (gw_AS_congr (gw_AS_mark hR2 hA (by omega) (by omega) hc q hb) pc) (gw_tv_t ⟨c, e, by omega, hc, by omega, hb⟩)))⟩
      · rw [e10]
        exact br_t rfl (nm_r (nI_1 e) (ih (e + 1) g z A (by omega) (by omega) (gw_AS_congr (gw_AS_skip hA (by omega) hc (Or.inr nb)) pc) (anyno nb)))
theorem gy_c46_l {post : SY → Prop} {J : Int32 → Int32 → (Nat → Int32) → (Nat → Int32) → (Nat → Int32) → (Nat → Int32) → (Nat → Int32) → (Nat → Int32) → (Nat → Int32) → (Nat → Int32) → (Nat → Int32) → (Nat → Int32) → (Nat → Int32) → (Nat → Int32) → (Nat → Int32) → (Nat → Int32) → (Nat → Int32) → (Nat → Int32) → (Nat → Int32) → (Nat → Int32) → Prop} {R t net : Nat} (hm : m ≤ 32) (hs : s = gw_cnt (gw_sk K) m) (h10 : s ≤ 10) (hS : gw_En (gw_sk K) yS m) (hr : r = gw_cnt (gw_rk K) m) (h6 : r ≤ 6) (hRR : R = 2 ^ r) (ht : t ≤ 1000) (hB : ∀ b, b < 2 ^ s → yF b = nI (gw_tk K X Y Z F m (gw_sa K b))) (hV : ∀ b, b < 2 ^ s → yW b = gw_b (gw_T K X Y Z m net b)) (h : ∀ A z, gw_AS (2 ^ gw_q K m) (gw_stp K X Y Z F m) (gw_sh K X Y Z m net) R t (fun x y => x < R) A → gw_tv (gw_any (2 ^ gw_q K m) (gw_stp K X Y Z F m) (gw_sh K X Y Z m net) R t R 0) z → J z (nI (t + 1)) K X Y Z F H yA yO yS yR yL yN yD yT yM yF yW A) : ∀ d c g z A, c + d = R → d < g → gw_AS (2 ^ gw_q K m) (gw_stp K X Y Z F m) (gw_sh K X Y Z m net) R t (fun x y => x < c) A → gw_tv (gw_any (2 ^ gw_q K m) (gw_stp K X Y Z F m) (gw_sh K X Y Z m net) R t c 0) z → wY_compare_46 post J (nI (gw_msk K m)) (nI t) (nI m) (nI s) (nI r) g z (nI c) K X Y Z F H yA yO yS yR yL yN yD yT yM yF yW A := by
  have hR2 : R ≤ 64 := by rw [hRR]; exact gw_p6 h6
  intro d
  induction d with
  | zero =>
    intro c g z A h1 h2 hA hz
    obtain ⟨g, rfl⟩ := gw_fz h2
    have e : c = R := by omega
    subst e
    rw [wY_compare_46, gw_pow (by omega), ← hRR]
    exact br_t (nI_le (by omega) (by omega)) (nm_r (nI_1 t) (h A z hA hz))
  | succ d ih =>
    intro c g z A h1 h2 hA hz
    obtain ⟨g, rfl⟩ := gw_fz h2
    rw [wY_compare_46, gw_pow (by omega), ← hRR]
    refine br_f (nI_ge (by omega) (by omega)) ⟨c + 1, gy_c60_l hm hs h10 hS hr h6 hRR (by omega) ht hB hV (fun A' z' hA' hz' => ih (c + 1) g z' A' (by omega) (by omega) hA' hz') c 0 (c + 1) z A (by omega) (by omega) (gw_AS_congr hA (fun x y _ _ => ?_)) hz⟩
    constructor
    · intro q; omega
    · rintro (q | q) <;> omega
theorem gy_c37_l {post : SY → Prop} {R net : Nat} (hm : m ≤ 32) (hs : s = gw_cnt (gw_sk K) m) (h10 : s ≤ 10) (hS : gw_En (gw_sk K) yS m) (hr : r = gw_cnt (gw_rk K) m) (h6 : r ≤ 6) (hRR : R = 2 ^ r) (hB : ∀ b, b < 2 ^ s → yF b = nI (gw_tk K X Y Z F m (gw_sa K b))) (hV : ∀ b, b < 2 ^ s → yW b = gw_b (gw_T K X Y Z m net b)) (h : ∀ A, gw_AF (2 ^ gw_q K m) (gw_stp K X Y Z F m) (gw_sh K X Y Z m net) R A → post (nI m, nI s, nI r, K, X, Y, Z, F, H, yA, yO, yS, yR, yL, yN, yD, yT, yM, yF, yW, A)) : ∀ d t g A, t + d = R → d + 1 < g → gw_AS (2 ^ gw_q K m) (gw_stp K X Y Z F m) (gw_sh K X Y Z m net) R t (fun _ _ => False) A → wY_compare_37 post (nI (gw_msk K m)) (nI m) (nI s) (nI r) g 1 (nI t) K X Y Z F H yA yO yS yR yL yN yD yT yM yF yW A := by
  have hR2 : R ≤ 64 := by rw [hRR]; exact gw_p6 h6
  have hstp : ∀ w x, w < 2 ^ gw_q K m → x < R → gw_stp K X Y Z F m w x < R := fun w x _ _ => by rw [hRR, hr]; exact gw_stp_lt K X Y Z F m w x
  have start : ∀ {t : Nat} {A : Nat → Int32}, gw_AS (2 ^ gw_q K m) (gw_stp K X Y Z F m) (gw_sh K X Y Z m net) R t (fun _ _ => False) A → gw_AS (2 ^ gw_q K m) (gw_stp K X Y Z F m) (gw_sh K X Y Z m net) R t (fun x y => x < 0) A := fun hA => gw_AS_congr hA (fun x y _ _ => ⟨fun q => q.elim, fun q => absurd q (Nat.not_lt_zero _)⟩)
  have none : ∀ t, gw_tv (gw_any (2 ^ gw_q K m) (gw_stp K X Y Z F m) (gw_sh K X Y Z m net) R t 0 0) 0 := fun t => gw_tv_f (by
    rintro ⟨x, y, q1, q2, q3, q4⟩
    omega)
  intro d
  induction d with
  | zero =>
    intro t g A h1 h2 hA
    obtain ⟨g, rfl⟩ := gw_fz h2
    obtain ⟨g, rfl⟩ := gw_fz (show 0 < g by omega)
    rw [wY_compare_37]
    refine br_f gw_n10 ⟨R + 1, gy_c46_l hm hs h10 hS hr h6 hRR (by omega) hB hV (fun A' z hA' hz => ?_) R 0 (R + 1) 0 A (by omega) (by omega) (start hA) (none t)⟩
    rcases hz with ⟨⟨x, y, q1, q2, _, q4⟩, e⟩ | ⟨hn, e⟩
    · have := gw_B_lt hstp q2 (by omega) q4
      omega
    · rw [e, wY_compare_37]
      exact br_t rfl (h A' (gw_AF_stop hstp hA' (fun c d _ hc => hc) (fun c d h3 h4 hb => hn ⟨c, d, h3, h4, Or.inl h4, hb⟩)))
  | succ d ih =>
    intro t g A h1 h2 hA
    obtain ⟨g, rfl⟩ := gw_fz h2
    obtain ⟨g, rfl⟩ := gw_fz (show 0 < g by omega)
    rw [wY_compare_37]
    refine br_f gw_n10 ⟨R + 1, gy_c46_l hm hs h10 hS hr h6 hRR (by omega) hB hV (fun A' z hA' hz => ?_) R 0 (R + 1) 0 A (by omega) (by omega) (start hA) (none t)⟩
    rcases hz with ⟨_, e⟩ | ⟨hn, e⟩
    · rw [e]
      exact ih (t + 1) (g + 1) A' (by omega) (by omega) (gw_AS_next hA' (fun c d _ hc => hc))
    · rw [e, wY_compare_37]
      exact br_t rfl (h A' (gw_AF_stop hstp hA' (fun c d _ hc => hc) (fun c d h3 h4 hb => hn ⟨c, d, h3, h4, Or.inl h4, hb⟩)))
theorem gy_c7_l {post : SY → Prop} {R net : Nat} (hm : m ≤ 32) (hs : s = gw_cnt (gw_sk K) m) (h10 : s ≤ 10) (hS : gw_En (gw_sk K) yS m) (hr : r = gw_cnt (gw_rk K) m) (h6 : r ≤ 6) (hRR : R = 2 ^ r) (hB : ∀ b, b < 2 ^ s → yF b = nI (gw_tk K X Y Z F m (gw_sa K b))) (hV : ∀ b, b < 2 ^ s → yW b = gw_b (gw_T K X Y Z m net b)) (h : ∀ A, gw_AF (2 ^ gw_q K m) (gw_stp K X Y Z F m) (gw_sh K X Y Z m net) R A → post (nI m, nI s, nI r, K, X, Y, Z, F, H, yA, yO, yS, yR, yL, yN, yD, yT, yM, yF, yW, A)) : ∀ d x g A, x + d = 4096 → d < g → (∀ y, y < x → A y = -1) → wY_compare_7 post (nI m) (nI s) (nI r) g (nI x) K X Y Z F H yA yO yS yR yL yN yD yT yM yF yW A := by
  have hR2 : R ≤ 64 := by rw [hRR]; exact gw_p6 h6
  intro d
  induction d with
  | zero =>
    intro x g A h1 h2 hA
    obtain ⟨g, rfl⟩ := gw_fz h2
    rw [wY_compare_7]
    exact br_t (nI_le (a := 4096) (by omega) (by omega)) (gy_inp hm hs h10 hS ⟨R + 2, gy_c37_l hm hs h10 hS hr h6 hRR hB hV h R 0 (R + 2) A (by omega) (by omega) (gw_AS_0 (fun c d hd hc => hA _ (by omega)))⟩)
  | succ d ih =>
    intro x g A h1 h2 hA
    obtain ⟨g, rfl⟩ := gw_fz h2
    have cx : (nI x).toNatClampNeg = x := nI_clamp (by omega)
    rw [wY_compare_7]
    refine br_f (nI_ge (b := 4096) (by omega) (by decide)) ⟨vp_in_nI (by omega) (by omega), nm_r (e' := upd A x (-1)) (by rw [cx]) (nm_r (nI_1 x) (ih (x + 1) g _ (by omega) (by omega) (fun y hy => ?_)))⟩
    by_cases e : y = x
    · subst e; exact pk_us
    · rw [pk_un e]; exact hA y (by omega)
theorem gy_compare {post : SY → Prop} {net : Nat} (hm : m ≤ 32) (hW : gw_W K X Y Z F m) (hn : net < m) (hs : s = gw_cnt (gw_sk K) m) (h10 : s ≤ 10) (hS : gw_En (gw_sk K) yS m) (hr : r = gw_cnt (gw_rk K) m) (h6 : r ≤ 6) (hR : gw_En (gw_rk K) yR m) (h : ∀ A B C P, gw_AF (2 ^ gw_q K m) (gw_stp K X Y Z F m) (gw_sh K X Y Z m net) (2 ^ r) P → post (nI m, nI s, nI r, K, X, Y, Z, F, H, A, yO, yS, yR, yL, yN, yD, yT, yM, B, C, P)) : wpY_compare post (nI m, nI s, nI r, K, X, Y, Z, F, H, yA, yO, yS, yR, yL, yN, yD, yT, yM, yF, yW, yP) (nI net) := by
  unfold wpY_compare
  dsimp only
  refine gy_spread (V := gw_T K X Y Z m net) hm hW hs h10 hS hr h6 hR (Or.inr ⟨net, hn, rfl, fun _ => rfl⟩) (fun A B C hB hC => ⟨4097, ?_⟩)
  exact gy_c7_l hm hs h10 hS hr h6 rfl hB hC (fun P hP => h A B C P hP) 4096 0 4097 yP (by omega) (by omega) (fun y hy => absurd hy (Nat.not_lt_zero _))
end
