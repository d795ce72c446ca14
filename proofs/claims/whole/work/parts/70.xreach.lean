/-! cells; which configurations come, in the component -/
theorem gw_nor (a b : Nat) : nI a ||| nI b = nI (a ||| b) := by
  apply b_ext
  intro i hi
  rw [b_or, gw_nIb a hi, gw_nIb b hi, gw_nIb _ hi, Nat.testBit_or]
theorem gw_cell_lt {c w r q : Nat} (hc : c < 2 ^ r) (hw : w < 2 ^ q) : c * 2 ^ q + w < 2 ^ (r + q) := by
  have h1 : (c + 1) * 2 ^ q ≤ 2 ^ r * 2 ^ q := Nat.mul_le_mul_right _ hc
  rw [Nat.pow_add]
  rw [Nat.add_mul, Nat.one_mul] at h1
  omega
theorem gw_cell {c w q : Nat} (hq : q < 32) (hw : w < 2 ^ q) (h : c * 2 ^ q < 2 ^ 32) : (nI c <<< (nI q &&& 31)) ||| nI w = nI (c * 2 ^ q + w) := by
  rw [pk_shlN (nI q &&& 31) q (s_l q hq) h, gw_nor, Nat.mul_comm c, Nat.two_pow_add_eq_or_of_lt hw]
theorem gw_cdiv {c w Q : Nat} (hw : w < Q) : (c * Q + w) / Q = c ∧ (c * Q + w) % Q = w := by
  have h0 : 0 < Q := by omega
  constructor
  · rw [Nat.add_comm, Nat.add_mul_div_right _ _ h0, Nat.div_eq_of_lt hw, Nat.zero_add]
  · rw [Nat.add_comm, Nat.add_mul_mod_self_right, Nat.mod_eq_of_lt hw]
def gw_E (K X Y Z F : Nat → Int32) (m Q c d : Nat) : Prop := ∃ w, w < Q ∧ gw_stp K X Y Z F m w c = d
/-- how many inputs -/
def gw_q (K : Nat → Int32) (m : Nat) : Nat := gw_cnt (gw_ik K) m
theorem gw_srq {K : Nat → Int32} {m s r : Nat} (hs : s = gw_cnt (gw_sk K) m) (hr : r = gw_cnt (gw_rk K) m) : s = r + gw_q K m := by
  rw [hs, hr]; exact gw_cnt_sri K m
theorem gw_E_lt {K X Y Z F : Nat → Int32} {m Q c d : Nat} (h : gw_E K X Y Z F m Q c d) : d < 2 ^ gw_cnt (gw_rk K) m := by
  obtain ⟨w, _, rfl⟩ := h
  exact gw_stp_lt K X Y Z F m w c
section
variable {m s r : Nat} {tl pe : Int32} {K X Y Z F H xO xN xC xS xL xE xG xW xM xP : Nat → Int32}
theorem gx_inp (hs : s = gw_cnt (gw_sk K) m) (hr : r = gw_cnt (gw_rk K) m) : nI s - nI r = nI (gw_q K m) := by
  have e := gw_srq hs hr
  rw [pk_sub (by omega), show s - r = gw_q K m by omega]
theorem gw_cell10 {c w : Nat} (hs : s = gw_cnt (gw_sk K) m) (hr : r = gw_cnt (gw_rk K) m) (h10 : s ≤ 10) (hc : c < 2 ^ r) (hw : w < 2 ^ gw_q K m) : (nI c <<< (nI (gw_q K m) &&& 31)) ||| nI w = nI (c * 2 ^ gw_q K m + w) ∧ c * 2 ^ gw_q K m + w < 2 ^ s ∧ c * 2 ^ gw_q K m + w < 1024 := by
  have e := gw_srq hs hr
  have h1 := gw_cell_lt hc hw
  rw [← e] at h1
  have h2 := gw_p10 h10
  exact ⟨gw_cell (by omega) hw (by omega), h1, by omega⟩
theorem gx_cell {post : Int32 → Prop} {a : Nat} (hm : m ≤ 32) (hs : s = gw_cnt (gw_sk K) m) (hr : r = gw_cnt (gw_rk K) m) (h10 : s ≤ 10) (h : post (nI (gw_co K m a * 2 ^ gw_q K m + gw_of K m a))) : wpX_cellOf post (nI m, nI s, nI r, tl, pe, K, X, Y, Z, F, H, xO, xN, xC, xS, xL, xE, xG, xW, xM, xP) (nI a) := by
  unfold wpX_cellOf
  dsimp only
  refine nm_r (gx_inp hs hr) (gx_conf hm (gx_offs hm ?_))
  rw [(gw_cell10 hs hr h10 (by rw [hr]; exact gw_co_lt K m a) (gw_of_lt K m a)).1]
  exact h
theorem gw_fill {A : Nat → Int32} {f : Nat → Nat → Int32} (h : ∀ a, a < 2 ^ gw_cnt (gw_sk K) m → A (gw_co K m a * 2 ^ gw_q K m + gw_of K m a) = f (gw_of K m a) (gw_co K m a)) {c w : Nat} (hc : c < 2 ^ gw_cnt (gw_rk K) m) (hw : w < 2 ^ gw_q K m) : A (c * 2 ^ gw_q K m + w) = f w c := by
  have g := h (gw_jn K m w c) (gw_jn_lt K m w c)
  rw [gw_co_j hc, gw_of_j hw] at g
  exact g
theorem gw_fill_s {A : Nat → Int32} {f : Nat → Nat → Int32} {a : Nat} (h : ∀ b, b < a → A (gw_co K m b * 2 ^ gw_q K m + gw_of K m b) = f (gw_of K m b) (gw_co K m b)) : ∀ b, b < a + 1 → upd A (gw_co K m a * 2 ^ gw_q K m + gw_of K m a) (f (gw_of K m a) (gw_co K m a)) (gw_co K m b * 2 ^ gw_q K m + gw_of K m b) = f (gw_of K m b) (gw_co K m b) := by
  intro b hb
  by_cases e : gw_co K m b * 2 ^ gw_q K m + gw_of K m b = gw_co K m a * 2 ^ gw_q K m + gw_of K m a
  · have h1 := gw_cdiv (c := gw_co K m b) (gw_of_lt K m b)
    have h2 := gw_cdiv (c := gw_co K m a) (gw_of_lt K m a)
    unfold gw_q at e
    rw [e] at h1
    have e1 : gw_co K m b = gw_co K m a := h1.1.symm.trans h2.1
    have e2 : gw_of K m b = gw_of K m a := h1.2.symm.trans h2.2
    rw [e1, e2, pk_us]
  · rw [pk_un e]
    refine h b ?_
    apply Nat.lt_of_le_of_ne (by omega)
    intro e2
    rw [e2] at e
    exact e rfl
theorem gx_goes_l {post : SX → Prop} {N : Nat} (hm : m ≤ 32) (hW : gw_W K X Y Z F m) (hs : s = gw_cnt (gw_sk K) m) (hr : r = gw_cnt (gw_rk K) m) (h10 : s ≤ 10) (hN : N = 2 ^ s) (h : ∀ G, (∀ c w, c < 2 ^ r → w < 2 ^ gw_q K m → G (c * 2 ^ gw_q K m + w) = nI (gw_stp K X Y Z F m w c)) → post (nI m, nI s, nI r, tl, pe, K, X, Y, Z, F, H, xO, xN, xC, xS, xL, xE, G, xW, xM, xP)) : ∀ d a g G, a + d = N → d < g → (∀ b, b < a → G (gw_co K m b * 2 ^ gw_q K m + gw_of K m b) = nI (gw_stp K X Y Z F m (gw_of K m b) (gw_co K m b))) → wX_fillGoes_9 post (nI N) (nI m) (nI s) (nI r) tl pe g (nI a) K X Y Z F H xO xN xC xS xL xE G xW xM xP := by
  have hN2 : N ≤ 1024 := by rw [hN]; exact gw_p10 h10
  intro d
  induction d with
  | zero =>
    intro a g G h1 h2 hG
    obtain ⟨g, rfl⟩ := gw_fz h2
    rw [wX_fillGoes_9]
    refine br_t (nI_le (by omega) (by omega)) (h G (fun c w hc hw => ?_))
    rw [hr] at hc
    exact gw_fill (f := fun w c => nI (gw_stp K X Y Z F m w c)) (fun b hb => hG b (by rw [← hs, ← hN] at hb; omega)) hc hw
  | succ d ih =>
    intro a g G h1 h2 hG
    obtain ⟨g, rfl⟩ := gw_fz h2
    have hc := (gw_cell10 hs hr h10 (c := gw_co K m a) (w := gw_of K m a) (by rw [hr]; exact gw_co_lt K m a) (gw_of_lt K m a)).2.2
    have cc : (nI (gw_co K m a * 2 ^ gw_q K m + gw_of K m a)).toNatClampNeg = gw_co K m a * 2 ^ gw_q K m + gw_of K m a := nI_clamp (by omega)
    rw [wX_fillGoes_9]
    refine br_f (nI_ge (by omega) (by omega)) (gx_cell hm hs hr h10 (gx_aft hm hW (gx_conf hm ⟨vp_in_nI hc (by omega), ?_⟩)))
    rw [cc, gw_co_j (gw_stp_lt K X Y Z F m _ _)]
    exact nm_e (nm_r (nI_1 a) (ih (a + 1) g _ (by omega) (by omega) (gw_fill_s (f := fun w c => nI (gw_stp K X Y Z F m w c)) hG)))
theorem gx_goes {post : SX → Prop} (hm : m ≤ 32) (hW : gw_W K X Y Z F m) (hs : s = gw_cnt (gw_sk K) m) (hr : r = gw_cnt (gw_rk K) m) (h10 : s ≤ 10) (h : ∀ G, (∀ c w, c < 2 ^ r → w < 2 ^ gw_q K m → G (c * 2 ^ gw_q K m + w) = nI (gw_stp K X Y Z F m w c)) → post (nI m, nI s, nI r, tl, pe, K, X, Y, Z, F, H, xO, xN, xC, xS, xL, xE, G, xW, xM, xP)) : wpX_fillGoes post (nI m, nI s, nI r, tl, pe, K, X, Y, Z, F, H, xO, xN, xC, xS, xL, xE, xG, xW, xM, xP) := by
  unfold wpX_fillGoes
  dsimp only
  exact nm_r (gw_pow (by omega)) ⟨2 ^ s + 1, gx_goes_l hm hW hs hr h10 rfl h (2 ^ s) 0 (2 ^ s + 1) xG (by omega) (by omega) (fun b hb => absurd hb (Nat.not_lt_zero _))⟩
theorem gx_shows_l {post : SX → Prop} {N net : Nat} (hm : m ≤ 32) (hW : gw_W K X Y Z F m) (hn : net < m) (hs : s = gw_cnt (gw_sk K) m) (hr : r = gw_cnt (gw_rk K) m) (h10 : s ≤ 10) (hN : N = 2 ^ s) (h : ∀ G, (∀ c w, c < 2 ^ r → w < 2 ^ gw_q K m → G (c * 2 ^ gw_q K m + w) = gw_b (gw_sh K X Y Z m net w c)) → post (nI m, nI s, nI r, tl, pe, K, X, Y, Z, F, H, xO, xN, xC, xS, xL, xE, xG, G, xM, xP)) : ∀ d a g G, a + d = N → d < g → (∀ b, b < a → G (gw_co K m b * 2 ^ gw_q K m + gw_of K m b) = gw_b (gw_sh K X Y Z m net (gw_of K m b) (gw_co K m b))) → wX_fillShows_9 post (nI net) (nI N) (nI m) (nI s) (nI r) tl pe g (nI a) K X Y Z F H xO xN xC xS xL xE xG G xM xP := by
  have hN2 : N ≤ 1024 := by rw [hN]; exact gw_p10 h10
  intro d
  induction d with
  | zero =>
    intro a g G h1 h2 hG
    obtain ⟨g, rfl⟩ := gw_fz h2
    rw [wX_fillShows_9]
    refine br_t (nI_le (by omega) (by omega)) (h G (fun c w hc hw => ?_))
    rw [hr] at hc
    exact gw_fill (f := fun w c => gw_b (gw_sh K X Y Z m net w c)) (fun b hb => hG b (by rw [← hs, ← hN] at hb; omega)) hc hw
  | succ d ih =>
    intro a g G h1 h2 hG
    obtain ⟨g, rfl⟩ := gw_fz h2
    have hc := (gw_cell10 hs hr h10 (c := gw_co K m a) (w := gw_of K m a) (by rw [hr]; exact gw_co_lt K m a) (gw_of_lt K m a)).2.2
    have cc : (nI (gw_co K m a * 2 ^ gw_q K m + gw_of K m a)).toNatClampNeg = gw_co K m a * 2 ^ gw_q K m + gw_of K m a := nI_clamp (by omega)
    rw [wX_fillShows_9]
    refine br_f (nI_ge (by omega) (by omega)) (gx_cell hm hs hr h10 (gx_v hm hW (fun v hv => gx_bit (by omega) ⟨vp_in_nI hc (by omega), ?_⟩)))
    rw [cc, hv net (by omega), ← gw_sh_a]
    exact nm_e (nm_r (nI_1 a) (ih (a + 1) g _ (by omega) (by omega) (gw_fill_s (f := fun w c => gw_b (gw_sh K X Y Z m net w c)) hG)))
theorem gx_shows {post : SX → Prop} {net : Nat} (hm : m ≤ 32) (hW : gw_W K X Y Z F m) (hn : net < m) (hs : s = gw_cnt (gw_sk K) m) (hr : r = gw_cnt (gw_rk K) m) (h10 : s ≤ 10) (h : ∀ G, (∀ c w, c < 2 ^ r → w < 2 ^ gw_q K m → G (c * 2 ^ gw_q K m + w) = gw_b (gw_sh K X Y Z m net w c)) → post (nI m, nI s, nI r, tl, pe, K, X, Y, Z, F, H, xO, xN, xC, xS, xL, xE, xG, G, xM, xP)) : wpX_fillShows post (nI m, nI s, nI r, tl, pe, K, X, Y, Z, F, H, xO, xN, xC, xS, xL, xE, xG, xW, xM, xP) (nI net) := by
  unfold wpX_fillShows
  dsimp only
  exact nm_r (gw_pow (by omega)) ⟨2 ^ s + 1, gx_shows_l hm hW hn hs hr h10 rfl h (2 ^ s) 0 (2 ^ s + 1) xW (by omega) (by omega) (fun b hb => absurd hb (Nat.not_lt_zero _))⟩
theorem gx_mark_l {post : SX → Prop} {Q R c t : Nat} {E P : Nat → Nat → Prop} (hs : s = gw_cnt (gw_sk K) m) (hr : r = gw_cnt (gw_rk K) m) (h10 : s ≤ 10) (h6 : r ≤ 6) (hQ : Q = 2 ^ gw_q K m) (hRR : R = 2 ^ r) (hc : c < R) (ht : t < R) (hG : ∀ c w, c < 2 ^ r → w < 2 ^ gw_q K m → xG (c * 2 ^ gw_q K m + w) = nI (gw_stp K X Y Z F m w c)) (h : ∀ M, gw_RS E R t (fun x y => P x y ∨ (x = c ∧ ∃ w, w < Q ∧ gw_stp K X Y Z F m w c = y)) M → post (nI m, nI s, nI r, tl, pe, K, X, Y, Z, F, H, xO, xN, xC, xS, xL, xE, xG, xW, M, xP)) : ∀ d w g M, w + d = Q → d < g → M c = nI t → gw_RS E R t (fun x y => P x y ∨ (x = c ∧ ∃ w', w' < w ∧ gw_stp K X Y Z F m w' c = y)) M → wX_markComing_18 post (nI c) (nI (t + 1)) (nI (gw_q K m)) (nI Q) (nI m) (nI s) (nI r) tl pe g (nI w) K X Y Z F H xO xN xC xS xL xE xG xW M xP := by
  have e := gw_srq hs hr
  have hQ2 : Q ≤ 1024 := by rw [hQ]; exact gw_p10 (by omega)
  have hR2 : R ≤ 64 := by rw [hRR]; exact gw_p6 h6
  intro d
  induction d with
  | zero =>
    intro w g M h1 h2 hMc hM
    obtain ⟨g, rfl⟩ := gw_fz h2
    have e : w = Q := by omega
    subst e
    rw [wX_markComing_18]
    exact br_t (nI_le (by omega) (by omega)) (h M hM)
  | succ d ih =>
    intro w g M h1 h2 hMc hM
    obtain ⟨g, rfl⟩ := gw_fz h2
    obtain ⟨e1, e2, e3⟩ := gw_cell10 (K := K) (m := m) hs hr h10 (c := c) (w := w) (by omega) (by omega)
    have cc : (nI (c * 2 ^ gw_q K m + w)).toNatClampNeg = c * 2 ^ gw_q K m + w := nI_clamp (by omega)
    have hd : gw_stp K X Y Z F m w c < R := by rw [hRR, hr]; exact gw_stp_lt K X Y Z F m w c
    have cd : (nI (gw_stp K X Y Z F m w c)).toNatClampNeg = gw_stp K X Y Z F m w c := nI_clamp (by omega)
    have hcg : ∀ x y, (P x y ∨ (x = c ∧ ∃ w', w' < w ∧ gw_stp K X Y Z F m w' c = y)) ∨ (x = c ∧ y = gw_stp K X Y Z F m w c) ↔ P x y ∨ (x = c ∧ ∃ w', w' < w + 1 ∧ gw_stp K X Y Z F m w' c = y) := by
      intro x y
      constructor
      · rintro ((p | ⟨p, w', h3, h4⟩) | ⟨p, q⟩)
        · exact Or.inl p
        · exact Or.inr ⟨p, w', by omega, h4⟩
        · exact Or.inr ⟨p, w, by omega, q.symm⟩
      · rintro (p | ⟨p, w', h3, h4⟩)
        · exact Or.inl (Or.inl p)
        · rcases Nat.lt_or_ge w' w with q | q
          · exact Or.inl (Or.inr ⟨p, w', q, h4⟩)
          · rw [show w' = w by omega] at h4
            exact Or.inr ⟨p, h4.symm⟩
    rw [wX_markComing_18]
    refine br_f (nI_ge (by omega) (by omega)) ?_
    rw [e1, cc, hG c w (by omega) (by omega)]
    refine ⟨vp_in_nI (by omega) (by omega), nm_e ⟨vp_in_nI (by omega) (by omega), ?_⟩⟩
    rw [cd]
    refine br_c (fun q => ⟨vp_in_nI (by omega) (by omega), nm_e (nm_r (nI_1 w) (ih (w + 1) g _ (by omega) (by omega) ?_ ?_))⟩) (fun q => nm_r (nI_1 w) (ih (w + 1) g M (by omega) (by omega) hMc ?_))
    · rw [pk_un (fun e4 => ?_)]
      · exact hMc
      · rw [← e4, hMc] at q
        exact gw_m1 (by omega) q
    · exact gw_RS_congr (gw_RS_mark hM (by omega) hc hd hMc q) (fun x y p => (hcg x y).mp p) (fun x y _ _ p => (hcg x y).mpr p)
    · exact gw_RS_congr (gw_RS_have (c := c) hM q) (fun x y p => (hcg x y).mp p) (fun x y _ _ p => (hcg x y).mpr p)
theorem gx_come43_l {post : SX → Prop} {J : Int32 → Int32 → Int32 → Int32 → Int32 → Int32 → (Nat → Int32) → (Nat → Int32) → (Nat → Int32) → (Nat → Int32) → (Nat → Int32) → (Nat → Int32) → (Nat → Int32) → (Nat → Int32) → (Nat → Int32) → (Nat → Int32) → (Nat → Int32) → (Nat → Int32) → (Nat → Int32) → (Nat → Int32) → (Nat → Int32) → (Nat → Int32) → Prop} {Q R t : Nat} (hs : s = gw_cnt (gw_sk K) m) (hr : r = gw_cnt (gw_rk K) m) (h10 : s ≤ 10) (h6 : r ≤ 6) (hQ : Q = 2 ^ gw_q K m) (hRR : R = 2 ^ r) (ht : t < R) (hG : ∀ c w, c < 2 ^ r → w < 2 ^ gw_q K m → xG (c * 2 ^ gw_q K m + w) = nI (gw_stp K X Y Z F m w c)) (h : ∀ M, gw_RS (gw_E K X Y Z F m Q) R (t + 1) (fun _ _ => False) M → J (nI (t + 1)) (nI m) (nI s) (nI r) tl pe K X Y Z F H xO xN xC xS xL xE xG xW M xP) : ∀ d c g M, c + d = R → d < g → gw_RS (gw_E K X Y Z F m Q) R t (fun x y => x < c ∧ gw_E K X Y Z F m Q x y) M → wX_findComing_43 post J (nI R) (nI t) g (nI c) (nI m) (nI s) (nI r) tl pe K X Y Z F H xO xN xC xS xL xE xG xW M xP := by
  have e := gw_srq hs hr
  have hR2 : R ≤ 64 := by rw [hRR]; exact gw_p6 h6
  have hR0 : 0 < R := by omega
  intro d
  induction d with
  | zero =>
    intro c g M h1 h2 hM
    obtain ⟨g, rfl⟩ := gw_fz h2
    rw [wX_findComing_43]
    refine br_t (nI_le (by omega) (by omega)) (nm_r (nI_1 t) (h M (gw_RS_next (gw_RS_congr hM (fun x y p => p.2) (fun x y hy hd p => ⟨?_, p⟩)))))
    have := gw_R_in (N := R) hR0 (fun c d hh => by rw [hRR, hr]; exact gw_E_lt hh) t x hd.1
    omega
  | succ d ih =>
    intro c g M h1 h2 hM
    obtain ⟨g, rfl⟩ := gw_fz h2
    have cc : (nI c).toNatClampNeg = c := nI_clamp (by omega)
    rw [wX_findComing_43]
    refine br_f (nI_ge (by omega) (by omega)) ⟨vp_in_nI (by omega) (by omega), ?_⟩
    rw [cc]
    refine br_c (fun q => ?_) (fun q => nm_r (nI_1 c) (ih (c + 1) g M (by omega) (by omega) ?_))
    · rw [nI_1 t]
      unfold wpX_markComing
      dsimp only
      refine nm_r (gx_inp hs hr) (nm_r (e' := nI Q) (by rw [gw_pow (by omega), hQ]) ⟨Q + 1, ?_⟩)
      refine gx_mark_l (E := gw_E K X Y Z F m Q) (P := fun x y => x < c ∧ gw_E K X Y Z F m Q x y) hs hr h10 h6 hQ hRR (by omega) ht hG (fun M' hM' => ?_) Q 0 (Q + 1) M (by omega) (by omega) q (gw_RS_congr hM (fun x y p => Or.inl p) (fun x y _ _ p => ?_))
      · refine nm_r (nI_1 c) (ih (c + 1) g M' (by omega) (by omega) (gw_RS_congr hM' (fun x y p => ?_) (fun x y _ _ p => ?_)))
        · rcases p with p | ⟨p, w, h3, h4⟩
          · exact ⟨by omega, p.2⟩
          · exact ⟨by omega, by rw [p]; exact ⟨w, h3, h4⟩⟩
        · rcases Nat.lt_or_ge x c with l | l
          · exact Or.inl ⟨l, p.2⟩
          · have ex : x = c := by omega
            subst ex
            obtain ⟨w, h3, h4⟩ := p.2
            exact Or.inr ⟨rfl, w, h3, h4⟩
      · rcases p with p | ⟨_, w, h3, _⟩
        · exact p
        · exact absurd h3 (Nat.not_lt_zero _)
    · refine gw_RS_more hM (fun x y p => ⟨by omega, p.2⟩) (fun x y hy p hd => ?_)
      rcases Nat.lt_or_ge x c with l | l
      · exact Or.inl ⟨l, p.2⟩
      · have ex : x = c := by omega
        subst ex
        exact absurd ((hM x (by omega)).1 t (Nat.le_refl _) hd) q
theorem gx_come36_l {post : SX → Prop} {Q R : Nat} (hs : s = gw_cnt (gw_sk K) m) (hr : r = gw_cnt (gw_rk K) m) (h10 : s ≤ 10) (h6 : r ≤ 6) (hQ : Q = 2 ^ gw_q K m) (hRR : R = 2 ^ r) (hG : ∀ c w, c < 2 ^ r → w < 2 ^ gw_q K m → xG (c * 2 ^ gw_q K m + w) = nI (gw_stp K X Y Z F m w c)) (h : ∀ M, gw_Fin (gw_E K X Y Z F m Q) R M → post (nI m, nI s, nI r, tl, pe, K, X, Y, Z, F, H, xO, xN, xC, xS, xL, xE, xG, xW, M, xP)) : ∀ d t g M, t + d = R → d < g → gw_RS (gw_E K X Y Z F m Q) R t (fun _ _ => False) M → wX_findComing_36 post (nI R) g (nI t) (nI m) (nI s) (nI r) tl pe K X Y Z F H xO xN xC xS xL xE xG xW M xP := by
  have hR2 : R ≤ 64 := by rw [hRR]; exact gw_p6 h6
  have hR0 : 0 < R := by rw [hRR]; exact Nat.two_pow_pos r
  intro d
  induction d with
  | zero =>
    intro t g M h1 h2 hM
    obtain ⟨g, rfl⟩ := gw_fz h2
    rw [wX_findComing_36]
    exact br_t (nI_le (by omega) (by omega)) (h M (gw_Fin_N hR0 (fun c d hh => by rw [hRR, hr]; exact gw_E_lt hh) (by omega) hM))
  | succ d ih =>
    intro t g M h1 h2 hM
    obtain ⟨g, rfl⟩ := gw_fz h2
    rw [wX_findComing_36]
    refine br_f (nI_ge (by omega) (by omega)) ⟨R + 1, gx_come43_l hs hr h10 h6 hQ hRR (by omega) hG (fun M' hM' => ih (t + 1) g M' (by omega) (by omega) hM') R 0 (R + 1) M (by omega) (by omega) (gw_RS_congr hM (fun _ _ p => p.elim) (fun x y _ _ p => absurd p.1 (Nat.not_lt_zero _)))⟩
theorem gx_come9_l {post : SX → Prop} {Q R : Nat} (hs : s = gw_cnt (gw_sk K) m) (hr : r = gw_cnt (gw_rk K) m) (h10 : s ≤ 10) (h6 : r ≤ 6) (hQ : Q = 2 ^ gw_q K m) (hRR : R = 2 ^ r) (hG : ∀ c w, c < 2 ^ r → w < 2 ^ gw_q K m → xG (c * 2 ^ gw_q K m + w) = nI (gw_stp K X Y Z F m w c)) (h : ∀ M, gw_Fin (gw_E K X Y Z F m Q) R M → post (nI m, nI s, nI r, tl, pe, K, X, Y, Z, F, H, xO, xN, xC, xS, xL, xE, xG, xW, M, xP)) : ∀ d c g M, c + d = R → d < g → (∀ x, x < c → M x = -1) → wX_findComing_9 post (nI R) (nI m) (nI s) (nI r) tl pe g (nI c) K X Y Z F H xO xN xC xS xL xE xG xW M xP := by
  have hR2 : R ≤ 64 := by rw [hRR]; exact gw_p6 h6
  intro d
  induction d with
  | zero =>
    intro c g M h1 h2 hM
    obtain ⟨g, rfl⟩ := gw_fz h2
    rw [wX_findComing_9]
    refine br_t (nI_le (by omega) (by omega)) (nm_e ⟨R + 1, gx_come36_l hs hr h10 h6 hQ hRR hG h R 0 (R + 1) _ (by omega) (by omega) (gw_RS_0 pk_us (fun x hx h0 => ?_))⟩)
    rw [pk_un h0]
    exact hM x (by omega)
  | succ d ih =>
    intro c g M h1 h2 hM
    obtain ⟨g, rfl⟩ := gw_fz h2
    have cc : (nI c).toNatClampNeg = c := nI_clamp (by omega)
    rw [wX_findComing_9]
    refine br_f (nI_ge (by omega) (by omega)) ⟨vp_in_nI (by omega) (by omega), nm_r (e' := upd M c (-1)) (by rw [cc]) (nm_r (nI_1 c) (ih (c + 1) g _ (by omega) (by omega) (fun x hx => ?_)))⟩
    by_cases e : x = c
    · subst e; exact pk_us
    · rw [pk_un e]; exact hM x (by omega)
theorem gx_come {post : SX → Prop} (hs : s = gw_cnt (gw_sk K) m) (hr : r = gw_cnt (gw_rk K) m) (h10 : s ≤ 10) (h6 : r ≤ 6) (hG : ∀ c w, c < 2 ^ r → w < 2 ^ gw_q K m → xG (c * 2 ^ gw_q K m + w) = nI (gw_stp K X Y Z F m w c)) (h : ∀ M, gw_Fin (gw_E K X Y Z F m (2 ^ gw_q K m)) (2 ^ r) M → post (nI m, nI s, nI r, tl, pe, K, X, Y, Z, F, H, xO, xN, xC, xS, xL, xE, xG, xW, M, xP)) : wpX_findComing post (nI m, nI s, nI r, tl, pe, K, X, Y, Z, F, H, xO, xN, xC, xS, xL, xE, xG, xW, xM, xP) := by
  unfold wpX_findComing
  dsimp only
  exact nm_r (gw_pow (by omega)) ⟨2 ^ r + 1, gx_come9_l hs hr h10 h6 rfl rfl hG h (2 ^ r) 0 (2 ^ r + 1) xM (by omega) (by omega) (fun x hx => absurd hx (Nat.not_lt_zero _))⟩
end
