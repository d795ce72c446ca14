/-! the component's private methods: nets, values, assignments -/
theorem gw_n10 : ¬ (1 : Int32) = 0 := by decide
theorem gw_sub1 (b : Bool) : 1 - gw_b b = gw_b (!b) := by cases b <;> decide
theorem gw_andb (a b : Bool) : gw_b a &&& gw_b b = gw_b (a && b) := by cases a <;> cases b <;> decide
theorem gw_orbb (a b : Bool) : gw_b a ||| gw_b b = gw_b (a || b) := by cases a <;> cases b <;> decide
theorem gw_xorb (a b : Bool) : gw_b a ^^^ gw_b b = gw_b (a ^^ b) := by cases a <;> cases b <;> decide
section
variable {m s r : Nat} {tl pe : Int32} {K X Y Z F H xO xN xC xS xL xE xG xW xM xP : Nat → Int32}
theorem gx_sk {post : Int32 → Prop} {k : Int32} (h1 : (k = 0 ∨ k = 1) → post 1) (h0 : ¬ (k = 0 ∨ k = 1) → post 0) : wpX_isSourceKind post k :=
  br_c (fun e => h1 (Or.inl e)) (fun e => br_c (fun e1 => h1 (Or.inr e1)) (fun e1 => h0 (fun g => g.elim e e1)))
theorem gx_net {post : Int32 → Prop} {n : Nat} (hm : m ≤ 32) (hn : n < m) (h : post 1) : wpX_isNet post (nI m, nI s, nI r, tl, pe, K, X, Y, Z, F, H, xO, xN, xC, xS, xL, xE, xG, xW, xM, xP) (nI n) :=
  br_f (nI_pos (by omega)) (br_f (nI_ge hn (by omega)) h)
theorem gx_nonet {post : Int32 → Prop} {x : Int32} (hx : ¬ (0 ≤ x ∧ x < nI m)) (h : post 0) : wpX_isNet post (nI m, nI s, nI r, tl, pe, K, X, Y, Z, F, H, xO, xN, xC, xS, xL, xE, xG, xW, xM, xP) x := by
  by_cases c : x < 0
  · exact br_t c h
  · exact br_f c (br_t (Int32.not_lt.mp (fun g => hx ⟨Int32.not_lt.mp c, g⟩)) h)
theorem gx_src {post : Int32 → Prop} {x : Int32} (hm : m ≤ 32) (h1 : ∀ n, n < m → x = nI n → gw_sk K n = true → post 1) (h0 : (∀ n, n < m → x = nI n → gw_sk K n = false) → post 0) : wpX_isSource post (nI m, nI s, nI r, tl, pe, K, X, Y, Z, F, H, xO, xN, xC, xS, xL, xE, xG, xW, xM, xP) x := by
  unfold wpX_isSource
  dsimp only
  rcases gw_net (x := x) (m := m) (by omega) with ⟨n, hn, rfl⟩ | hx
  · have cn : (nI n).toNatClampNeg = n := nI_clamp (by omega)
    refine gx_net hm hn (br_f gw_n10 ⟨vp_in_nI (by omega) (by omega), gx_sk (fun hk => br_f gw_n10 ?_) (fun hk => br_t rfl ?_)⟩)
    · rw [cn] at hk
      exact h1 n hn rfl (gw_sk_t.mpr hk)
    · rw [cn] at hk
      refine h0 (fun j hj e => ?_)
      rw [nI_eq (by omega) (by omega)] at e
      subst e
      exact gw_sk_f.mpr hk
  · refine gx_nonet hx (br_t rfl (h0 (fun n hn e => absurd ?_ hx)))
    exact (gw_bl_iff (by omega)).mp ⟨n, hn, e⟩
theorem gx_bit {post : Int32 → Prop} {x : Int32} {p : Nat} (hp : p < 32) (h : post (gw_b (bt x p))) : wpX_bitAt post x (nI p) := by
  unfold wpX_bitAt
  rw [gw_bitAt x hp]
  exact h
theorem gx_gate {post : Int32 → Prop} {n : Nat} {v : Int32} {w : Nat → Bool} (hm : m ≤ 32) (hW : gw_W K X Y Z F m) (hn : n < m) (hs : gw_sk K n = false) (hv : ∀ j, j < n → bt v j = w j) (h : post (gw_b (gw_gate K X Y Z w n))) : wpX_gateBit post (nI m, nI s, nI r, tl, pe, K, X, Y, Z, F, H, xO, xN, xC, xS, xL, xE, xG, xW, xM, xP) (nI n) v := by
  have cn : (nI n).toNatClampNeg = n := nI_clamp (by omega)
  have vn : vp_in (nI n) 32 := vp_in_nI (by omega) (by omega)
  have hk := gw_sk_f.mp hs
  unfold wpX_gateBit
  simp only [wpX_bitAt, cn]
  refine ⟨vn, vn, vn, vn, ?_⟩
  rcases (hW n hn).1 with e | e | ⟨e, hx⟩ | ⟨e, jx, hjx, ex⟩ | ⟨e, ⟨jx, hjx, ex⟩, ⟨jy, hjy, ey⟩⟩ | ⟨e, ⟨jx, hjx, ex⟩, ⟨jy, hjy, ey⟩, ⟨jz, hjz, ez⟩⟩
  · exact absurd (Or.inl e) hk
  · exact absurd (Or.inr e) hk
  · refine nm_r e (br_t (by decide) ⟨vn, ?_⟩)
    have g : gw_gate K X Y Z w n = decide (X n = 1) := by unfold gw_gate; rw [if_pos e]
    rw [g] at h
    rcases hx with hx | hx <;> rw [hx] at h ⊢ <;> exact h
  · have cx : (X n).toNatClampNeg = jx := by rw [ex]; exact nI_clamp (by omega)
    refine nm_r e (br_f (by decide) (br_f (by decide) (br_t rfl ?_)))
    have g : gw_gate K X Y Z w n = !(w jx) := by unfold gw_gate; rw [e, cx]; rfl
    rw [ex, gw_bitAt v (by omega), hv jx hjx, gw_sub1, ← g]
    exact h
  · have cx : (X n).toNatClampNeg = jx := by rw [ex]; exact nI_clamp (by omega)
    have cy : (Y n).toNatClampNeg = jy := by rw [ey]; exact nI_clamp (by omega)
    rcases e with e | e | e
    · have g : gw_gate K X Y Z w n = (w jx && w jy) := by unfold gw_gate; rw [e, cx, cy]; rfl
      refine nm_r e (br_f (by decide) (br_f (by decide) (br_f (by decide) (br_t rfl ?_))))
      rw [ex, ey, gw_bitAt v (by omega), gw_bitAt v (by omega), hv jx hjx, hv jy hjy, gw_andb, ← g]
      exact h
    · have g : gw_gate K X Y Z w n = (w jx || w jy) := by unfold gw_gate; rw [e, cx, cy]; rfl
      refine nm_r e (br_f (by decide) (br_f (by decide) (br_f (by decide) (br_f (by decide) (br_t rfl ?_)))))
      rw [ex, ey, gw_bitAt v (by omega), gw_bitAt v (by omega), hv jx hjx, hv jy hjy, gw_orbb, ← g]
      exact h
    · have g : gw_gate K X Y Z w n = (w jx ^^ w jy) := by unfold gw_gate; rw [e, cx, cy]; rfl
      refine nm_r e (br_f (by decide) (br_f (by decide) (br_f (by decide) (br_f (by decide) (br_f (by decide) (br_t rfl ?_))))))
      rw [ex, ey, gw_bitAt v (by omega), gw_bitAt v (by omega), hv jx hjx, hv jy hjy, gw_xorb, ← g]
      exact h
  · have cx : (X n).toNatClampNeg = jx := by rw [ex]; exact nI_clamp (by omega)
    have cy : (Y n).toNatClampNeg = jy := by rw [ey]; exact nI_clamp (by omega)
    have cz : (Z n).toNatClampNeg = jz := by rw [ez]; exact nI_clamp (by omega)
    have g : gw_gate K X Y Z w n = if w jx = true then w jy else w jz := by unfold gw_gate; rw [e, cx, cy, cz]; rfl
    refine nm_r e (br_f (by decide) (br_f (by decide) (br_f (by decide) (br_f (by decide) (br_f (by decide) (br_f (by decide) (br_t rfl ?_)))))))
    rw [ex, ey, ez, gw_bitAt v (by omega), gw_bitAt v (by omega), gw_bitAt v (by omega), hv jx hjx, hv jy hjy, hv jz hjz]
    cases c : w jx with
    | true => rw [g, if_pos c] at h; exact br_t rfl h
    | false => rw [g, if_neg (by rw [c]; exact Bool.false_ne_true)] at h; exact br_f (by decide) h
theorem gx_val_l {post : Int32 → Prop} {a f : Nat} {o : Bool} {fi oi : Int32} (hm : m ≤ 32) (hW : gw_W K X Y Z F m) (hf : ∀ n, n < m → (nI n = fi ↔ n = f)) (ho : f < m → oi = gw_b o) (h : ∀ v, (∀ j, j < 32 → bt v j = gw_ev K X Y Z (gw_sa K a) f o m j) → post v) : ∀ d n g v, n + d = m → d < g → (∀ j, j < 32 → bt v j = gw_ev K X Y Z (gw_sa K a) f o n j) → wX_valuesWith_9 post (nI a) fi oi (nI m) (nI s) (nI r) tl pe K X Y Z F H xO xN xC xS xL xE xG xW xM xP g v (nI (gw_cnt (gw_sk K) n)) (nI n) := by
  intro d
  induction d with
  | zero =>
    intro n g v h1 h2 hv
    obtain ⟨g, rfl⟩ := gw_fz h2
    have e : n = m := by omega
    rw [wX_valuesWith_9]
    refine br_t (nI_le (by omega) (by omega)) (h v ?_)
    rw [← e]
    exact hv
  | succ d ih =>
    intro n g v h1 h2 hv
    obtain ⟨g, rfl⟩ := gw_fz h2
    have cn : (nI n).toNatClampNeg = n := nI_clamp (by omega)
    have vn : vp_in (nI n) 32 := vp_in_nI (by omega) (by omega)
    have hc := gw_cnt_le (gw_sk K) n
    have bits : ∀ b : Bool, b = gw_ev K X Y Z (gw_sa K a) f o (n + 1) n → ∀ j, j < 32 → bt (v ||| (gw_b b <<< (nI n &&& 31))) j = gw_ev K X Y Z (gw_sa K a) f o (n + 1) j := by
      intro b hb j hj
      rw [gw_orb v b (by omega) hj, hv j hj]
      by_cases e : j = n
      · subst e
        rw [gw_ev_hi (Nat.le_refl _), decide_eq_true rfl, Bool.false_or, Bool.true_and, hb]
      · rw [gw_ev_ne e, decide_eq_false e, Bool.false_and, Bool.or_false]
    have key : ∀ (b : Bool) (c : Nat), (n ≠ f → b = gw_ev K X Y Z (gw_sa K a) f o (n + 1) n) → c = gw_cnt (gw_sk K) (n + 1) → wX_valuesWith_55 post (wX_valuesWith_9 post (nI a) fi oi (nI m) (nI s) (nI r) tl pe K X Y Z F H xO xN xC xS xL xE xG xW xM xP g) (nI a) fi oi v (nI c) (nI n) (gw_b b) (nI m) (nI s) (nI r) tl pe K X Y Z F H xO xN xC xS xL xE xG xW xM xP := by
      intro b c hb hc'
      subst hc'
      by_cases e : n = f
      · refine br_t ((hf n (by omega)).mpr e) (nm_e (nm_r (nI_1 n) (ih (n + 1) g _ (by omega) (by omega) ?_)))
        rw [ho (by omega)]
        refine bits o ?_
        rw [gw_ev_at, if_pos e]
      · exact br_f (fun q => e ((hf n (by omega)).mp q)) (nm_e (nm_r (nI_1 n) (ih (n + 1) g _ (by omega) (by omega) (bits b (hb e)))))
    rw [wX_valuesWith_9]
    refine br_f (nI_ge (by omega) (by omega)) ⟨vn, gx_sk (fun hk => br_f gw_n10 ?_) (fun hk => br_t rfl ?_)⟩
    · rw [cn] at hk
      have hs := gw_sk_t.mpr hk
      refine gx_bit (by omega) (nm_r (nI_1 _) (key _ _ (fun e => ?_) (gw_cnt_t hs).symm))
      rw [gw_ev_at, if_neg e, if_pos hs, gw_nIb a (by omega)]
      rfl
    · rw [cn] at hk
      have hs := gw_sk_f.mpr hk
      refine gx_gate (w := gw_ev K X Y Z (gw_sa K a) f o n) hm hW (by omega) hs (fun j hj => hv j (by omega)) (key _ _ (fun e => ?_) (gw_cnt_f hs).symm)
      rw [gw_ev_at, if_neg e, if_neg (by rw [hs]; exact Bool.false_ne_true)]
theorem gx_val {post : Int32 → Prop} {a f : Nat} {o : Bool} {fi oi : Int32} (hm : m ≤ 32) (hW : gw_W K X Y Z F m) (hf : ∀ n, n < m → (nI n = fi ↔ n = f)) (ho : f < m → oi = gw_b o) (h : ∀ v, (∀ j, j < 32 → bt v j = gw_ev K X Y Z (gw_sa K a) f o m j) → post v) : wpX_valuesWith post (nI m, nI s, nI r, tl, pe, K, X, Y, Z, F, H, xO, xN, xC, xS, xL, xE, xG, xW, xM, xP) (nI a) fi oi :=
  ⟨m + 1, gx_val_l hm hW hf ho h m 0 (m + 1) 0 (by omega) (by omega) (fun j _ => b_0 j)⟩
theorem gx_v {post : Int32 → Prop} {a : Nat} (hm : m ≤ 32) (hW : gw_W K X Y Z F m) (h : ∀ v, (∀ j, j < 32 → bt v j = gw_v K X Y Z m (gw_sa K a) j) → post v) : wpX_valuesWith post (nI m, nI s, nI r, tl, pe, K, X, Y, Z, F, H, xO, xN, xC, xS, xL, xE, xG, xW, xM, xP) (nI a) (-1) 0 :=
  gx_val (f := 32) (o := false) hm hW (fun n hn => ⟨fun e => absurd e (gw_m1 (by omega)), fun e => absurd e (by omega)⟩) (fun e => absurd e (by omega)) h
theorem gx_pres_l {post : Int32 → Prop} (hm : m ≤ 32) (h01 : gw_01 H) (h : post (nI (gw_a0 K m H))) : ∀ d n g, n + d = m → d < g → wX_presentAssignment_6 post (nI m) (nI s) (nI r) tl pe K X Y Z F H xO xN xC xS xL xE xG xW xM xP g (nI (gw_pk (gw_sk K) (gw_hs H) n)) (nI (gw_cnt (gw_sk K) n)) (nI n) := by
  intro d
  induction d with
  | zero =>
    intro n g h1 h2
    obtain ⟨g, rfl⟩ := gw_fz h2
    have e : n = m := by omega
    rw [wX_presentAssignment_6]
    refine br_t (nI_le (by omega) (by omega)) ?_
    rw [e]
    exact h
  | succ d ih =>
    intro n g h1 h2
    obtain ⟨g, rfl⟩ := gw_fz h2
    have cn : (nI n).toNatClampNeg = n := nI_clamp (by omega)
    have vn : vp_in (nI n) 32 := vp_in_nI (by omega) (by omega)
    have hc := gw_cnt_le (gw_sk K) n
    have ihn := ih (n + 1) g (by omega) (by omega)
    rw [wX_presentAssignment_6]
    refine br_f (nI_ge (by omega) (by omega)) ⟨vn, gx_sk (fun hk => br_f gw_n10 ⟨vn, ?_⟩) (fun hk => br_t rfl (nm_r (nI_1 n) ?_))⟩
    · rw [cn] at hk
      have hs := gw_sk_t.mpr hk
      rw [gw_pk_t hs, gw_cnt_t hs] at ihn
      refine nm_r ?_ (nm_r (nI_1 _) (nm_r (nI_1 n) ihn))
      rw [cn, gw_hs_b h01 n, gw_or _ _ (by omega)]
    · rw [cn] at hk
      have hs := gw_sk_f.mpr hk
      rw [gw_pk_f hs, gw_cnt_f hs] at ihn
      exact ihn
theorem gx_pres {post : Int32 → Prop} (hm : m ≤ 32) (h01 : gw_01 H) (h : post (nI (gw_a0 K m H))) : wpX_presentAssignment post (nI m, nI s, nI r, tl, pe, K, X, Y, Z, F, H, xO, xN, xC, xS, xL, xE, xG, xW, xM, xP) :=
  ⟨m + 1, gx_pres_l hm h01 h m 0 (m + 1) (by omega) (by omega)⟩
theorem gx_hold_l {post : SX → Prop} {a : Nat} (hm : m ≤ 32) (h : post (nI m, nI s, nI r, tl, pe, K, X, Y, Z, F, gw_ho K m H a, xO, xN, xC, xS, xL, xE, xG, xW, xM, xP)) : ∀ d n g, n + d = m → d < g → wX_hold_4 post (nI a) (nI m) (nI s) (nI r) tl pe g (nI (gw_cnt (gw_sk K) n)) (nI n) K X Y Z F (gw_ho K n H a) xO xN xC xS xL xE xG xW xM xP := by
  intro d
  induction d with
  | zero =>
    intro n g h1 h2
    obtain ⟨g, rfl⟩ := gw_fz h2
    have e : n = m := by omega
    rw [wX_hold_4]
    refine br_t (nI_le (by omega) (by omega)) ?_
    rw [e]
    exact h
  | succ d ih =>
    intro n g h1 h2
    obtain ⟨g, rfl⟩ := gw_fz h2
    have cn : (nI n).toNatClampNeg = n := nI_clamp (by omega)
    have vn : vp_in (nI n) 32 := vp_in_nI (by omega) (by omega)
    have hc := gw_cnt_le (gw_sk K) n
    have ihn := ih (n + 1) g (by omega) (by omega)
    rw [wX_hold_4]
    refine br_f (nI_ge (by omega) (by omega)) ⟨vn, gx_sk (fun hk => br_f gw_n10 (gx_bit (by omega) ⟨vn, ?_⟩)) (fun hk => br_t rfl (nm_r (nI_1 n) ?_))⟩
    · rw [cn] at hk
      have hs := gw_sk_t.mpr hk
      rw [gw_cnt_t hs] at ihn
      refine nm_r ?_ (nm_r (nI_1 _) (nm_r (nI_1 n) ihn))
      rw [cn, gw_nIb a (by omega)]
      exact gw_ho_t hs
    · rw [cn] at hk
      have hs := gw_sk_f.mpr hk
      rw [gw_cnt_f hs, ← gw_ho_f hs] at ihn
      exact ihn
theorem gx_hold {post : SX → Prop} {a : Nat} (hm : m ≤ 32) (h : post (nI m, nI s, nI r, tl, pe, K, X, Y, Z, F, gw_ho K m H a, xO, xN, xC, xS, xL, xE, xG, xW, xM, xP)) : wpX_hold post (nI m, nI s, nI r, tl, pe, K, X, Y, Z, F, H, xO, xN, xC, xS, xL, xE, xG, xW, xM, xP) (nI a) := by
  have g := gx_hold_l (tl := tl) (pe := pe) (s := s) (r := r) (xO := xO) (xN := xN) (xC := xC) (xS := xS) (xL := xL) (xE := xE) (xG := xG) (xW := xW) (xM := xM) (xP := xP) hm h m 0 (m + 1) (by omega) (by omega)
  rw [gw_ho_0] at g
  exact ⟨m + 1, g⟩
theorem gx_pick_l {post : Int32 → Prop} {a : Nat} {k : Int32} {q : Nat → Bool} (hm : m ≤ 32) (hq : ∀ n, q n = decide (K n = k)) (hk : k = 0 ∨ k = 1) (h : post (nI (gw_pk q (gw_sa K a) m))) : ∀ d n g, n + d = m → d < g → wX_pickBits_11 post (nI a) k (nI m) (nI s) (nI r) tl pe K X Y Z F H xO xN xC xS xL xE xG xW xM xP g (nI (gw_pk q (gw_sa K a) n)) (nI (gw_cnt (gw_sk K) n)) (nI (gw_cnt q n)) (nI n) := by
  intro d
  induction d with
  | zero =>
    intro n g h1 h2
    obtain ⟨g, rfl⟩ := gw_fz h2
    have e : n = m := by omega
    rw [wX_pickBits_11]
    refine br_t (nI_le (by omega) (by omega)) ?_
    rw [e]
    exact h
  | succ d ih =>
    intro n g h1 h2
    obtain ⟨g, rfl⟩ := gw_fz h2
    have cn : (nI n).toNatClampNeg = n := nI_clamp (by omega)
    have vn : vp_in (nI n) 32 := vp_in_nI (by omega) (by omega)
    have hc := gw_cnt_le (gw_sk K) n
    have hc2 := gw_cnt_le q n
    have ihn := ih (n + 1) g (by omega) (by omega)
    rw [wX_pickBits_11]
    refine br_f (nI_ge (by omega) (by omega)) ⟨vn, gx_sk (fun hk' => br_f gw_n10 ⟨vn, br_c (fun e => gx_bit (by omega) ?_) (fun e => ?_)⟩) (fun hk' => br_t rfl (nm_r (nI_1 n) ?_))⟩
    · rw [cn] at hk' e
      have hs := gw_sk_t.mpr hk'
      have hqn : q n = true := by rw [hq]; exact decide_eq_true e
      rw [gw_pk_t hqn, gw_cnt_t hs, gw_cnt_t hqn] at ihn
      refine nm_r ?_ (nm_r (nI_1 _) (nm_r (nI_1 _) (nm_r (nI_1 n) ihn)))
      rw [gw_nIb a (by omega)]
      exact gw_or _ _ (by omega)
    · rw [cn] at hk' e
      have hs := gw_sk_t.mpr hk'
      have hqn : q n = false := by rw [hq]; exact decide_eq_false e
      rw [gw_pk_f hqn, gw_cnt_t hs, gw_cnt_f hqn] at ihn
      exact nm_r (nI_1 _) (nm_r (nI_1 n) ihn)
    · rw [cn] at hk'
      have hs := gw_sk_f.mpr hk'
      have hqn : q n = false := by
        rw [hq]
        exact decide_eq_false (fun e => hk' (by rcases hk with hk | hk <;> rw [e, hk] <;> decide))
      rw [gw_pk_f hqn, gw_cnt_f hs, gw_cnt_f hqn] at ihn
      exact ihn
theorem gx_conf {post : Int32 → Prop} {a : Nat} (hm : m ≤ 32) (h : post (nI (gw_co K m a))) : wpX_configurationOf post (nI m, nI s, nI r, tl, pe, K, X, Y, Z, F, H, xO, xN, xC, xS, xL, xE, xG, xW, xM, xP) (nI a) := by
  unfold wpX_configurationOf
  dsimp only
  exact ⟨m + 1, gx_pick_l (q := gw_rk K) hm (fun _ => rfl) (Or.inr rfl) h m 0 (m + 1) (by omega) (by omega)⟩
theorem gx_offs {post : Int32 → Prop} {a : Nat} (hm : m ≤ 32) (h : post (nI (gw_of K m a))) : wpX_pickBits post (nI m, nI s, nI r, tl, pe, K, X, Y, Z, F, H, xO, xN, xC, xS, xL, xE, xG, xW, xM, xP) (nI a) 0 :=
  ⟨m + 1, gx_pick_l (q := gw_ik K) hm (fun _ => rfl) (Or.inl rfl) h m 0 (m + 1) (by omega) (by omega)⟩
theorem gx_aft_l {post : Int32 → Prop} {v : Int32} {w : Nat → Bool} (hm : m ≤ 32) (hW : gw_W K X Y Z F m) (hv : ∀ j, j < 32 → bt v j = w j) (h : post (nI (gw_pk (gw_sk K) (fun n => w (F n).toNatClampNeg) m))) : ∀ d n g, n + d = m → d < g → wX_assignmentAfter_16 post v (nI m) (nI s) (nI r) tl pe K X Y Z F H xO xN xC xS xL xE xG xW xM xP g (nI (gw_pk (gw_sk K) (fun n => w (F n).toNatClampNeg) n)) (nI (gw_cnt (gw_sk K) n)) (nI n) := by
  intro d
  induction d with
  | zero =>
    intro n g h1 h2
    obtain ⟨g, rfl⟩ := gw_fz h2
    have e : n = m := by omega
    rw [wX_assignmentAfter_16]
    refine br_t (nI_le (by omega) (by omega)) ?_
    rw [e]
    exact h
  | succ d ih =>
    intro n g h1 h2
    obtain ⟨g, rfl⟩ := gw_fz h2
    have cn : (nI n).toNatClampNeg = n := nI_clamp (by omega)
    have vn : vp_in (nI n) 32 := vp_in_nI (by omega) (by omega)
    have hc := gw_cnt_le (gw_sk K) n
    have ihn := ih (n + 1) g (by omega) (by omega)
    rw [wX_assignmentAfter_16]
    refine br_f (nI_ge (by omega) (by omega)) ⟨vn, gx_sk (fun hk => br_f gw_n10 ⟨vn, ?_⟩) (fun hk => br_t rfl (nm_r (nI_1 n) ?_))⟩
    · rw [cn] at hk
      have hs := gw_sk_t.mpr hk
      obtain ⟨p, hp, ep⟩ : ∃ p, p < 32 ∧ F n = nI p := by
        rcases hk with hk | hk
        · exact ⟨n, by omega, (hW n (by omega)).2.2 hk⟩
        · obtain ⟨p, h3, h4⟩ := (hW n (by omega)).2.1 hk
          exact ⟨p, by omega, h4⟩
      have cp : (F n).toNatClampNeg = p := by rw [ep]; exact nI_clamp (by omega)
      rw [gw_pk_t hs, gw_cnt_t hs] at ihn
      rw [cn, ep]
      refine gx_bit hp (nm_r ?_ (nm_r (nI_1 _) (nm_r (nI_1 n) ihn)))
      rw [hv p hp, gw_or _ _ (by omega), cp]
    · rw [cn] at hk
      have hs := gw_sk_f.mpr hk
      rw [gw_pk_f hs, gw_cnt_f hs] at ihn
      exact ihn
theorem gx_aft {post : Int32 → Prop} {a : Nat} (hm : m ≤ 32) (hW : gw_W K X Y Z F m) (h : post (nI (gw_jn K m (gw_of K m a) (gw_stp K X Y Z F m (gw_of K m a) (gw_co K m a))))) : wpX_assignmentAfter post (nI m, nI s, nI r, tl, pe, K, X, Y, Z, F, H, xO, xN, xC, xS, xL, xE, xG, xW, xM, xP) (nI a) := by
  unfold wpX_assignmentAfter
  dsimp only
  refine gx_v hm hW (fun v hv => ⟨m + 1, gx_aft_l hm hW hv ?_ m 0 (m + 1) (by omega) (by omega)⟩)
  rw [← gw_aft hm hW] at h
  exact h
end
