/-! levels in the reference -/
section
variable {m s r : Nat} {K X Y Z F H yA yO yS yR yL yN yD yT yM yF yW yP : Nat → Int32}
theorem gy_b82 {post : Int32 → SY → Prop} {J : Int32 → (Nat → Int32) → (Nat → Int32) → (Nat → Int32) → (Nat → Int32) → (Nat → Int32) → (Nat → Int32) → (Nat → Int32) → (Nat → Int32) → (Nat → Int32) → (Nat → Int32) → (Nat → Int32) → (Nat → Int32) → (Nat → Int32) → (Nat → Int32) → (Nat → Int32) → (Nat → Int32) → (Nat → Int32) → (Nat → Int32) → Prop} {n : Nat} {x1 x2 x3 x4 : Int32} (hm : m ≤ 32) (hW : gw_W K X Y Z F m) (hn : n < m) (h0 : gw_sk K n = true → post 0 (nI m, nI s, nI r, K, X, Y, Z, F, H, yA, yO, yS, yR, yL, yN, yD, yT, yM, yF, yW, yP)) (h1 : gw_sk K n = false → ∀ M, (∀ j, M j = if gw_op K X Y Z n j = true then 1 else yM j) → J (nI n - 1) K X Y Z F H yA yO yS yR yL yN yD yT M yF yW yP) : wY_between_82 post J x1 x2 x3 x4 (nI n) (nI m) (nI s) (nI r) K X Y Z F H yA yO yS yR yL yN yD yT yM yF yW yP := by
  have cn : (nI n).toNatClampNeg = n := nI_clamp (by omega)
  have vn : vp_in (nI n) 32 := vp_in_nI (by omega) (by omega)
  unfold wY_between_82 wpY_operands wY_between_125 wY_between_144
  rw [cn]
  rcases (hW n hn).1 with e | e | ⟨e, hx⟩ | ⟨e, jx, hjx, ex⟩ | ⟨e, ⟨jx, hjx, ex⟩, ⟨jy, hjy, ey⟩⟩ | ⟨e, ⟨jx, hjx, ex⟩, ⟨jy, hjy, ey⟩, ⟨jz, hjz, ez⟩⟩
  · have hs : gw_sk K n = true := gw_sk_t.mpr (Or.inl e)
    rw [e]
    exact ⟨vn, br_f (by decide) (h0 hs)⟩
  · have hs : gw_sk K n = true := gw_sk_t.mpr (Or.inr e)
    rw [e]
    exact ⟨vn, br_f (by decide) (h0 hs)⟩
  · have hs : gw_sk K n = false := gw_sk_f.mpr (by rw [e]; decide)
    have g := h1 hs yM (fun j => by
      have : gw_op K X Y Z n j = false := by unfold gw_op; rw [e]; rfl
      rw [this]; rfl)
    rw [e]
    exact ⟨vn, br_t (by decide) ⟨vn, br_f (by decide) (br_t (by decide) (br_t (by decide) (br_t (by decide) (nm_r (gw_dec1 n) g))))⟩⟩
  · have hs : gw_sk K n = false := gw_sk_f.mpr (by rw [e]; decide)
    have cx : (nI jx).toNatClampNeg = jx := nI_clamp (by omega)
    have vx : vp_in (nI jx) 32 := vp_in_nI (by omega) (by omega)
    have g := h1 hs (upd yM jx 1) (fun j => by
      have : gw_op K X Y Z n j = decide (j = jx) := by unfold gw_op; rw [e, ex, cx]; rfl
      rw [this]
      by_cases q : j = jx
      · subst q; rw [pk_us, if_pos (decide_eq_true rfl)]
      · rw [pk_un q, decide_eq_false q]; rfl)
    rw [e, ex, cx]
    exact ⟨vn, br_t (by decide) ⟨vn, br_t (by decide) (br_t rfl (br_f (by decide) ⟨vn, vx, nm_r (e' := upd yM jx 1) rfl (br_t (by decide) (br_t (by decide) (nm_r (gw_dec1 n) g)))⟩))⟩⟩
  · have hs : gw_sk K n = false := gw_sk_f.mpr (by rcases e with e | e | e <;> rw [e] <;> decide)
    have cx : (nI jx).toNatClampNeg = jx := nI_clamp (by omega)
    have vx : vp_in (nI jx) 32 := vp_in_nI (by omega) (by omega)
    have cy : (nI jy).toNatClampNeg = jy := nI_clamp (by omega)
    have vy : vp_in (nI jy) 32 := vp_in_nI (by omega) (by omega)
    have g := h1 hs (upd (upd yM jx 1) jy 1) (fun j => by
      have : gw_op K X Y Z n j = (decide (j = jx) || decide (j = jy)) := by
        unfold gw_op
        rw [if_neg (by rcases e with e | e | e <;> rw [e] <;> decide), if_pos e, ex, ey, cx, cy]
      rw [this]
      by_cases q : j = jy
      · subst q; rw [pk_us, decide_eq_true (rfl : j = j), Bool.or_true, if_pos rfl]
      · rw [pk_un q, decide_eq_false q, Bool.or_false]
        by_cases q2 : j = jx
        · subst q2; rw [pk_us, if_pos (decide_eq_true rfl)]
        · rw [pk_un q2, decide_eq_false q2]; rfl)
    rw [ex, ey, cx, cy]
    rcases e with e | e | e
    · rw [e]
      exact ⟨vn, br_t (by decide) ⟨vn, br_t (by decide) (br_f (by decide) (br_f (by decide) (br_f (by decide) ⟨vn, vx, nm_r (e' := upd yM jx 1) rfl (br_f (by decide) ⟨vn, vy, nm_r (e' := upd (upd yM jx 1) jy 1) rfl (br_t (by decide) (nm_r (gw_dec1 n) g))⟩)⟩)))⟩⟩
    · rw [e]
      exact ⟨vn, br_t (by decide) ⟨vn, br_t (by decide) (br_f (by decide) (br_f (by decide) (br_f (by decide) ⟨vn, vx, nm_r (e' := upd yM jx 1) rfl (br_f (by decide) ⟨vn, vy, nm_r (e' := upd (upd yM jx 1) jy 1) rfl (br_t (by decide) (nm_r (gw_dec1 n) g))⟩)⟩)))⟩⟩
    · rw [e]
      exact ⟨vn, br_t (by decide) ⟨vn, br_t (by decide) (br_f (by decide) (br_f (by decide) (br_f (by decide) ⟨vn, vx, nm_r (e' := upd yM jx 1) rfl (br_f (by decide) ⟨vn, vy, nm_r (e' := upd (upd yM jx 1) jy 1) rfl (br_t (by decide) (nm_r (gw_dec1 n) g))⟩)⟩)))⟩⟩
  · have hs : gw_sk K n = false := gw_sk_f.mpr (by rw [e]; decide)
    have cx : (nI jx).toNatClampNeg = jx := nI_clamp (by omega)
    have vx : vp_in (nI jx) 32 := vp_in_nI (by omega) (by omega)
    have cy : (nI jy).toNatClampNeg = jy := nI_clamp (by omega)
    have vy : vp_in (nI jy) 32 := vp_in_nI (by omega) (by omega)
    have cz : (nI jz).toNatClampNeg = jz := nI_clamp (by omega)
    have vz : vp_in (nI jz) 32 := vp_in_nI (by omega) (by omega)
    have g := h1 hs (upd (upd (upd yM jx 1) jy 1) jz 1) (fun j => by
      have : gw_op K X Y Z n j = (decide (j = jx) || decide (j = jy) || decide (j = jz)) := by
        unfold gw_op
        rw [e, ex, ey, ez, cx, cy, cz]; rfl
      rw [this]
      by_cases q : j = jz
      · subst q; rw [pk_us, decide_eq_true (rfl : j = j), Bool.or_true, if_pos rfl]
      · rw [pk_un q, decide_eq_false q, Bool.or_false]
        by_cases q1 : j = jy
        · subst q1; rw [pk_us, decide_eq_true (rfl : j = j), Bool.or_true, if_pos rfl]
        · rw [pk_un q1, decide_eq_false q1, Bool.or_false]
          by_cases q2 : j = jx
          · subst q2; rw [pk_us, if_pos (decide_eq_true rfl)]
          · rw [pk_un q2, decide_eq_false q2]; rfl)
    rw [e, ex, ey, ez, cx, cy, cz]
    exact ⟨vn, br_t (by decide) ⟨vn, br_t (by decide) (br_f (by decide) (br_t rfl (br_f (by decide) ⟨vn, vx, nm_r (e' := upd yM jx 1) rfl (br_f (by decide) ⟨vn, vy, nm_r (e' := upd (upd yM jx 1) jy 1) rfl (br_f (by decide) ⟨vn, vz, nm_r (e' := upd (upd (upd yM jx 1) jy 1) jz 1) rfl (nm_r (gw_dec1 n) g)⟩)⟩)⟩)))⟩⟩
theorem gy_b39_l {post : Int32 → SY → Prop} {net : Nat} {x2 x3 x4 : Int32} {S : Nat → Bool} (hm : m ≤ 32) (hW : gw_W K X Y Z F m) (hnet : net < m) (hS : ∀ j, j < net → (S j = true ↔ nI j = x2 ∨ nI j = x3 ∨ nI j = x4)) : ∀ n g A M, n ≤ net → n < g → (∀ j, j < n → A j = gw_b (M j)) → (∀ z B, gw_tv (gw_bk (gw_sk K) (gw_op K X Y Z) S n M = true) z → post z (nI m, nI s, nI r, K, X, Y, Z, F, H, yA, yO, yS, yR, yL, yN, yD, yT, B, yF, yW, yP)) → wY_between_39 post (nI net) x2 x3 x4 (nI m) (nI s) (nI r) g (nI n - 1) K X Y Z F H yA yO yS yR yL yN yD yT A yF yW yP := by
  intro n
  induction n with
  | zero =>
    intro g A M h1 h2 hA h
    obtain ⟨g, rfl⟩ := gw_fz h2
    rw [wY_between_39]
    exact br_t (by decide) (h 1 A (gw_tv_t rfl))
  | succ n ih =>
    intro g A M h1 h2 hA h
    obtain ⟨g, rfl⟩ := gw_fz h2
    have cn : (nI n).toNatClampNeg = n := nI_clamp (by omega)
    have vn : vp_in (nI n) 32 := vp_in_nI (by omega) (by omega)
    have skip : ¬ (M n = true ∧ S n = false) → wY_between_39 post (nI net) x2 x3 x4 (nI m) (nI s) (nI r) g (nI n - 1) K X Y Z F H yA yO yS yR yL yN yD yT A yF yW yP := by
      intro q
      refine ih g A M (by omega) (by omega) (fun j hj => hA j (by omega)) (fun z B hz => h z B ?_)
      have e : gw_bk (gw_sk K) (gw_op K X Y Z) S (n + 1) M = gw_bk (gw_sk K) (gw_op K X Y Z) S n M := if_neg q
      rw [e]
      exact hz
    rw [wY_between_39, nI_pred]
    dsimp only
    rw [gw_dec1, cn, hA n (by omega)]
    refine br_f (nI_pos (by omega)) ⟨vn, ?_⟩
    cases hM : M n with
    | false => exact br_t rfl (nm_e (skip (fun q => by rw [hM] at q; exact Bool.false_ne_true q.1)))
    | true =>
      refine br_f (by decide) (br_f (fun q => by rw [nI_eq (by omega) (by omega)] at q; omega) ?_)
      have hSn := hS n (by omega)
      have inS : S n = true → wY_between_39 post (nI net) x2 x3 x4 (nI m) (nI s) (nI r) g (nI n - 1) K X Y Z F H yA yO yS yR yL yN yD yT A yF yW yP := fun q => skip (fun q2 => by rw [q] at q2; exact Bool.false_ne_true q2.2.symm)
      refine br_c (fun q => nm_e (inS (hSn.mpr (Or.inl q)))) (fun q => br_c (fun q2 => nm_e (inS (hSn.mpr (Or.inr (Or.inl q2))))) (fun q2 => br_c (fun q3 => nm_e (inS (hSn.mpr (Or.inr (Or.inr q3))))) (fun q3 => ?_)))
      have nS : S n = false := by
        cases hs : S n with
        | false => rfl
        | true =>
          rcases hSn.mp hs with z | z | z
          · exact absurd z q
          · exact absurd z q2
          · exact absurd z q3
      refine gy_b82 hm hW (by omega) (fun hs => h 0 A (gw_tv_f ?_)) (fun hs B hB => ih g B (fun j => M j || gw_op K X Y Z n j) (by omega) (by omega) (fun j hj => ?_) (fun z C hz => h z C ?_))
      · have e : gw_bk (gw_sk K) (gw_op K X Y Z) S (n + 1) M = false := by
          show (if M n = true ∧ S n = false then (if gw_sk K n = true then false else _) else _) = false
          rw [if_pos ⟨hM, nS⟩, if_pos hs]
        rw [e]
        exact Bool.false_ne_true
      · rw [hB j, hA j (by omega)]
        cases M j <;> cases gw_op K X Y Z n j <;> rfl
      · have e : gw_bk (gw_sk K) (gw_op K X Y Z) S (n + 1) M = gw_bk (gw_sk K) (gw_op K X Y Z) S n (fun j => M j || gw_op K X Y Z n j) := by
          show (if M n = true ∧ S n = false then (if gw_sk K n = true then false else _) else _) = _
          rw [if_pos ⟨hM, nS⟩, if_neg (by rw [hs]; exact Bool.false_ne_true)]
        rw [e]
        exact hz
theorem gy_b3_l {post : Int32 → SY → Prop} {net : Nat} {x2 x3 x4 : Int32} {S : Nat → Bool} (hm : m ≤ 32) (hW : gw_W K X Y Z F m) (hnet : net < m) (hg : gw_sk K net = false) (hS : ∀ j, j < net → (S j = true ↔ nI j = x2 ∨ nI j = x3 ∨ nI j = x4)) (h : ∀ z B, gw_tv (gw_bt K X Y Z net S = true) z → post z (nI m, nI s, nI r, K, X, Y, Z, F, H, yA, yO, yS, yR, yL, yN, yD, yT, B, yF, yW, yP)) : ∀ d j g A, j + d = m → d < g → (∀ i, i < j → A i = gw_b (decide (i = net))) → wY_between_3 post (nI net) x2 x3 x4 (nI m) (nI s) (nI r) g (nI j) K X Y Z F H yA yO yS yR yL yN yD yT A yF yW yP := by
  intro d
  induction d with
  | zero =>
    intro j g A h1 h2 hA
    obtain ⟨g, rfl⟩ := gw_fz h2
    have cn : (nI net).toNatClampNeg = net := nI_clamp (by omega)
    rw [wY_between_3]
    refine br_t (nI_le (by omega) (by omega)) ⟨net + 2, ?_⟩
    rw [wY_between_39]
    dsimp only
    rw [cn, hA net (by omega), decide_eq_true rfl]
    refine br_f (nI_pos (by omega)) ⟨vp_in_nI (by omega) (by omega), br_f (by decide) (br_t rfl (gy_b82 hm hW hnet (fun hs => ?_) (fun _ B hB => gy_b39_l hm hW hnet hS net (net + 1) B (gw_op K X Y Z net) (Nat.le_refl _) (by omega) (fun i hi => ?_) h)))⟩
    · rw [hg] at hs; exact absurd hs Bool.false_ne_true
    · rw [hB i, hA i (by omega), decide_eq_false (show ¬ i = net by omega)]
      cases gw_op K X Y Z net i <;> rfl
  | succ d ih =>
    intro j g A h1 h2 hA
    obtain ⟨g, rfl⟩ := gw_fz h2
    have cj : (nI j).toNatClampNeg = j := nI_clamp (by omega)
    have vj : vp_in (nI j) 32 := vp_in_nI (by omega) (by omega)
    have next : ∀ b : Bool, b = decide (j = net) → wY_between_3 post (nI net) x2 x3 x4 (nI m) (nI s) (nI r) g (nI (j + 1)) K X Y Z F H yA yO yS yR yL yN yD yT (upd A j (gw_b b)) yF yW yP := by
      intro b hb
      refine ih (j + 1) g _ (by omega) (by omega) (fun i hi => ?_)
      by_cases e : i = j
      · subst e; rw [pk_us, hb]
      · rw [pk_un e]; exact hA i (by omega)
    rw [wY_between_3]
    dsimp only
    rw [cj]
    refine br_f (nI_ge (by omega) (by omega)) ?_
    by_cases e : j = net
    · exact br_t (by rw [e]) ⟨vj, nm_r (e' := upd A j (gw_b true)) rfl (nm_r (nI_1 j) (next true (decide_eq_true e).symm))⟩
    · exact br_f (fun q => e ((nI_eq (by omega) (by omega)).mp q)) ⟨vj, nm_r (e' := upd A j (gw_b false)) rfl (nm_r (nI_1 j) (next false (decide_eq_false e).symm))⟩
theorem gy_btw {post : Int32 → SY → Prop} {net : Nat} {x2 x3 x4 : Int32} {S : Nat → Bool} (hm : m ≤ 32) (hW : gw_W K X Y Z F m) (hnet : net < m) (hg : gw_sk K net = false) (hS : ∀ j, j < net → (S j = true ↔ nI j = x2 ∨ nI j = x3 ∨ nI j = x4)) (h : ∀ z B, gw_tv (gw_bt K X Y Z net S = true) z → post z (nI m, nI s, nI r, K, X, Y, Z, F, H, yA, yO, yS, yR, yL, yN, yD, yT, B, yF, yW, yP)) : wpY_between post (nI m, nI s, nI r, K, X, Y, Z, F, H, yA, yO, yS, yR, yL, yN, yD, yT, yM, yF, yW, yP) (nI net) x2 x3 x4 :=
  ⟨m + 1, gy_b3_l hm hW hnet hg hS h m 0 (m + 1) yM (by omega) (by omega) (fun i hi => absurd hi (Nat.not_lt_zero _))⟩
end
theorem gw_S3_t {a b c j : Nat} : gw_S3 a b c j = true ↔ j = a ∨ j = b ∨ j = c := by
  unfold gw_S3
  rw [Bool.or_eq_true, Bool.or_eq_true, decide_eq_true_iff, decide_eq_true_iff, decide_eq_true_iff]
  constructor
  · rintro ((h | h) | h)
    · exact Or.inl h
    · exact Or.inr (Or.inl h)
    · exact Or.inr (Or.inr h)
  · rintro (h | h | h)
    · exact Or.inl (Or.inl h)
    · exact Or.inl (Or.inr h)
    · exact Or.inr h
theorem gw_S3_2 (a b : Nat) : gw_S3 a a b = gw_S3 a b b := by
  funext j
  unfold gw_S3
  cases decide (j = a) <;> cases decide (j = b) <;> rfl
/-- what the reference's search for a level rests on -/
def gw_Ly (K X Y Z F yL : Nat → Int32) (lev : Nat → Nat) (m net k : Nat) : Prop := m ≤ 32 ∧ gw_W K X Y Z F m ∧ net < m ∧ gw_sk K net = false ∧ k ≤ 3 ∧ (∀ j, j < net → yL j = nI (lev j)) ∧ ∀ j, j < net → lev j ≤ 40 ∨ lev j = 99
def gw_Pb (a b x y z : Nat) : Prop := x < a ∨ (x = a ∧ ((y = a ∧ (z = a ∨ z < b)) ∨ y < b))
def gw_Pc (a b c x y z : Nat) : Prop := gw_Pb a b x y z ∨ (x = a ∧ ((y = a ∧ z = b) ∨ (y = b ∧ (z = b ∨ z < c))))
section
variable {m s r : Nat} {K X Y Z F H yA yO yS yR yL yN yD yT yM yF yW yP : Nat → Int32}
theorem gy_l138_l {post : Int32 → SY → Prop} {J19 J : Int32 → Int32 → Int32 → Int32 → Int32 → (Nat → Int32) → (Nat → Int32) → (Nat → Int32) → (Nat → Int32) → (Nat → Int32) → (Nat → Int32) → (Nat → Int32) → (Nat → Int32) → (Nat → Int32) → (Nat → Int32) → (Nat → Int32) → (Nat → Int32) → (Nat → Int32) → (Nat → Int32) → (Nat → Int32) → (Nat → Int32) → (Nat → Int32) → (Nat → Int32) → Prop} {net k a b tw : Nat} {lev : Nat → Nat} (O : gw_Ly K X Y Z F yL lev m net k) (ha : a < net) (hb : b < a) (hk : 2 ≤ k) (htw : tw = max (lev a) (lev b)) (h : ∀ B A, gw_IB (gw_bt K X Y Z net) lev k net (gw_Pb a (b + 1)) B → J (nI B) (nI (b + 1)) (nI m) (nI s) (nI r) K X Y Z F H yA yO yS yR yL yN yD yT A yF yW yP) : ∀ d c g B A, c + d = b → d < g → gw_IB (gw_bt K X Y Z net) lev k net (gw_Pc a b c) B → wY_least_138 post J19 J (nI net) (nI k) (nI a) (nI b) (nI tw) g (nI B) (nI c) (nI m) (nI s) (nI r) K X Y Z F H yA yO yS yR yL yN yD yT A yF yW yP := by
  obtain ⟨hm, hW, hnet, hg, hk3, hL, hlv⟩ := O
  have la := hlv a ha
  have lb := hlv b (by omega)
  intro d
  induction d with
  | zero =>
    intro c g B A h1 h2 hB
    obtain ⟨g, rfl⟩ := gw_fz h2
    rw [wY_least_138]
    refine br_t (nI_le (by omega) (by omega)) (nm_r (nI_1 b) (h B A (gw_IB_more hB (fun x y z ht hq _ => Or.inl ?_))))
    have h3 := ht.1
    have h4 := ht.2.1
    unfold gw_Pb at hq
    unfold gw_Pc gw_Pb
    omega
  | succ d ih =>
    intro c g B A h1 h2 hB
    obtain ⟨g, rfl⟩ := gw_fz h2
    have hB99 := hB.1
    have cc : (nI c).toNatClampNeg = c := nI_clamp (by omega)
    have vc : vp_in (nI c) 32 := vp_in_nI (by omega) (by omega)
    have lc := hlv c (by omega)
    rw [wY_least_138]
    refine br_f (nI_ge (by omega) (by omega)) ?_
    rcases Nat.lt_or_ge 2 k with l | l
    · have hmx : gw_mx lev a b c = max tw (lev c) := by unfold gw_mx; rw [htw]
      have ht0 : gw_tr k net a b c := ⟨by omega, by omega, ha, fun q => by omega, fun q => by omega⟩
      have step : ∀ x y z, gw_Pc a b (c + 1) x y z → gw_Pc a b c x y z ∨ (x = a ∧ y = b ∧ z = c) := by
        intro x y z q
        unfold gw_Pc gw_Pb at q ⊢
        omega
      have keep : (gw_bt K X Y Z net (gw_S3 a b c) = true → B ≤ gw_mx lev a b c) → ∀ A', wY_least_138 post J19 J (nI net) (nI k) (nI a) (nI b) (nI tw) g (nI B) (nI (c + 1)) (nI m) (nI s) (nI r) K X Y Z F H yA yO yS yR yL yN yD yT A' yF yW yP := by
        intro hle A'
        refine ih (c + 1) g B A' (by omega) (by omega) (gw_IB_more hB (fun x y z ht hq hbt => ?_))
        rcases step x y z hq with q | ⟨q1, q2, q3⟩
        · exact Or.inl q
        · subst q1 q2 q3
          exact Or.inr (hle hbt)
      have go : ∀ th : Nat, th = gw_mx lev a b c → wY_least_174 post J19 J (wY_least_138 post J19 J (nI net) (nI k) (nI a) (nI b) (nI tw) g) (nI net) (nI k) (nI B) (nI a) (nI b) (nI tw) (nI c) (nI th) (nI m) (nI s) (nI r) K X Y Z F H yA yO yS yR yL yN yD yT A yF yW yP := by
        intro th hth
        unfold wY_least_174
        refine pk_le B th (fun q => nm_r (nI_1 c) (keep (fun _ => by omega) A)) (fun q => gy_btw (S := gw_S3 a b c) hm hW hnet hg (fun j hj => ?_) (fun z A' hz => br_c (fun q2 => nm_r (nI_1 c) (keep (fun hbt => absurd hbt ((gw_tv_0 hz).mp q2)) A')) (fun q2 => nm_r (nI_1 c) ?_)))
        · rw [gw_S3_t, nI_eq (by omega) (by omega), nI_eq (by omega) (by omega), nI_eq (by omega) (by omega)]
        · have hbt := Classical.byContradiction (fun n => q2 ((gw_tv_0 hz).mpr n))
          rw [hth]
          refine ih (c + 1) g _ A' (by omega) (by omega) (gw_IB_take hB ht0 hbt (by omega) (fun x y z ht hq => ?_))
          rcases step x y z hq with q | ⟨q1, q2, q3⟩
          · exact Or.inl q
          · subst q1 q2 q3
            exact Or.inr (Nat.le_refl _)
      rw [cc, hL c (by omega)]
      refine br_f (nI_ge (a := 2) l (by omega)) ⟨vc, pk_le tw (lev c) (fun q => ⟨vc, go (lev c) (by omega)⟩) (fun q => go tw (by omega))⟩
    · refine br_t (nI_le (b := 2) l (by decide)) (nm_r (nI_1 b) (h B A (gw_IB_more hB (fun x y z ht hq _ => Or.inl ?_))))
      have h3 := ht.1
      have h4 := ht.2.1
      have h5 := ht.2.2.2.2 (by omega)
      unfold gw_Pb at hq
      unfold gw_Pc gw_Pb
      omega
theorem gy_l62_l {post : Int32 → SY → Prop} {J : Int32 → Int32 → Int32 → Int32 → Int32 → (Nat → Int32) → (Nat → Int32) → (Nat → Int32) → (Nat → Int32) → (Nat → Int32) → (Nat → Int32) → (Nat → Int32) → (Nat → Int32) → (Nat → Int32) → (Nat → Int32) → (Nat → Int32) → (Nat → Int32) → (Nat → Int32) → (Nat → Int32) → (Nat → Int32) → (Nat → Int32) → (Nat → Int32) → (Nat → Int32) → Prop} {net k a : Nat} {lev : Nat → Nat} (O : gw_Ly K X Y Z F yL lev m net k) (ha : a < net) (h : ∀ B A, gw_IB (gw_bt K X Y Z net) lev k net (fun x y z => x < a + 1) B → J (nI B) (nI (a + 1)) (nI m) (nI s) (nI r) K X Y Z F H yA yO yS yR yL yN yD yT A yF yW yP) : ∀ d b g B A, b + d = a → d < g → gw_IB (gw_bt K X Y Z net) lev k net (gw_Pb a b) B → wY_least_62 post J (nI net) (nI k) (nI a) g (nI B) (nI b) (nI m) (nI s) (nI r) K X Y Z F H yA yO yS yR yL yN yD yT A yF yW yP := by
  have O' := O
  obtain ⟨hm, hW, hnet, hg, hk3, hL, hlv⟩ := O
  have la := hlv a ha
  have ca : (nI a).toNatClampNeg = a := nI_clamp (by omega)
  have va : vp_in (nI a) 32 := vp_in_nI (by omega) (by omega)
  intro d
  induction d with
  | zero =>
    intro b g B A h1 h2 hB
    obtain ⟨g, rfl⟩ := gw_fz h2
    rw [wY_least_62]
    refine br_t (nI_le (by omega) (by omega)) (nm_r (nI_1 a) (h B A (gw_IB_more hB (fun x y z ht hq _ => Or.inl ?_))))
    have h3 := ht.1
    have h4 := ht.2.1
    unfold gw_Pb
    omega
  | succ d ih =>
    intro b g B A h1 h2 hB
    obtain ⟨g, rfl⟩ := gw_fz h2
    have hB99 := hB.1
    have cb : (nI b).toNatClampNeg = b := nI_clamp (by omega)
    have vb : vp_in (nI b) 32 := vp_in_nI (by omega) (by omega)
    have lb := hlv b (by omega)
    rw [wY_least_62]
    refine br_f (nI_ge (by omega) (by omega)) ?_
    rcases Nat.lt_or_ge 1 k with l | l
    · have ht0 : gw_tr k net a b b := ⟨Nat.le_refl _, by omega, ha, fun q => by omega, fun _ => rfl⟩
      have hmx : gw_mx lev a b b = max (lev a) (lev b) := by unfold gw_mx; omega
      have hmx2 : gw_mx lev a a b = max (lev a) (lev b) := by unfold gw_mx; omega
      have step : ∀ x y z, gw_tr k net x y z → gw_Pc a b 0 x y z → gw_Pb a b x y z ∨ (x = a ∧ y = b ∧ z = b) ∨ (x = a ∧ y = a ∧ z = b) := by
        intro x y z _ q
        unfold gw_Pc gw_Pb at q
        unfold gw_Pb
        omega
      have go : ∀ tw : Nat, tw = max (lev a) (lev b) → wY_least_108 post J (wY_least_62 post J (nI net) (nI k) (nI a) g) (nI net) (nI k) (nI B) (nI a) (nI b) (nI tw) (nI m) (nI s) (nI r) K X Y Z F H yA yO yS yR yL yN yD yT A yF yW yP := by
        intro tw htw
        have deep : ∀ B', gw_IB (gw_bt K X Y Z net) lev k net (gw_Pc a b 0) B' → ∀ A', ∃ n138, wY_least_138 post J (wY_least_62 post J (nI net) (nI k) (nI a) g) (nI net) (nI k) (nI a) (nI b) (nI tw) n138 (nI B') 0 (nI m) (nI s) (nI r) K X Y Z F H yA yO yS yR yL yN yD yT A' yF yW yP := fun B' hB' A' =>
          ⟨b + 1, gy_l138_l O' ha (by omega) (by omega) htw (fun B2 A2 hB2 => ih (b + 1) g B2 A2 (by omega) (by omega) hB2) b 0 (b + 1) B' A' (by omega) (by omega) hB'⟩
        unfold wY_least_108
        refine pk_lt tw B (fun q => gy_btw (S := gw_S3 a b b) hm hW hnet hg (fun j hj => ?_) (fun z A' hz => br_c (fun q2 => deep B (gw_IB_more hB (fun x y z ht hq hbt => ?_)) A') (fun q2 => ?_))) (fun q => nm_r (nI_1 b) (ih (b + 1) g B A (by omega) (by omega) (gw_IB_more hB (fun x y z ht hq _ => ?_))))
        · rw [gw_S3_t, nI_eq (by omega) (by omega), nI_eq (by omega) (by omega)]
          have n1 := gw_m1 (show j < 2 ^ 31 by omega)
          constructor
          · rintro (q | q | q)
            · exact Or.inl q
            · exact Or.inr (Or.inl q)
            · exact Or.inr (Or.inl q)
          · rintro (q | q | q)
            · exact Or.inl q
            · exact Or.inr (Or.inl q)
            · exact absurd q n1
        · rcases step x y z ht hq with q3 | ⟨e1, e2, e3⟩ | ⟨e1, e2, e3⟩
          · exact Or.inl q3
          · subst e1 e2 e3
            exact absurd hbt ((gw_tv_0 hz).mp q2)
          · subst e1 e2 e3
            rw [gw_S3_2] at hbt
            exact absurd hbt ((gw_tv_0 hz).mp q2)
        · have hbt := Classical.byContradiction (fun n => q2 ((gw_tv_0 hz).mpr n))
          have hT := gw_IB_take (Q := gw_Pc a b 0) hB ht0 hbt (by omega) (fun x y z ht hq => by
            rcases step x y z ht hq with q3 | ⟨e1, e2, e3⟩ | ⟨e1, e2, e3⟩
            · exact Or.inl q3
            · subst e1 e2 e3
              exact Or.inr (Nat.le_refl _)
            · subst e1 e2 e3
              exact Or.inr (by omega))
          rw [hmx, ← htw] at hT
          exact deep tw hT A'
        · have h3 := ht.1
          have h4 := ht.2.1
          by_cases p : gw_Pb a b x y z
          · exact Or.inl p
          · right
            have : (x = a ∧ y = b) ∨ (x = a ∧ y = a ∧ z = b) := by
              unfold gw_Pb at hq p
              omega
            unfold gw_mx
            rcases this with ⟨e1, e2⟩ | ⟨e1, e2, e3⟩
            · rw [e1, e2]; omega
            · rw [e1, e2, e3]; omega
      rw [ca, cb, hL a ha, hL b (by omega)]
      refine br_f (nI_ge (a := 1) l (by omega)) ⟨va, vb, pk_le (lev a) (lev b) (fun q => ⟨vb, go (lev b) (by omega)⟩) (fun q => ⟨va, go (lev a) (by omega)⟩)⟩
    · refine br_t (nI_le (b := 1) l (by decide)) (nm_r (nI_1 a) (h B A (gw_IB_more hB (fun x y z ht hq _ => Or.inl ?_))))
      have h3 := ht.1
      have h4 := ht.2.1
      have h5 := ht.2.2.2.1 (by omega)
      have h6 := ht.2.2.2.2 (by omega)
      unfold gw_Pb
      omega
theorem gy_l19_l {post : Int32 → SY → Prop} {net k : Nat} {lev : Nat → Nat} (O : gw_Ly K X Y Z F yL lev m net k) (h : ∀ B A, gw_IB (gw_bt K X Y Z net) lev k net (fun _ _ _ => True) B → post (nI B) (nI m, nI s, nI r, K, X, Y, Z, F, H, yA, yO, yS, yR, yL, yN, yD, yT, A, yF, yW, yP)) : ∀ d a g B A, a + d = net → d < g → gw_IB (gw_bt K X Y Z net) lev k net (fun x y z => x < a) B → wY_least_19 post (nI net) (nI k) g (nI B) (nI a) (nI m) (nI s) (nI r) K X Y Z F H yA yO yS yR yL yN yD yT A yF yW yP := by
  have O' := O
  obtain ⟨hm, hW, hnet, hg, hk3, hL, hlv⟩ := O
  intro d
  induction d with
  | zero =>
    intro a g B A h1 h2 hB
    obtain ⟨g, rfl⟩ := gw_fz h2
    rw [wY_least_19]
    refine br_t (nI_le (by omega) (by omega)) (h B A (gw_IB_more hB (fun x y z ht _ _ => Or.inl ?_)))
    have := ht.2.2.1
    omega
  | succ d ih =>
    intro a g B A h1 h2 hB
    obtain ⟨g, rfl⟩ := gw_fz h2
    have hB99 := hB.1
    have ca : (nI a).toNatClampNeg = a := nI_clamp (by omega)
    have va : vp_in (nI a) 32 := vp_in_nI (by omega) (by omega)
    have la := hlv a (by omega)
    have ht0 : gw_tr k net a a a := ⟨Nat.le_refl _, Nat.le_refl _, by omega, fun _ => rfl, fun _ => rfl⟩
    have hmx : gw_mx lev a a a = lev a := by unfold gw_mx; omega
    have deep : ∀ B', gw_IB (gw_bt K X Y Z net) lev k net (gw_Pb a 0) B' → ∀ A', ∃ n62, wY_least_62 post (wY_least_19 post (nI net) (nI k) g) (nI net) (nI k) (nI a) n62 (nI B') 0 (nI m) (nI s) (nI r) K X Y Z F H yA yO yS yR yL yN yD yT A' yF yW yP := fun B' hB' A' =>
      ⟨a + 1, gy_l62_l O' (by omega) (fun B2 A2 hB2 => ih (a + 1) g B2 A2 (by omega) (by omega) hB2) a 0 (a + 1) B' A' (by omega) (by omega) hB'⟩
    have step : ∀ x y z, gw_Pb a 0 x y z → x < a ∨ (x = a ∧ y = a ∧ z = a) := by
      intro x y z q
      unfold gw_Pb at q
      omega
    rw [wY_least_19]
    dsimp only
    rw [ca, hL a (by omega)]
    refine br_f (nI_ge (by omega) (by omega)) ⟨va, pk_lt (lev a) B (fun q => gy_btw (S := gw_S3 a a a) hm hW hnet hg (fun j hj => ?_) (fun z A' hz => br_c (fun q2 => deep B (gw_IB_more hB (fun x y z ht hq hbt => ?_)) A') (fun q2 => ⟨va, nm_r (e' := nI (lev a)) (hL a (by omega)) ?_⟩))) (fun q => nm_r (nI_1 a) (ih (a + 1) g B A (by omega) (by omega) (gw_IB_more hB (fun x y z ht hq _ => ?_))))⟩
    · rw [gw_S3_t, nI_eq (by omega) (by omega)]
      have n1 := gw_m1 (show j < 2 ^ 31 by omega)
      constructor
      · rintro (q | q | q)
        · exact Or.inl q
        · exact Or.inl q
        · exact Or.inl q
      · rintro (q | q | q)
        · exact Or.inl q
        · exact absurd q n1
        · exact absurd q n1
    · rcases step x y z hq with q3 | ⟨e1, e2, e3⟩
      · exact Or.inl q3
      · subst e1 e2 e3
        exact absurd hbt ((gw_tv_0 hz).mp q2)
    · have hbt := Classical.byContradiction (fun n => q2 ((gw_tv_0 hz).mpr n))
      have hT := gw_IB_take (Q := gw_Pb a 0) hB ht0 hbt (by omega) (fun x y z ht hq => by
        rcases step x y z hq with q3 | ⟨e1, e2, e3⟩
        · exact Or.inl q3
        · subst e1 e2 e3
          exact Or.inr (Nat.le_refl _))
      rw [hmx] at hT
      exact deep (lev a) hT A'
    · rcases Nat.lt_or_ge x a with l | l
      · exact Or.inl l
      · right
        have e1 : x = a := by omega
        rw [e1]
        unfold gw_mx
        omega
theorem gy_least {post : Int32 → SY → Prop} {net k : Nat} {lev : Nat → Nat} (O : gw_Ly K X Y Z F yL lev m net k) (h1 : gw_bt K X Y Z net (fun _ => false) = true → ∀ A, post (-1) (nI m, nI s, nI r, K, X, Y, Z, F, H, yA, yO, yS, yR, yL, yN, yD, yT, A, yF, yW, yP)) (h2 : gw_bt K X Y Z net (fun _ => false) = false → ∀ B A, gw_IB (gw_bt K X Y Z net) lev k net (fun _ _ _ => True) B → post (nI B) (nI m, nI s, nI r, K, X, Y, Z, F, H, yA, yO, yS, yR, yL, yN, yD, yT, A, yF, yW, yP)) : wpY_least post (nI m, nI s, nI r, K, X, Y, Z, F, H, yA, yO, yS, yR, yL, yN, yD, yT, yM, yF, yW, yP) (nI net) (nI k) := by
  have O' := O
  obtain ⟨hm, hW, hnet, hg, hk3, hL, hlv⟩ := O
  unfold wpY_least
  dsimp only
  refine gy_btw (S := fun _ => false) hm hW hnet hg (fun j hj => ⟨fun q => absurd q Bool.false_ne_true, fun q => ?_⟩) (fun z A hz => br_c (fun q => ⟨net + 1, ?_⟩) (fun q => h1 (Classical.byContradiction (fun n => q ((gw_tv_0 hz).mpr n))) A))
  · have n1 := gw_m1 (show j < 2 ^ 31 by omega)
    rcases q with q | q | q <;> exact absurd q n1
  · have hbf : gw_bt K X Y Z net (fun _ => false) = false := by
      cases hb : gw_bt K X Y Z net (fun _ => false) with
      | false => rfl
      | true => exact absurd hb ((gw_tv_0 hz).mp q)
    exact gy_l19_l O' (h2 hbf) net 0 (net + 1) 99 A (by omega) (by omega) (gw_IB_0 (fun a b c _ => Nat.not_lt_zero _))
theorem gy_lv_l {post : Int32 → SY → Prop} {net k : Nat} (hm : m ≤ 32) (hW : gw_W K X Y Z F m) (hnet : net < m) (hk : k ≤ 3) (h : ∀ A B lev, gw_LV K X Y Z k lev (net + 1) → post (gw_en (lev net)) (nI m, nI s, nI r, K, X, Y, Z, F, H, yA, yO, yS, yR, B, yN, yD, yT, A, yF, yW, yP)) : ∀ d n g A B lev, n + d = net + 1 → d < g → (∀ j, j < n → B j = nI (lev j)) → gw_LV K X Y Z k lev n → wY_level_21 post (nI net) (nI k) g (nI n) (nI m) (nI s) (nI r) K X Y Z F H yA yO yS yR B yN yD yT A yF yW yP := by
  intro d
  induction d with
  | zero =>
    intro n g A B lev h1 h2 hB hl
    obtain ⟨g, rfl⟩ := gw_fz h2
    have cn : (nI net).toNatClampNeg = net := nI_clamp (by omega)
    have vn : vp_in (nI net) 32 := vp_in_nI (by omega) (by omega)
    rw [show n = net + 1 by omega] at hl
    have hb := gw_LV_b (fun j hj => gw_gate0 hW j (by omega)) hl net (by omega)
    have g := h A B lev hl
    rw [wY_level_21]
    dsimp only
    rw [cn, hB net (by omega)]
    refine br_t (nI_lt (by omega) (by omega)) ⟨vn, ?_⟩
    by_cases e : lev net = 99
    · have e2 : gw_en (lev net) = -1 := if_pos e
      rw [e2] at g
      exact br_t (by rw [e]; rfl) g
    · have e2 : gw_en (lev net) = nI (lev net) := if_neg e
      rw [e2] at g
      exact br_f (fun q => e ((nI_eq (b := 99) (by omega) (by decide)).mp q)) ⟨vn, g⟩
  | succ d ih =>
    intro n g A B lev h1 h2 hB hl
    obtain ⟨g, rfl⟩ := gw_fz h2
    have cn : (nI n).toNatClampNeg = n := nI_clamp (by omega)
    have vn : vp_in (nI n) 32 := vp_in_nI (by omega) (by omega)
    have hb := gw_LV_b (fun j hj => gw_gate0 hW j (by omega)) hl
    have hk7 := gw_fit_k (hW n (by omega)).1
    have next : ∀ (w : Nat) (A' : Nat → Int32), (((K n = 0 ∨ K n = 1 ∨ K n = 2) → w = 0) ∧ (¬ (K n = 0 ∨ K n = 1 ∨ K n = 2) → (gw_bt K X Y Z n (fun _ => false) = true → w = 1) ∧ (gw_bt K X Y Z n (fun _ => false) = false → ∃ B, gw_IB (gw_bt K X Y Z n) lev k n (fun _ _ _ => True) B ∧ w = if B = 99 then 99 else B + 1))) → wY_level_21 post (nI net) (nI k) g (nI (n + 1)) (nI m) (nI s) (nI r) K X Y Z F H yA yO yS yR (upd B n (nI w)) yN yD yT A' yF yW yP := by
      intro w A' hw
      refine ih (n + 1) g A' _ (fun j => if j = n then w else lev j) (by omega) (by omega) (fun j hj => ?_) (gw_LV_s hl hw.1 hw.2)
      by_cases e : j = n
      · subst e
        rw [pk_us, if_pos rfl]
      · rw [pk_un e, if_neg e]
        exact hB j (by omega)
    rw [wY_level_21]
    dsimp only
    rw [cn]
    refine br_f (nI_nlt (by omega) (by omega)) ⟨vn, br_c (fun q => ?_) (fun q => ⟨vn, nm_r (e' := upd B n (nI 0)) rfl (nm_r (nI_1 n) (next 0 A ⟨fun _ => rfl, fun q2 => absurd ?_ q2⟩))⟩)⟩
    · have ng : ¬ (K n = 0 ∨ K n = 1 ∨ K n = 2) := by
        rintro (z | z | z)
        · rw [z] at q; exact absurd q (by decide)
        · rw [z] at q; exact absurd q (by decide)
        · rw [z] at q; exact absurd q (by decide)
      have hs : gw_sk K n = false := gw_sk_f.mpr (fun z => ng (by
        rcases z with z | z
        · exact Or.inl z
        · exact Or.inr (Or.inl z)))
      refine gy_least (lev := lev) ⟨hm, hW, by omega, hs, hk, hB, fun j hj => by have := hb j hj; omega⟩ (fun hbt A' => ?_) (fun hbt C A' hC => ?_)
      · refine br_f (by decide) (br_f (by decide) ⟨vn, nm_r (e' := upd B n (nI 1)) rfl (nm_r (nI_1 n) (next 1 A' ⟨fun q2 => absurd q2 ng, fun _ => ⟨fun _ => rfl, fun q2 => by rw [hbt] at q2; exact absurd q2.symm Bool.false_ne_true⟩⟩))⟩)
      · have hC2 := gw_IB_lt (n := n) hC (fun j hj => by have := hb j hj; omega)
        have fin : ∀ w : Nat, w = (if C = 99 then 99 else C + 1) → wY_level_21 post (nI net) (nI k) g (nI (n + 1)) (nI m) (nI s) (nI r) K X Y Z F H yA yO yS yR (upd B n (nI w)) yN yD yT A' yF yW yP := fun w hw => next w A' ⟨fun q2 => absurd q2 ng, fun _ => ⟨fun q2 => by rw [hbt] at q2; exact absurd q2 Bool.false_ne_true, fun _ => ⟨C, hC, hw⟩⟩⟩
        by_cases e : C = 99
        · exact br_t (by rw [e]; rfl) ⟨vn, nm_r (e' := upd B n (nI 99)) rfl (nm_r (nI_1 n) (fin 99 (by rw [if_pos e])))⟩
        · exact br_f (fun q2 => e ((nI_eq (b := 99) (by omega) (by decide)).mp q2)) (br_t (nI_pos' (by omega)) ⟨vn, nm_r (e' := upd B n (nI (C + 1))) (by rw [nI_1]) (nm_r (nI_1 n) (fin (C + 1) (by rw [if_neg e])))⟩)
    · have hlt := Int32.not_le.mp q
      have h7 : K n ≤ 7 := hk7.2
      rcases gw_k8 hk7.1 h7 with z | z | z | z | z | z | z | z
      · exact Or.inl z
      · exact Or.inr (Or.inl z)
      · exact Or.inr (Or.inr z)
      · rw [z] at q; exact absurd (by decide) q
      · rw [z] at q; exact absurd (by decide) q
      · rw [z] at q; exact absurd (by decide) q
      · rw [z] at q; exact absurd (by decide) q
      · rw [z] at q; exact absurd (by decide) q
theorem gy_level {post : Int32 → SY → Prop} {net k : Nat} (hm : m ≤ 32) (hW : gw_W K X Y Z F m) (hnet : net < m) (hk1 : 1 ≤ k) (hk : k ≤ 3) (h : ∀ A B lev, gw_LV K X Y Z k lev (net + 1) → post (gw_en (lev net)) (nI m, nI s, nI r, K, X, Y, Z, F, H, yA, yO, yS, yR, B, yN, yD, yT, A, yF, yW, yP)) : wpY_level post (nI m, nI s, nI r, K, X, Y, Z, F, H, yA, yO, yS, yR, yL, yN, yD, yT, yM, yF, yW, yP) (nI net) (nI k) := by
  unfold wpY_level
  dsimp only
  refine gy_net hm hnet (br_f gw_n10 (gy_in (fun _ _ => br_f gw_n10 ⟨net + 2, ?_⟩) (fun q => absurd ⟨nI_le (a := 1) hk1 (by omega), nI_le (b := 3) hk (by decide)⟩ q)))
  exact gy_lv_l hm hW hnet hk h (net + 1) 0 (net + 2) yM yL (fun _ => 0) (by omega) (by omega) (fun j hj => absurd hj (Nat.not_lt_zero _)) (fun j hj => absurd hj (Nat.not_lt_zero _))
end
