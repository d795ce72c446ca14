/-! the reference's workOut, assign, present -/
/-- what stands in at when the nets below n are worked out -/
def gw_Wk (K X Y Z : Nat → Int32) (sv : Nat → Bool) (f : Nat) (o : Bool) (m n : Nat) (A : Nat → Int32) : Prop :=
  (∀ j, j < n → A j = gw_b (gw_ev K X Y Z sv f o n j)) ∧ ∀ j, n ≤ j → j < m → gw_sk K j = true → A j = gw_b (sv j)
theorem gw_Wk_s {K X Y Z : Nat → Int32} {sv : Nat → Bool} {f : Nat} {o : Bool} {m n : Nat} {A A' : Nat → Int32} (h : gw_Wk K X Y Z sv f o m n A) (h1 : ∀ j, j ≠ n → A' j = A j) (h2 : A' n = gw_b (gw_ev K X Y Z sv f o (n + 1) n)) : gw_Wk K X Y Z sv f o m (n + 1) A' := by
  refine ⟨fun j hj => ?_, fun j h3 h4 hs => ?_⟩
  · by_cases e : j = n
    · subst e; exact h2
    · rw [h1 j e, gw_ev_ne e]
      exact h.1 j (by omega)
  · rw [h1 j (by omega)]
    exact h.2 j (by omega) h4 hs
section
variable {m s r : Nat} {K X Y Z F H yA yO yS yR yL yN yD yT yM yF yW yP : Nat → Int32}
theorem gy_work_l {post : SY → Prop} {sv : Nat → Bool} {f : Nat} {o : Bool} {fi oi : Int32} (hm : m ≤ 32) (hW : gw_W K X Y Z F m) (hf : ∀ n, n < m → (nI n = fi ↔ n = f)) (ho : f < m → oi = gw_b o) (h : ∀ A, (∀ j, j < m → A j = gw_b (gw_ev K X Y Z sv f o m j)) → post (nI m, nI s, nI r, K, X, Y, Z, F, H, A, yO, yS, yR, yL, yN, yD, yT, yM, yF, yW, yP)) : ∀ d n g A, n + d = m → d < g → gw_Wk K X Y Z sv f o m n A → wY_workOut_2 post fi oi (nI m) (nI s) (nI r) g (nI n) K X Y Z F H A yO yS yR yL yN yD yT yM yF yW yP := by
  intro d
  induction d with
  | zero =>
    intro n g A h1 h2 hA
    obtain ⟨g, rfl⟩ := gw_fz h2
    have e : n = m := by omega
    rw [wY_workOut_2]
    refine br_t (nI_le (by omega) (by omega)) (h A ?_)
    rw [← e]
    exact hA.1
  | succ d ih =>
    intro n g A h1 h2 hA
    obtain ⟨g, rfl⟩ := gw_fz h2
    have hn : n < m := by omega
    have cn : (nI n).toNatClampNeg = n := nI_clamp (by omega)
    have vn : vp_in (nI n) 32 := vp_in_nI (by omega) (by omega)
    have key : ∀ (b : Bool) (A' : Nat → Int32), (∀ j, j ≠ n → A' j = A j) → A' n = gw_b b → (n ≠ f → b = gw_ev K X Y Z sv f o (n + 1) n) → wY_workOut_262 post (wY_workOut_2 post fi oi (nI m) (nI s) (nI r) g) fi oi (nI n) (nI m) (nI s) (nI r) K X Y Z F H A' yO yS yR yL yN yD yT yM yF yW yP := by
      intro b A' hne hb hv
      by_cases e : n = f
      · refine br_t ((hf n hn).mpr e) ⟨vn, nm_r (e' := upd A' n (gw_b o)) (by rw [cn, ho (by omega), gw_narb]) (nm_r (nI_1 n) (ih (n + 1) g _ (by omega) (by omega) (gw_Wk_s hA (fun j hj => ?_) ?_)))⟩
        · rw [pk_un hj]; exact hne j hj
        · rw [pk_us, gw_ev_at, if_pos e]
      · refine br_f (fun q => e ((hf n hn).mp q)) (nm_r (nI_1 n) (ih (n + 1) g _ (by omega) (by omega) (gw_Wk_s hA hne ?_)))
        rw [hb, hv e]
    have body : ∀ b : Bool, (n ≠ f → b = gw_ev K X Y Z sv f o (n + 1) n) → (vp_in (nI n) 32 ∧ ∀ a' : Nat → Int32, a' = upd A (nI n).toNatClampNeg (vp_nar .boolean (gw_b b)) → wY_workOut_262 post (wY_workOut_2 post fi oi (nI m) (nI s) (nI r) g) fi oi (nI n) (nI m) (nI s) (nI r) K X Y Z F H a' yO yS yR yL yN yD yT yM yF yW yP) := by
      intro b hb
      exact ⟨vn, nm_r (e' := upd A n (gw_b b)) (by rw [cn, gw_narb]) (key b _ (fun j hj => pk_un hj) pk_us hb)⟩
    have gate : gw_sk K n = false → n ≠ f → gw_ev K X Y Z sv f o (n + 1) n = gw_gate K X Y Z (gw_ev K X Y Z sv f o n) n := by
      intro hs e
      rw [gw_ev_at, if_neg e, if_neg (by rw [hs]; exact Bool.false_ne_true)]
    rw [wY_workOut_2]
    refine br_f (nI_ge (by omega) (by omega)) ⟨vn, ?_⟩
    unfold wY_workOut_38 wY_workOut_39 wY_workOut_69 wY_workOut_70 wY_workOut_120 wY_workOut_185 wY_workOut_205
    rw [cn]
    rcases (hW n hn).1 with e | e | ⟨e, hx⟩ | ⟨e, jx, hjx, ex⟩ | ⟨e, ⟨jx, hjx, ex⟩, ⟨jy, hjy, ey⟩⟩ | ⟨e, ⟨jx, hjx, ex⟩, ⟨jy, hjy, ey⟩, ⟨jz, hjz, ez⟩⟩
    · have hs : gw_sk K n = true := gw_sk_t.mpr (Or.inl e)
      rw [e]
      refine br_t (by decide) ⟨vn, br_t (by decide) ⟨vn, nm_e (br_f (by decide) (br_f (by decide) (br_t rfl (key (sv n) A (fun _ _ => rfl) (hA.2 n (Nat.le_refl _) hn hs) (fun q => ?_)))))⟩⟩
      rw [gw_ev_at, if_neg q, if_pos hs]
    · have hs : gw_sk K n = true := gw_sk_t.mpr (Or.inr e)
      rw [e]
      refine br_t (by decide) ⟨vn, br_t (by decide) ⟨vn, nm_e (br_f (by decide) (br_f (by decide) (br_f (by decide) (br_t rfl (key (sv n) A (fun _ _ => rfl) (hA.2 n (Nat.le_refl _) hn hs) (fun q => ?_))))))⟩⟩
      rw [gw_ev_at, if_neg q, if_pos hs]
    · have hs : gw_sk K n = false := gw_sk_f.mpr (by rw [e]; decide)
      have gg : gw_gate K X Y Z (gw_ev K X Y Z sv f o n) n = decide (X n = 1) := by unfold gw_gate; rw [if_pos e]
      rw [e]
      refine br_t (by decide) ⟨vn, br_t (by decide) ⟨vn, nm_e (br_f (by decide) (br_f (by decide) (br_f (by decide) (br_f (by decide) (br_t rfl ⟨vn, br_c (fun q => body true (fun q2 => ?_)) (fun q => body false (fun q2 => ?_))⟩)))))⟩⟩
      · rw [gate hs q2, gg, decide_eq_true q]
      · rw [gate hs q2, gg, decide_eq_false q]
    · have hs : gw_sk K n = false := gw_sk_f.mpr (by rw [e]; decide)
      have cx : (nI jx).toNatClampNeg = jx := nI_clamp (by omega)
      have vx : vp_in (nI jx) 32 := vp_in_nI (by omega) (by omega)
      have gg : gw_gate K X Y Z (gw_ev K X Y Z sv f o n) n = !(gw_ev K X Y Z sv f o n jx) := by unfold gw_gate; rw [e, ex, cx]; rfl
      rw [e, ex, cx, hA.1 jx hjx]
      cases bx : gw_ev K X Y Z sv f o n jx with
      | true =>
        refine br_f (by decide) ⟨vn, vx, br_f (by decide) ⟨vn, br_t (by decide) ⟨vn, nm_e (br_f (by decide) (br_f (by decide) (br_f (by decide) (br_f (by decide) (br_f (by decide) (br_t rfl (br_f (by decide) (body false (fun q2 => ?_)))))))))⟩⟩⟩
        rw [gate hs q2, gg, bx]; rfl
      | false =>
        refine br_f (by decide) ⟨vn, vx, br_t (by decide) ⟨vn, br_t (by decide) ⟨vn, nm_e (br_f (by decide) (br_f (by decide) (br_f (by decide) (br_f (by decide) (br_f (by decide) (br_t rfl (br_t (by decide) (body true (fun q2 => ?_)))))))))⟩⟩⟩
        rw [gate hs q2, gg, bx]; rfl
    · have hs : gw_sk K n = false := gw_sk_f.mpr (by rcases e with e | e | e <;> rw [e] <;> decide)
      have cx : (nI jx).toNatClampNeg = jx := nI_clamp (by omega)
      have vx : vp_in (nI jx) 32 := vp_in_nI (by omega) (by omega)
      have cy : (nI jy).toNatClampNeg = jy := nI_clamp (by omega)
      have vy : vp_in (nI jy) 32 := vp_in_nI (by omega) (by omega)
      rw [ex, ey, cx, cy, hA.1 jx hjx, hA.1 jy hjy]
      rcases e with e | e | e
      · have gg : gw_gate K X Y Z (gw_ev K X Y Z sv f o n) n = (gw_ev K X Y Z sv f o n jx && gw_ev K X Y Z sv f o n jy) := by unfold gw_gate; rw [e, ex, ey, cx, cy]; rfl
        rw [e]
        cases bx : gw_ev K X Y Z sv f o n jx with
        | true =>
          cases b2 : gw_ev K X Y Z sv f o n jy with
          | true =>
            refine br_f (by decide) ⟨vn, vx, br_f (by decide) ⟨vn, br_f (by decide) ⟨vn, vy, br_f (by decide) ⟨vn, nm_e (br_f (by decide) (br_f (by decide) (br_f (by decide) (br_f (by decide) (br_f (by decide) (br_f (by decide) (br_t rfl (br_f (by decide) (br_f (by decide) (body true (fun q2 => ?_)))))))))))⟩⟩⟩⟩
            rw [gate hs q2, gg, bx, b2]; rfl
          | false =>
            refine br_f (by decide) ⟨vn, vx, br_f (by decide) ⟨vn, br_f (by decide) ⟨vn, vy, br_t (by decide) ⟨vn, nm_e (br_f (by decide) (br_f (by decide) (br_f (by decide) (br_f (by decide) (br_f (by decide) (br_f (by decide) (br_t rfl (br_f (by decide) (br_t (by decide) (body false (fun q2 => ?_)))))))))))⟩⟩⟩⟩
            rw [gate hs q2, gg, bx, b2]; rfl
        | false =>
          cases b2 : gw_ev K X Y Z sv f o n jy with
          | true =>
            refine br_f (by decide) ⟨vn, vx, br_t (by decide) ⟨vn, br_f (by decide) ⟨vn, vy, br_f (by decide) ⟨vn, nm_e (br_f (by decide) (br_f (by decide) (br_f (by decide) (br_f (by decide) (br_f (by decide) (br_f (by decide) (br_t rfl (br_t (by decide) (body false (fun q2 => ?_))))))))))⟩⟩⟩⟩
            rw [gate hs q2, gg, bx, b2]; rfl
          | false =>
            refine br_f (by decide) ⟨vn, vx, br_t (by decide) ⟨vn, br_f (by decide) ⟨vn, vy, br_t (by decide) ⟨vn, nm_e (br_f (by decide) (br_f (by decide) (br_f (by decide) (br_f (by decide) (br_f (by decide) (br_f (by decide) (br_t rfl (br_t (by decide) (body false (fun q2 => ?_))))))))))⟩⟩⟩⟩
            rw [gate hs q2, gg, bx, b2]; rfl
      · have gg : gw_gate K X Y Z (gw_ev K X Y Z sv f o n) n = (gw_ev K X Y Z sv f o n jx || gw_ev K X Y Z sv f o n jy) := by unfold gw_gate; rw [e, ex, ey, cx, cy]; rfl
        rw [e]
        cases bx : gw_ev K X Y Z sv f o n jx with
        | true =>
          cases b2 : gw_ev K X Y Z sv f o n jy with
          | true =>
            refine br_f (by decide) ⟨vn, vx, br_f (by decide) ⟨vn, br_f (by decide) ⟨vn, vy, br_f (by decide) ⟨vn, nm_e (br_f (by decide) (br_f (by decide) (br_f (by decide) (br_f (by decide) (br_f (by decide) (br_f (by decide) (br_f (by decide) (br_t rfl (br_f (by decide) (body true (fun q2 => ?_)))))))))))⟩⟩⟩⟩
            rw [gate hs q2, gg, bx, b2]; rfl
          | false =>
            refine br_f (by decide) ⟨vn, vx, br_f (by decide) ⟨vn, br_f (by decide) ⟨vn, vy, br_t (by decide) ⟨vn, nm_e (br_f (by decide) (br_f (by decide) (br_f (by decide) (br_f (by decide) (br_f (by decide) (br_f (by decide) (br_f (by decide) (br_t rfl (br_f (by decide) (body true (fun q2 => ?_)))))))))))⟩⟩⟩⟩
            rw [gate hs q2, gg, bx, b2]; rfl
        | false =>
          cases b2 : gw_ev K X Y Z sv f o n jy with
          | true =>
            refine br_f (by decide) ⟨vn, vx, br_t (by decide) ⟨vn, br_f (by decide) ⟨vn, vy, br_f (by decide) ⟨vn, nm_e (br_f (by decide) (br_f (by decide) (br_f (by decide) (br_f (by decide) (br_f (by decide) (br_f (by decide) (br_f (by decide) (br_t rfl (br_t (by decide) (br_f (by decide) (body true (fun q2 => ?_))))))))))))⟩⟩⟩⟩
            rw [gate hs q2, gg, bx, b2]; rfl
          | false =>
            refine br_f (by decide) ⟨vn, vx, br_t (by decide) ⟨vn, br_f (by decide) ⟨vn, vy, br_t (by decide) ⟨vn, nm_e (br_f (by decide) (br_f (by decide) (br_f (by decide) (br_f (by decide) (br_f (by decide) (br_f (by decide) (br_f (by decide) (br_t rfl (br_t (by decide) (br_t (by decide) (body false (fun q2 => ?_))))))))))))⟩⟩⟩⟩
            rw [gate hs q2, gg, bx, b2]; rfl
      · have gg : gw_gate K X Y Z (gw_ev K X Y Z sv f o n) n = (gw_ev K X Y Z sv f o n jx ^^ gw_ev K X Y Z sv f o n jy) := by unfold gw_gate; rw [e, ex, ey, cx, cy]; rfl
        rw [e]
        cases bx : gw_ev K X Y Z sv f o n jx with
        | true =>
          cases b2 : gw_ev K X Y Z sv f o n jy with
          | true =>
            refine br_f (by decide) ⟨vn, vx, br_f (by decide) ⟨vn, br_f (by decide) ⟨vn, vy, br_f (by decide) ⟨vn, nm_e (br_f (by decide) (br_f (by decide) (br_f (by decide) (br_f (by decide) (br_f (by decide) (br_f (by decide) (br_f (by decide) (br_f (by decide) (br_t rfl (br_t rfl (body false (fun q2 => ?_))))))))))))⟩⟩⟩⟩
            rw [gate hs q2, gg, bx, b2]; rfl
          | false =>
            refine br_f (by decide) ⟨vn, vx, br_f (by decide) ⟨vn, br_f (by decide) ⟨vn, vy, br_t (by decide) ⟨vn, nm_e (br_f (by decide) (br_f (by decide) (br_f (by decide) (br_f (by decide) (br_f (by decide) (br_f (by decide) (br_f (by decide) (br_f (by decide) (br_t rfl (br_f (by decide) (body true (fun q2 => ?_))))))))))))⟩⟩⟩⟩
            rw [gate hs q2, gg, bx, b2]; rfl
        | false =>
          cases b2 : gw_ev K X Y Z sv f o n jy with
          | true =>
            refine br_f (by decide) ⟨vn, vx, br_t (by decide) ⟨vn, br_f (by decide) ⟨vn, vy, br_f (by decide) ⟨vn, nm_e (br_f (by decide) (br_f (by decide) (br_f (by decide) (br_f (by decide) (br_f (by decide) (br_f (by decide) (br_f (by decide) (br_f (by decide) (br_t rfl (br_f (by decide) (body true (fun q2 => ?_))))))))))))⟩⟩⟩⟩
            rw [gate hs q2, gg, bx, b2]; rfl
          | false =>
            refine br_f (by decide) ⟨vn, vx, br_t (by decide) ⟨vn, br_f (by decide) ⟨vn, vy, br_t (by decide) ⟨vn, nm_e (br_f (by decide) (br_f (by decide) (br_f (by decide) (br_f (by decide) (br_f (by decide) (br_f (by decide) (br_f (by decide) (br_f (by decide) (br_t rfl (br_t rfl (body false (fun q2 => ?_))))))))))))⟩⟩⟩⟩
            rw [gate hs q2, gg, bx, b2]; rfl
    · have hs : gw_sk K n = false := gw_sk_f.mpr (by rw [e]; decide)
      have cx : (nI jx).toNatClampNeg = jx := nI_clamp (by omega)
      have vx : vp_in (nI jx) 32 := vp_in_nI (by omega) (by omega)
      have cy : (nI jy).toNatClampNeg = jy := nI_clamp (by omega)
      have vy : vp_in (nI jy) 32 := vp_in_nI (by omega) (by omega)
      have cz : (nI jz).toNatClampNeg = jz := nI_clamp (by omega)
      have vz : vp_in (nI jz) 32 := vp_in_nI (by omega) (by omega)
      have gg : gw_gate K X Y Z (gw_ev K X Y Z sv f o n) n = if gw_ev K X Y Z sv f o n jx = true then gw_ev K X Y Z sv f o n jy else gw_ev K X Y Z sv f o n jz := by unfold gw_gate; rw [e, ex, ey, ez, cx, cy, cz]; rfl
      rw [e, ex, ey, ez, cx, cy, cz, hA.1 jx hjx, hA.1 jy hjy, hA.1 jz hjz]
      cases bx : gw_ev K X Y Z sv f o n jx with
      | true =>
        rw [if_pos bx] at gg
        cases b2 : gw_ev K X Y Z sv f o n jy with
        | true =>
          refine br_f (by decide) ⟨vn, vx, br_f (by decide) ⟨vn, br_f (by decide) ⟨vn, vy, br_f (by decide) ⟨vn, nm_e (br_f (by decide) (br_t (by decide) (br_f (by decide) (body true (fun q2 => ?_)))))⟩⟩⟩⟩
          rw [gate hs q2, gg, b2]
        | false =>
          refine br_f (by decide) ⟨vn, vx, br_f (by decide) ⟨vn, br_f (by decide) ⟨vn, vy, br_t (by decide) ⟨vn, nm_e (br_f (by decide) (br_t (by decide) (br_f (by decide) (body false (fun q2 => ?_)))))⟩⟩⟩⟩
          rw [gate hs q2, gg, b2]
      | false =>
        rw [if_neg (by rw [bx]; exact Bool.false_ne_true)] at gg
        cases b2 : gw_ev K X Y Z sv f o n jy with
        | true =>
          refine br_f (by decide) ⟨vn, vx, br_t (by decide) ⟨vn, br_f (by decide) ⟨vn, vy, br_f (by decide) ⟨vn, nm_e (br_f (by decide) (br_t (by decide) (br_t (by decide) ⟨vn, vz, body _ (fun q2 => ?_)⟩)))⟩⟩⟩⟩
          rw [gate hs q2, gg]
        | false =>
          refine br_f (by decide) ⟨vn, vx, br_t (by decide) ⟨vn, br_f (by decide) ⟨vn, vy, br_t (by decide) ⟨vn, nm_e (br_f (by decide) (br_t (by decide) (br_t (by decide) ⟨vn, vz, body _ (fun q2 => ?_)⟩)))⟩⟩⟩⟩
          rw [gate hs q2, gg]
theorem gy_work {post : SY → Prop} {sv : Nat → Bool} {f : Nat} {o : Bool} {fi oi : Int32} (hm : m ≤ 32) (hW : gw_W K X Y Z F m) (hf : ∀ n, n < m → (nI n = fi ↔ n = f)) (ho : f < m → oi = gw_b o) (hs : ∀ j, j < m → gw_sk K j = true → yA j = gw_b (sv j)) (h : ∀ A, (∀ j, j < m → A j = gw_b (gw_ev K X Y Z sv f o m j)) → post (nI m, nI s, nI r, K, X, Y, Z, F, H, A, yO, yS, yR, yL, yN, yD, yT, yM, yF, yW, yP)) : wpY_workOut post (nI m, nI s, nI r, K, X, Y, Z, F, H, yA, yO, yS, yR, yL, yN, yD, yT, yM, yF, yW, yP) fi oi :=
  ⟨m + 1, gy_work_l hm hW hf ho h m 0 (m + 1) yA (by omega) (by omega) ⟨fun j hj => absurd hj (Nat.not_lt_zero _), fun j _ hj hk => hs j hj hk⟩⟩
theorem gy_work0 {post : SY → Prop} {sv : Nat → Bool} (hm : m ≤ 32) (hW : gw_W K X Y Z F m) (hs : ∀ j, j < m → gw_sk K j = true → yA j = gw_b (sv j)) (h : ∀ A, (∀ j, j < m → A j = gw_b (gw_v K X Y Z m sv j)) → post (nI m, nI s, nI r, K, X, Y, Z, F, H, A, yO, yS, yR, yL, yN, yD, yT, yM, yF, yW, yP)) : wpY_workOut post (nI m, nI s, nI r, K, X, Y, Z, F, H, yA, yO, yS, yR, yL, yN, yD, yT, yM, yF, yW, yP) (-1) 0 :=
  gy_work (f := 32) (o := false) hm hW (fun n hn => ⟨fun e => absurd e (gw_m1 (by omega)), fun e => absurd e (by omega)⟩) (fun e => absurd e (by omega)) hs h
theorem gy_assign_l {post : SY → Prop} {a : Nat} (ha : a < 2 ^ 31) (hm : m ≤ 32) (hW : gw_W K X Y Z F m) (hs : s = gw_cnt (gw_sk K) m) (h10 : s ≤ 10) (hE : gw_En (gw_sk K) yS m) (h : ∀ A, (∀ j, j < m → A j = gw_b (gw_v K X Y Z m (gw_sa K a) j)) → post (nI m, nI s, nI r, K, X, Y, Z, F, H, A, yO, yS, yR, yL, yN, yD, yT, yM, yF, yW, yP)) : ∀ d i g A, i + d = s → d < g → (∀ n, n < m → gw_sk K n = true → gw_cnt (gw_sk K) n < i → A n = gw_b (gw_sa K a n)) → wY_assign_2 post (nI a) (nI m) (nI s) (nI r) g (nI i) K X Y Z F H A yO yS yR yL yN yD yT yM yF yW yP := by
  intro d
  induction d with
  | zero =>
    intro i g A h1 h2 hA
    obtain ⟨g, rfl⟩ := gw_fz h2
    rw [wY_assign_2]
    refine br_t (nI_le (by omega) (by omega)) (gy_work0 hm hW (fun j hj hk => hA j hj hk ?_) h)
    have := gw_cnt_lt hk hj
    omega
  | succ d ih =>
    intro i g A h1 h2 hA
    obtain ⟨g, rfl⟩ := gw_fz h2
    have ci : (nI i).toNatClampNeg = i := nI_clamp (by omega)
    have vi : vp_in (nI i) 10 := vp_in_nI (by omega) (by omega)
    obtain ⟨n, hn, hq, hc, e⟩ := gw_En_at hE (show i < gw_cnt (gw_sk K) m by omega)
    have cn : (nI n).toNatClampNeg = n := nI_clamp (by omega)
    have vn : vp_in (nI n) 32 := vp_in_nI (by omega) (by omega)
    have next : ∀ b : Bool, b = a.testBit i → wY_assign_2 post (nI a) (nI m) (nI s) (nI r) g (nI (i + 1)) K X Y Z F H (upd A n (gw_b b)) yO yS yR yL yN yD yT yM yF yW yP := by
      intro b hb
      refine ih (i + 1) g _ (by omega) (by omega) (fun j hj hk hlt => ?_)
      by_cases ej : j = n
      · subst ej
        rw [pk_us, hb]
        unfold gw_sa
        rw [hc]
      · rw [pk_un ej]
        refine hA j hj hk ?_
        have : gw_cnt (gw_sk K) j ≠ i := fun q => ej (gw_cnt_inj hk hq (by omega))
        omega
    rw [wY_assign_2]
    refine br_f (nI_ge (by omega) (by omega)) ⟨vi, ?_⟩
    rw [gw_sbit ha (by omega), ci, e, cn]
    cases hb : a.testBit i with
    | true => exact br_t rfl ⟨vn, nm_r (e' := upd A n (gw_b true)) rfl (nm_r (nI_1 i) (next true hb.symm))⟩
    | false => exact br_f (by decide) ⟨vn, nm_r (e' := upd A n (gw_b false)) rfl (nm_r (nI_1 i) (next false hb.symm))⟩
theorem gy_assign {post : SY → Prop} {a : Nat} (ha : a < 2 ^ 31) (hm : m ≤ 32) (hW : gw_W K X Y Z F m) (hs : s = gw_cnt (gw_sk K) m) (h10 : s ≤ 10) (hE : gw_En (gw_sk K) yS m) (h : ∀ A, (∀ j, j < m → A j = gw_b (gw_v K X Y Z m (gw_sa K a) j)) → post (nI m, nI s, nI r, K, X, Y, Z, F, H, A, yO, yS, yR, yL, yN, yD, yT, yM, yF, yW, yP)) : wpY_assign post (nI m, nI s, nI r, K, X, Y, Z, F, H, yA, yO, yS, yR, yL, yN, yD, yT, yM, yF, yW, yP) (nI a) :=
  ⟨s + 1, gy_assign_l ha hm hW hs h10 hE h s 0 (s + 1) yA (by omega) (by omega) (fun n _ _ hlt => absurd hlt (Nat.not_lt_zero _))⟩
theorem gy_present_l {post : SY → Prop} (hm : m ≤ 32) (hW : gw_W K X Y Z F m) (h01 : gw_01 H) (hs : s = gw_cnt (gw_sk K) m) (h10 : s ≤ 10) (hE : gw_En (gw_sk K) yS m) (h : ∀ A, (∀ j, j < m → A j = gw_b (gw_v K X Y Z m (gw_hs H) j)) → post (nI m, nI s, nI r, K, X, Y, Z, F, H, A, yO, yS, yR, yL, yN, yD, yT, yM, yF, yW, yP)) : ∀ d i g A, i + d = s → d < g → (∀ n, n < m → gw_sk K n = true → gw_cnt (gw_sk K) n < i → A n = gw_b (gw_hs H n)) → wY_present_2 post (nI m) (nI s) (nI r) g (nI i) K X Y Z F H A yO yS yR yL yN yD yT yM yF yW yP := by
  intro d
  induction d with
  | zero =>
    intro i g A h1 h2 hA
    obtain ⟨g, rfl⟩ := gw_fz h2
    rw [wY_present_2]
    refine br_t (nI_le (by omega) (by omega)) (gy_work0 hm hW (fun j hj hk => hA j hj hk ?_) h)
    have := gw_cnt_lt hk hj
    omega
  | succ d ih =>
    intro i g A h1 h2 hA
    obtain ⟨g, rfl⟩ := gw_fz h2
    have ci : (nI i).toNatClampNeg = i := nI_clamp (by omega)
    have vi : vp_in (nI i) 10 := vp_in_nI (by omega) (by omega)
    obtain ⟨n, hn, hq, hc, e⟩ := gw_En_at hE (show i < gw_cnt (gw_sk K) m by omega)
    have cn : (nI n).toNatClampNeg = n := nI_clamp (by omega)
    have vn : vp_in (nI n) 32 := vp_in_nI (by omega) (by omega)
    have next : wY_present_2 post (nI m) (nI s) (nI r) g (nI (i + 1)) K X Y Z F H (upd A n (gw_b (gw_hs H n))) yO yS yR yL yN yD yT yM yF yW yP := by
      refine ih (i + 1) g _ (by omega) (by omega) (fun j hj hk hlt => ?_)
      by_cases ej : j = n
      · subst ej
        rw [pk_us]
      · rw [pk_un ej]
        refine hA j hj hk ?_
        have : gw_cnt (gw_sk K) j ≠ i := fun q => ej (gw_cnt_inj hk hq (by omega))
        omega
    rw [wY_present_2]
    refine br_f (nI_ge (by omega) (by omega)) ⟨vi, vi, ?_⟩
    rw [ci, e, cn]
    exact ⟨vn, vn, nm_r (e' := upd A n (gw_b (gw_hs H n))) (by rw [gw_nar (h01 n), gw_hs_b h01 n]) (nm_r (nI_1 i) next)⟩
theorem gy_present {post : SY → Prop} (hm : m ≤ 32) (hW : gw_W K X Y Z F m) (h01 : gw_01 H) (hs : s = gw_cnt (gw_sk K) m) (h10 : s ≤ 10) (hE : gw_En (gw_sk K) yS m) (h : ∀ A, (∀ j, j < m → A j = gw_b (gw_v K X Y Z m (gw_hs H) j)) → post (nI m, nI s, nI r, K, X, Y, Z, F, H, A, yO, yS, yR, yL, yN, yD, yT, yM, yF, yW, yP)) : wpY_present post (nI m, nI s, nI r, K, X, Y, Z, F, H, yA, yO, yS, yR, yL, yN, yD, yT, yM, yF, yW, yP) :=
  ⟨s + 1, gy_present_l hm hW h01 hs h10 hE h s 0 (s + 1) yA (by omega) (by omega) (fun n _ _ hlt => absurd hlt (Nat.not_lt_zero _))⟩
end
