/-! levels in the component -/
theorem gw_one {p j : Nat} (hp : p < 32) (hj : j < 32) : bt ((1 : Int32) <<< (nI p &&& 31)) j = decide (j = p) := by
  rw [b_shl p hp _ hj, gw_b1]
  rcases Nat.lt_trichotomy j p with h | h | h
  · rw [decide_eq_false (show ¬ p ≤ j by omega), decide_eq_false (show ¬ j = p by omega)]; rfl
  · rw [decide_eq_true (show p ≤ j by omega), decide_eq_true h, decide_eq_true (show j - p = 0 by omega)]; rfl
  · rw [decide_eq_false (show ¬ j - p = 0 by omega), decide_eq_false (show ¬ j = p by omega), Bool.and_false]
theorem gw_not (x : Int32) {j : Nat} (hj : j < 32) : bt (x ^^^ (-1)) j = !(bt x j) := by
  rw [b_xor, b_m1 j hj, Bool.xor_true]
theorem gw_dec1 (n : Nat) : nI n + (-1) = nI n - 1 := by
  cases n with
  | zero => decide
  | succ n => rw [pk_m1, nI_pred]
/-- a level as the component holds it, and the least found so far -/
def gw_en (v : Nat) : Int32 := if v = 99 then -1 else nI v
def gw_el (B : Nat) : Int32 := if B = 99 then -1 else nI (B + 1)
theorem gw_en_ne {v : Nat} (h : v < 2 ^ 31) : gw_en v = -1 ↔ v = 99 := by
  unfold gw_en
  by_cases e : v = 99
  · rw [if_pos e]; exact ⟨fun _ => e, fun _ => rfl⟩
  · rw [if_neg e]; exact ⟨fun q => absurd q (gw_m1 h), fun q => absurd q e⟩
theorem gw_el_ne {v : Nat} (h : v + 1 < 2 ^ 31) : gw_el v = -1 ↔ v = 99 := by
  unfold gw_el
  by_cases e : v = 99
  · rw [if_pos e]; exact ⟨fun _ => e, fun _ => rfl⟩
  · rw [if_neg e]; exact ⟨fun q => absurd q (gw_m1 h), fun q => absurd q e⟩
section
variable {m s r : Nat} {tl pe : Int32} {K X Y Z F H xO xN xC xS xL xE xG xW xM xP : Nat → Int32}
theorem gx_ops {post : Int32 → Prop} {n : Nat} (hm : m ≤ 32) (hW : gw_W K X Y Z F m) (hn : n < m) (h : ∀ v, (∀ j, j < 32 → bt v j = gw_op K X Y Z n j) → post v) : wpX_operandSetOf post (nI m, nI s, nI r, tl, pe, K, X, Y, Z, F, H, xO, xN, xC, xS, xL, xE, xG, xW, xM, xP) (nI n) := by
  have cn : (nI n).toNatClampNeg = n := nI_clamp (by omega)
  have vn : vp_in (nI n) 32 := vp_in_nI (by omega) (by omega)
  unfold wpX_operandSetOf
  dsimp only
  rw [cn]
  refine ⟨vn, nm_e ⟨vn, nm_e ⟨vn, nm_e ⟨vn, ?_⟩⟩⟩⟩
  rcases (hW n hn).1 with e | e | ⟨e, hx⟩ | ⟨e, jx, hjx, ex⟩ | ⟨e, ⟨jx, hjx, ex⟩, ⟨jy, hjy, ey⟩⟩ | ⟨e, ⟨jx, hjx, ex⟩, ⟨jy, hjy, ey⟩, ⟨jz, hjz, ez⟩⟩
  · refine nm_r e (br_t (by decide) (h 0 (fun j hj => ?_)))
    unfold gw_op; rw [b_0, e]; rfl
  · refine nm_r e (br_t (by decide) (h 0 (fun j hj => ?_)))
    unfold gw_op; rw [b_0, e]; rfl
  · refine nm_r e (br_t (by decide) (h 0 (fun j hj => ?_)))
    unfold gw_op; rw [b_0, e]; rfl
  · have cx : (nI jx).toNatClampNeg = jx := nI_clamp (by omega)
    refine nm_r e (br_f (by decide) (br_f (by decide) (br_t rfl (h _ (fun j hj => ?_)))))
    unfold gw_op; rw [e, ex, cx, gw_one (by omega) hj]; rfl
  · have cx : (nI jx).toNatClampNeg = jx := nI_clamp (by omega)
    have cy : (nI jy).toNatClampNeg = jy := nI_clamp (by omega)
    have key : ∀ j, j < 32 → bt (((1 : Int32) <<< (X n &&& 31)) ||| ((1 : Int32) <<< (Y n &&& 31))) j = gw_op K X Y Z n j := by
      intro j hj
      unfold gw_op
      rw [ex, ey, cx, cy, b_or, gw_one (by omega) hj, gw_one (by omega) hj, if_neg (by rcases e with e | e | e <;> rw [e] <;> decide), if_pos e]
    rcases e with e | e | e
    · exact nm_r e (br_f (by decide) (br_f (by decide) (br_f (by decide) (br_t rfl (h _ key)))))
    · exact nm_r e (br_f (by decide) (br_f (by decide) (br_f (by decide) (br_f (by decide) (br_t rfl (h _ key))))))
    · exact nm_r e (br_f (by decide) (br_f (by decide) (br_f (by decide) (br_f (by decide) (br_f (by decide) (br_t rfl (h _ key)))))))
  · have cx : (nI jx).toNatClampNeg = jx := nI_clamp (by omega)
    have cy : (nI jy).toNatClampNeg = jy := nI_clamp (by omega)
    have cz : (nI jz).toNatClampNeg = jz := nI_clamp (by omega)
    refine nm_r e (br_f (by decide) (br_f (by decide) (br_f (by decide) (br_f (by decide) (br_f (by decide) (br_f (by decide) (br_t rfl (h _ (fun j hj => ?_)))))))))
    unfold gw_op
    rw [e, ex, ey, ez, cx, cy, cz, b_or, b_or, gw_one (by omega) hj, gw_one (by omega) hj, gw_one (by omega) hj]
    rfl
theorem gx_btw_l {post : Int32 → Prop} {set : Int32} {S : Nat → Bool} {net : Nat} (hnet : net < 32) (hS : ∀ j, j < 32 → bt set j = S j) (hO : ∀ n, n < net → ∀ j, j < 32 → bt (xS n) j = gw_op K X Y Z n j) : ∀ n g o M, n ≤ net → n < g → (∀ j, j < 32 → bt o j = (M j && !(S j))) → (∀ z, gw_tv (gw_bk (gw_sk K) (gw_op K X Y Z) S n M = true) z → post z) → wX_isBetween_16 post set (nI m) (nI s) (nI r) tl pe K X Y Z F H xO xN xC xS xL xE xG xW xM xP g o (nI n - 1) := by
  intro n
  induction n with
  | zero =>
    intro g o M h1 h2 ho h
    obtain ⟨g, rfl⟩ := gw_fz h2
    rw [wX_isBetween_16]
    exact br_t (by decide) (h 1 (gw_tv_t rfl))
  | succ n ih =>
    intro g o M h1 h2 ho h
    obtain ⟨g, rfl⟩ := gw_fz h2
    have cn : (nI n).toNatClampNeg = n := nI_clamp (by omega)
    have vn : vp_in (nI n) 32 := vp_in_nI (by omega) (by omega)
    have skip : ¬ (M n = true ∧ S n = false) → wX_isBetween_16 post set (nI m) (nI s) (nI r) tl pe K X Y Z F H xO xN xC xS xL xE xG xW xM xP g o (nI n - 1) := by
      intro q
      refine ih g o M (by omega) (by omega) ho (fun z hz => h z ?_)
      have e : gw_bk (gw_sk K) (gw_op K X Y Z) S (n + 1) M = gw_bk (gw_sk K) (gw_op K X Y Z) S n M := if_neg q
      rw [e]
      exact hz
    rw [wX_isBetween_16, nI_pred]
    refine br_f (nI_pos (by omega)) (gx_bit (by omega) ?_)
    rw [ho n (by omega), gw_dec1]
    cases hM : M n with
    | false => exact br_f (by rw [Bool.false_and]; decide) (nm_e (skip (fun q => by rw [hM] at q; exact Bool.false_ne_true q.1)))
    | true =>
      cases hSn : S n with
      | true => exact br_f (by decide) (nm_e (skip (fun q => by rw [hSn] at q; exact Bool.false_ne_true q.2.symm)))
      | false =>
        refine br_t rfl ⟨vn, gx_sk (fun hk => br_f gw_n10 (h 0 (gw_tv_f ?_))) (fun hk => br_t rfl ⟨vn, nm_e (nm_e (ih g _ (fun j => M j || gw_op K X Y Z n j) (by omega) (by omega) (fun j hj => ?_) (fun z hz => h z ?_)))⟩)⟩
        · rw [cn] at hk
          have e : gw_bk (gw_sk K) (gw_op K X Y Z) S (n + 1) M = false := by
            show (if M n = true ∧ S n = false then (if gw_sk K n = true then false else _) else _) = false
            rw [if_pos ⟨hM, hSn⟩, if_pos (gw_sk_t.mpr hk)]
          rw [e]
          exact Bool.false_ne_true
        · rw [b_or, b_and, cn, hO n (by omega) j hj, gw_not set hj, hS j hj, ho j hj]
          cases M j <;> cases S j <;> cases gw_op K X Y Z n j <;> rfl
        · rw [cn] at hk
          have e : gw_bk (gw_sk K) (gw_op K X Y Z) S (n + 1) M = gw_bk (gw_sk K) (gw_op K X Y Z) S n (fun j => M j || gw_op K X Y Z n j) := by
            show (if M n = true ∧ S n = false then (if gw_sk K n = true then false else _) else _) = _
            rw [if_pos ⟨hM, hSn⟩, if_neg (by rw [gw_sk_f.mpr hk]; exact Bool.false_ne_true)]
          rw [e]
          exact hz
theorem gx_btw {post : Int32 → Prop} {set : Int32} {S : Nat → Bool} {net : Nat} (hnet : net < 32) (hS : ∀ j, j < 32 → bt set j = S j) (hO : ∀ n, n ≤ net → ∀ j, j < 32 → bt (xS n) j = gw_op K X Y Z n j) (h : ∀ z, gw_tv (gw_bt K X Y Z net S = true) z → post z) : wpX_isBetween post (nI m, nI s, nI r, tl, pe, K, X, Y, Z, F, H, xO, xN, xC, xS, xL, xE, xG, xW, xM, xP) set (nI net) := by
  have cn : (nI net).toNatClampNeg = net := nI_clamp (by omega)
  unfold wpX_isBetween
  dsimp only
  refine ⟨vp_in_nI (by omega) (by omega), nm_e (nm_e ⟨net + 1, gx_btw_l hnet hS (fun n hn => hO n (by omega)) net (net + 1) _ (gw_op K X Y Z net) (by omega) (by omega) (fun j hj => ?_) h⟩)⟩
  rw [b_and, cn, hO net (Nat.le_refl _) j hj, gw_not set hj, hS j hj]
theorem gx_above {post : Int32 → Prop} {a b c : Nat} {lev : Nat → Nat} (ha : a < 32) (hb : b < 32) (hc : c < 32) (la : lev a ≤ 40 ∨ lev a = 99) (lb : lev b ≤ 40 ∨ lev b = 99) (lc : lev c ≤ 40 ∨ lev c = 99) (xa : xL a = gw_en (lev a)) (xb : xL b = gw_en (lev b)) (xc : xL c = gw_en (lev c)) (h : post (gw_el (gw_mx lev a b c))) : wpX_levelAbove post (nI m, nI s, nI r, tl, pe, K, X, Y, Z, F, H, xO, xN, xC, xS, xL, xE, xG, xW, xM, xP) (nI a) (nI b) (nI c) := by
  have ca : (nI a).toNatClampNeg = a := nI_clamp (by omega)
  have cb : (nI b).toNatClampNeg = b := nI_clamp (by omega)
  have cc : (nI c).toNatClampNeg = c := nI_clamp (by omega)
  have va : vp_in (nI a) 32 := vp_in_nI (by omega) (by omega)
  have vb : vp_in (nI b) 32 := vp_in_nI (by omega) (by omega)
  have vc : vp_in (nI c) 32 := vp_in_nI (by omega) (by omega)
  have none : gw_mx lev a b c = 99 → post (-1) := fun q => by rw [q] at h; exact h
  have last : ∀ v : Nat, v ≤ 40 → lev c ≤ 40 → max v (lev c) = gw_mx lev a b c → wX_levelAbove_59 post (nI c) (nI v) (nI m) (nI s) (nI r) tl pe K X Y Z F H xO xN xC xS xL xE xG xW xM xP := by
    intro v hv hc2 e
    unfold wX_levelAbove_59
    rw [cc, xc]
    have en : gw_en (lev c) = nI (lev c) := if_neg (by omega)
    have el : gw_el (gw_mx lev a b c) = nI (gw_mx lev a b c + 1) := if_neg (by omega)
    rw [el] at h
    rw [en]
    refine ⟨vc, pk_le (lev c) v (fun q => ?_) (fun q => ⟨vc, nm_e ?_⟩)⟩
    · rw [nI_1, show v = gw_mx lev a b c by omega]; exact h
    · rw [nI_1, show lev c = gw_mx lev a b c by omega]; exact h
  unfold wpX_levelAbove
  dsimp only
  rw [ca, cb, cc, xa, xb, xc]
  have ea := gw_en_ne (v := lev a) (by omega)
  have eb := gw_en_ne (v := lev b) (by omega)
  have ec := gw_en_ne (v := lev c) (by omega)
  refine ⟨va, br_c (fun q => none ?_) (fun q => ⟨vb, br_c (fun q2 => none ?_) (fun q2 => ⟨vc, br_c (fun q3 => none ?_) (fun q3 => ?_)⟩)⟩)⟩
  · have := ea.mp q
    unfold gw_mx
    omega
  · have := eb.mp q2
    unfold gw_mx
    omega
  · have := ec.mp q3
    unfold gw_mx
    omega
  · have na : ¬ lev a = 99 := fun e => q (ea.mpr e)
    have nb : ¬ lev b = 99 := fun e => q2 (eb.mpr e)
    have nc : ¬ lev c = 99 := fun e => q3 (ec.mpr e)
    have ena : gw_en (lev a) = nI (lev a) := if_neg na
    have enb : gw_en (lev b) = nI (lev b) := if_neg nb
    rw [ena, enb]
    refine ⟨va, nm_e ⟨vb, pk_le (lev b) (lev a) (fun l => last (lev a) (by omega) (by omega) ?_) (fun l => ⟨vb, nm_e (last (lev b) (by omega) (by omega) ?_)⟩)⟩⟩
    · unfold gw_mx; omega
    · unfold gw_mx; omega
/-- what the search for a level rests on -/
def gw_Lo (K X Y Z : Nat → Int32) (xS xL : Nat → Int32) (lev : Nat → Nat) (net k : Nat) : Prop := net < 32 ∧ k ≤ 3 ∧ (∀ n, n ≤ net → ∀ j, j < 32 → bt (xS n) j = gw_op K X Y Z n j) ∧ (∀ j, j < net → xL j = gw_en (lev j)) ∧ ∀ j, j < net → lev j ≤ 40 ∨ lev j = 99
theorem gx_l79_l {post : Int32 → Prop} {J40 J : Int32 → Int32 → Prop} {net k a b : Nat} {lev : Nat → Nat} (O : gw_Lo K X Y Z xS xL lev net k) (ha : a < net) (hb : b ≤ a) (hk2 : k < 2 → b = a) (h : ∀ B, gw_IB (gw_bt K X Y Z net) lev k net (fun x y z => x < a ∨ (x = a ∧ y < b + 1)) B → J (gw_el B) (nI (b + 1))) : ∀ d c g B, c + d = b + 1 → d < g → (k < 3 → b ≤ c) → gw_IB (gw_bt K X Y Z net) lev k net (fun x y z => x < a ∨ (x = a ∧ (y < b ∨ (y = b ∧ z < c)))) B → wX_levelFromLower_79 post J40 J (nI net) (nI k) (nI a) (nI b) (nI m) (nI s) (nI r) tl pe K X Y Z F H xO xN xC xS xL xE xG xW xM xP g (gw_el B) (nI c) := by
  obtain ⟨hnet, hk, hO, hL, hlv⟩ := O
  intro d
  induction d with
  | zero =>
    intro c g B h1 h2 hc hB
    obtain ⟨g, rfl⟩ := gw_fz h2
    rw [wX_levelFromLower_79]
    refine br_t (nI_lt (by omega) (by omega)) (nm_r (nI_1 b) (h B (gw_IB_more hB (fun x y z ht hq _ => Or.inl ?_))))
    have h3 := ht.1
    have h4 := ht.2.1
    rcases hq with hq | hq
    · exact Or.inl hq
    · exact Or.inr ⟨hq.1, by omega⟩
  | succ d ih =>
    intro c g B h1 h2 hc hB
    obtain ⟨g, rfl⟩ := gw_fz h2
    have hcb : c ≤ b := by omega
    have ht0 : gw_tr k net a b c := ⟨hcb, hb, ha, hk2, fun q => by have := hc q; omega⟩
    have hmx : gw_mx lev a b c ≤ 99 := by
      have h3 := hlv a ha
      have h4 := hlv b (by omega)
      have h5 := hlv c (by omega)
      unfold gw_mx
      omega
    have hB99 := hB.1
    have step : ∀ (x y z : Nat), gw_tr k net x y z → (x < a ∨ (x = a ∧ (y < b ∨ (y = b ∧ z < c + 1)))) → (x < a ∨ (x = a ∧ (y < b ∨ (y = b ∧ z < c)))) ∨ (x = a ∧ y = b ∧ z = c) := by
      intro x y z _ q
      omega
    have keep : (gw_bt K X Y Z net (gw_S3 a b c) = true → B ≤ gw_mx lev a b c) → wX_levelFromLower_79 post J40 J (nI net) (nI k) (nI a) (nI b) (nI m) (nI s) (nI r) tl pe K X Y Z F H xO xN xC xS xL xE xG xW xM xP g (gw_el B) (nI (c + 1)) := by
      intro hle
      refine ih (c + 1) g B (by omega) (by omega) (fun q => by have := hc q; omega) (gw_IB_more hB (fun x y z ht hq hbt => ?_))
      rcases step x y z ht hq with q | ⟨q1, q2, q3⟩
      · exact Or.inl q
      · subst q1 q2 q3
        exact Or.inr (hle hbt)
    have set3 : ∀ j, j < 32 → bt ((((1 : Int32) <<< (nI a &&& 31)) ||| ((1 : Int32) <<< (nI b &&& 31))) ||| ((1 : Int32) <<< (nI c &&& 31))) j = gw_S3 a b c j := by
      intro j hj
      rw [b_or, b_or, gw_one (by omega) hj, gw_one (by omega) hj, gw_one (by omega) hj]
      rfl
    have no : B ≤ gw_mx lev a b c → ∀ v : Int32, wX_levelFromLower_119 post J40 J (wX_levelFromLower_79 post J40 J (nI net) (nI k) (nI a) (nI b) (nI m) (nI s) (nI r) tl pe K X Y Z F H xO xN xC xS xL xE xG xW xM xP g) (nI net) (nI k) (gw_el B) (nI a) (nI b) (nI c) v (nI m) (nI s) (nI r) tl pe K X Y Z F H xO xN xC xS xL xE xG xW xM xP := by
      intro hle v
      unfold wX_levelFromLower_119 wX_levelFromLower_120
      exact nm_e (br_t rfl (nm_r (nI_1 c) (keep (fun _ => hle))))
    have yes : gw_mx lev a b c < B → wX_levelFromLower_115 post J40 J (wX_levelFromLower_79 post J40 J (nI net) (nI k) (nI a) (nI b) (nI m) (nI s) (nI r) tl pe K X Y Z F H xO xN xC xS xL xE xG xW xM xP g) (nI net) (nI k) (gw_el B) (nI a) (nI b) (nI c) (gw_el (gw_mx lev a b c)) (nI m) (nI s) (nI r) tl pe K X Y Z F H xO xN xC xS xL xE xG xW xM xP := by
      intro hlt
      unfold wX_levelFromLower_115 wX_levelFromLower_120
      refine nm_e (br_f gw_n10 (gx_btw hnet set3 hO (fun z hz => br_c (fun q => nm_r (nI_1 c) (keep (fun hbt => absurd hbt ((gw_tv_0 hz).mp q)))) (fun q => nm_r (nI_1 c) ?_))))
      have hbt := Classical.byContradiction (fun n => q ((gw_tv_0 hz).mpr n))
      refine ih (c + 1) g (gw_mx lev a b c) (by omega) (by omega) (fun q => by have := hc q; omega) (gw_IB_take hB ht0 hbt hlt (fun x y z ht hq => ?_))
      rcases step x y z ht hq with q | ⟨q1, q2, q3⟩
      · exact Or.inl q
      · subst q1 q2 q3
        exact Or.inr (Nat.le_refl _)
    rw [wX_levelFromLower_79]
    refine br_f (nI_nlt (by omega) (by omega)) (gx_above (by omega) (by omega) (by omega) (hlv a ha) (hlv b (by omega)) (hlv c (by omega)) (hL a ha) (hL b (by omega)) (hL c (by omega)) ?_)
    have e1 := gw_el_ne (v := gw_mx lev a b c) (by omega)
    have e2 := gw_el_ne (v := B) (by omega)
    refine br_c (fun q => no (by have := e1.mp q; omega) _) (fun q => br_c (fun q2 => yes ?_) (fun q2 => ?_))
    · have := e2.mp q2
      have : ¬ gw_mx lev a b c = 99 := fun z => q (e1.mpr z)
      omega
    · have n1 : ¬ gw_mx lev a b c = 99 := fun z => q (e1.mpr z)
      have n2 : ¬ B = 99 := fun z => q2 (e2.mpr z)
      have f1 : gw_el (gw_mx lev a b c) = nI (gw_mx lev a b c + 1) := if_neg n1
      have f2 : gw_el B = nI (B + 1) := if_neg n2
      by_cases l : B ≤ gw_mx lev a b c
      · exact br_t (by rw [f1, f2]; exact nI_le (by omega) (by omega)) (no l _)
      · exact br_f (by rw [f1, f2]; exact nI_ge (by omega) (by omega)) (yes (by omega))
theorem gx_l59_l {post : Int32 → Prop} {J : Int32 → Int32 → Prop} {net k a : Nat} {lev : Nat → Nat} (O : gw_Lo K X Y Z xS xL lev net k) (ha : a < net) (h : ∀ B, gw_IB (gw_bt K X Y Z net) lev k net (fun x y z => x < a + 1) B → J (gw_el B) (nI (a + 1))) : ∀ d b g B, b + d = a + 1 → d < g → (k < 2 → a ≤ b) → gw_IB (gw_bt K X Y Z net) lev k net (fun x y z => x < a ∨ (x = a ∧ y < b)) B → wX_levelFromLower_59 post J (nI net) (nI k) (nI a) (nI m) (nI s) (nI r) tl pe K X Y Z F H xO xN xC xS xL xE xG xW xM xP g (gw_el B) (nI b) := by
  have hnet := O.1
  have hk := O.2.1
  intro d
  induction d with
  | zero =>
    intro b g B h1 h2 hb hB
    obtain ⟨g, rfl⟩ := gw_fz h2
    rw [wX_levelFromLower_59]
    refine br_t (nI_lt (by omega) (by omega)) (nm_r (nI_1 a) (h B (gw_IB_more hB (fun x y z ht hq _ => Or.inl ?_))))
    have h3 := ht.2.1
    omega
  | succ d ih =>
    intro b g B h1 h2 hb hB
    obtain ⟨g, rfl⟩ := gw_fz h2
    have go : ∀ c, c ≤ b → (k < 3 → b ≤ c) → (∀ x y z : Nat, gw_tr k net x y z → x = a → y = b → ¬ z < c) → ∃ n79, wX_levelFromLower_79 post J (wX_levelFromLower_59 post J (nI net) (nI k) (nI a) (nI m) (nI s) (nI r) tl pe K X Y Z F H xO xN xC xS xL xE xG xW xM xP g) (nI net) (nI k) (nI a) (nI b) (nI m) (nI s) (nI r) tl pe K X Y Z F H xO xN xC xS xL xE xG xW xM xP n79 (gw_el B) (nI c) := by
      intro c hc hc3 hno
      refine ⟨b + 2, gx_l79_l O ha (by omega) (fun q => by have := hb q; omega) (fun B' hB' => ih (b + 1) g B' (by omega) (by omega) (fun q => by have := hb q; omega) hB') (b + 1 - c) c (b + 2) B (by omega) (by omega) hc3 (gw_IB_more hB (fun x y z ht hq _ => Or.inl ?_))⟩
      rcases hq with hq | ⟨hx, hq | ⟨hy, hz⟩⟩
      · exact Or.inl hq
      · exact Or.inr ⟨hx, hq⟩
      · exact absurd hz (hno x y z ht hx hy)
    rw [wX_levelFromLower_59]
    refine br_f (nI_nlt (by omega) (by omega)) ?_
    rcases Nat.lt_or_ge k 3 with l | l
    · refine br_t (nI_lt (b := 3) l (by decide)) (go b (Nat.le_refl _) (fun _ => Nat.le_refl _) (fun x y z ht hx hy => ?_))
      have := ht.2.2.2.2 l
      omega
    · exact br_f (nI_nlt (b := 3) l (by omega)) (go 0 (by omega) (fun q => by omega) (fun x y z _ _ _ => Nat.not_lt_zero _))
theorem gx_l40_l {post : Int32 → Prop} {net k : Nat} {lev : Nat → Nat} (O : gw_Lo K X Y Z xS xL lev net k) (h : ∀ B, gw_IB (gw_bt K X Y Z net) lev k net (fun _ _ _ => True) B → post (gw_el B)) : ∀ d a g B, a + d = net → d < g → gw_IB (gw_bt K X Y Z net) lev k net (fun x y z => x < a) B → wX_levelFromLower_40 post (nI net) (nI k) (nI m) (nI s) (nI r) tl pe K X Y Z F H xO xN xC xS xL xE xG xW xM xP g (gw_el B) (nI a) := by
  have hnet := O.1
  have hk := O.2.1
  intro d
  induction d with
  | zero =>
    intro a g B h1 h2 hB
    obtain ⟨g, rfl⟩ := gw_fz h2
    rw [wX_levelFromLower_40]
    refine br_t (nI_le (by omega) (by omega)) (h B (gw_IB_more hB (fun x y z ht _ _ => Or.inl ?_)))
    have := ht.2.2.1
    omega
  | succ d ih =>
    intro a g B h1 h2 hB
    obtain ⟨g, rfl⟩ := gw_fz h2
    have go : ∀ b, b ≤ a → (k < 2 → a ≤ b) → (∀ x y z : Nat, gw_tr k net x y z → x = a → ¬ y < b) → ∃ n59, wX_levelFromLower_59 post (wX_levelFromLower_40 post (nI net) (nI k) (nI m) (nI s) (nI r) tl pe K X Y Z F H xO xN xC xS xL xE xG xW xM xP g) (nI net) (nI k) (nI a) (nI m) (nI s) (nI r) tl pe K X Y Z F H xO xN xC xS xL xE xG xW xM xP n59 (gw_el B) (nI b) := by
      intro b hb hb2 hno
      refine ⟨a + 2, gx_l59_l O (by omega) (fun B' hB' => ih (a + 1) g B' (by omega) (by omega) hB') (a + 1 - b) b (a + 2) B (by omega) (by omega) hb2 (gw_IB_more hB (fun x y z ht hq _ => Or.inl ?_))⟩
      rcases hq with hq | ⟨hx, hy⟩
      · exact hq
      · exact absurd hy (hno x y z ht hx)
    rw [wX_levelFromLower_40]
    refine br_f (nI_ge (by omega) (by omega)) ?_
    rcases Nat.lt_or_ge k 2 with l | l
    · refine br_t (nI_lt (b := 2) l (by decide)) (go a (Nat.le_refl _) (fun _ => Nat.le_refl _) (fun x y z ht hx => ?_))
      have := ht.2.2.2.1 l
      omega
    · exact br_f (nI_nlt (b := 2) l (by omega)) (go 0 (by omega) (fun q => by omega) (fun x y z _ _ => Nat.not_lt_zero _))
theorem gx_lfl {post : Int32 → Prop} {net k : Nat} {lev : Nat → Nat} (O : gw_Lo K X Y Z xS xL lev net k) (h0 : (K net = 0 ∨ K net = 1 ∨ K net = 2) → post 0) (h1 : ¬ (K net = 0 ∨ K net = 1 ∨ K net = 2) → gw_bt K X Y Z net (fun _ => false) = true → post 1) (h2 : ¬ (K net = 0 ∨ K net = 1 ∨ K net = 2) → gw_bt K X Y Z net (fun _ => false) = false → ∀ B, gw_IB (gw_bt K X Y Z net) lev k net (fun _ _ _ => True) B → post (gw_el B)) : wpX_levelFromLower post (nI m, nI s, nI r, tl, pe, K, X, Y, Z, F, H, xO, xN, xC, xS, xL, xE, xG, xW, xM, xP) (nI net) (nI k) := by
  have hnet := O.1
  have hO := O.2.2.1
  have cn : (nI net).toNatClampNeg = net := nI_clamp (by omega)
  have vn : vp_in (nI net) 32 := vp_in_nI (by omega) (by omega)
  unfold wpX_levelFromLower
  dsimp only
  rw [cn]
  refine ⟨vn, gx_sk (fun hk => br_f gw_n10 (h0 ?_)) (fun hk => br_t rfl ⟨vn, br_c (fun q => h0 (Or.inr (Or.inr q))) (fun q => ?_)⟩)⟩
  · rcases hk with hk | hk
    · exact Or.inl hk
    · exact Or.inr (Or.inl hk)
  · have ng : ¬ (K net = 0 ∨ K net = 1 ∨ K net = 2) := by
      rintro (z | z | z)
      · exact hk (Or.inl z)
      · exact hk (Or.inr z)
      · exact q z
    refine gx_btw (S := fun _ => false) hnet (fun j _ => b_0 j) hO (fun z hz => br_c (fun q2 => ⟨net + 1, ?_⟩) (fun q2 => h1 ng (Classical.byContradiction (fun n => q2 ((gw_tv_0 hz).mpr n)))))
    have hbf : gw_bt K X Y Z net (fun _ => false) = false := by
      cases hb : gw_bt K X Y Z net (fun _ => false) with
      | false => rfl
      | true => exact absurd hb ((gw_tv_0 hz).mp q2)
    exact gx_l40_l O (h2 ng hbf) net 0 (net + 1) 99 (by omega) (by omega) (gw_IB_0 (fun a b c _ => Nat.not_lt_zero _))
theorem gw_gate0 (hW : gw_W K X Y Z F m) : ∀ j, j < m → ¬ (K j = 0 ∨ K j = 1 ∨ K j = 2) → 0 < j := by
  intro j hj hn
  rcases (hW j hj).1 with e | e | ⟨e, _⟩ | ⟨e, jx, hjx, _⟩ | ⟨e, ⟨jx, hjx, _⟩, _⟩ | ⟨e, ⟨jx, hjx, _⟩, _⟩
  · exact absurd (Or.inl e) hn
  · exact absurd (Or.inr (Or.inl e)) hn
  · exact absurd (Or.inr (Or.inr e)) hn
  · omega
  · omega
  · omega
theorem gx_lv_l {post : Int32 → SX → Prop} {net k : Nat} (hm : m ≤ 32) (hW : gw_W K X Y Z F m) (hnet : net < m) (hk : k ≤ 3) (h : ∀ A B lev, gw_LV K X Y Z k lev (net + 1) → post (gw_en (lev net)) (nI m, nI s, nI r, tl, pe, K, X, Y, Z, F, H, xO, xN, xC, A, B, xE, xG, xW, xM, xP)) : ∀ d n g A B lev, n + d = net + 1 → d < g → (∀ i, i < n → ∀ j, j < 32 → bt (A i) j = gw_op K X Y Z i j) → (∀ j, j < n → B j = gw_en (lev j)) → gw_LV K X Y Z k lev n → wX_level_22 post (nI net) (nI k) (nI m) (nI s) (nI r) tl pe g (nI n) K X Y Z F H xO xN xC A B xE xG xW xM xP := by
  intro d
  induction d with
  | zero =>
    intro n g A B lev h1 h2 hA hB hl
    obtain ⟨g, rfl⟩ := gw_fz h2
    have cn : (nI net).toNatClampNeg = net := nI_clamp (by omega)
    rw [wX_level_22]
    refine br_t (nI_lt (by omega) (by omega)) ⟨vp_in_nI (by omega) (by omega), ?_⟩
    rw [cn, hB net (by omega)]
    rw [show n = net + 1 by omega] at hl
    exact h A B lev hl
  | succ d ih =>
    intro n g A B lev h1 h2 hA hB hl
    obtain ⟨g, rfl⟩ := gw_fz h2
    have cn : (nI n).toNatClampNeg = n := nI_clamp (by omega)
    have vn : vp_in (nI n) 32 := vp_in_nI (by omega) (by omega)
    have hb := gw_LV_b (fun j hj => gw_gate0 hW j (by omega)) hl
    rw [wX_level_22]
    refine br_f (nI_nlt (by omega) (by omega)) (gx_ops hm hW (by omega) (fun v hv => ⟨vn, ?_⟩))
    rw [cn]
    have hA' : ∀ i, i ≤ n → ∀ j, j < 32 → bt (upd A n v i) j = gw_op K X Y Z i j := by
      intro i hi j hj
      by_cases e : i = n
      · subst e; rw [pk_us]; exact hv j hj
      · rw [pk_un e]; exact hA i (by omega) j hj
    have next : ∀ w : Nat, (((K n = 0 ∨ K n = 1 ∨ K n = 2) → w = 0) ∧ (¬ (K n = 0 ∨ K n = 1 ∨ K n = 2) → (gw_bt K X Y Z n (fun _ => false) = true → w = 1) ∧ (gw_bt K X Y Z n (fun _ => false) = false → ∃ B, gw_IB (gw_bt K X Y Z n) lev k n (fun _ _ _ => True) B ∧ w = if B = 99 then 99 else B + 1))) → wX_level_22 post (nI net) (nI k) (nI m) (nI s) (nI r) tl pe g (nI (n + 1)) K X Y Z F H xO xN xC (upd A n v) (upd B n (gw_en w)) xE xG xW xM xP := by
      intro w hw
      refine ih (n + 1) g _ _ (fun j => if j = n then w else lev j) (by omega) (by omega) (fun i hi => hA' i (by omega)) (fun j hj => ?_) (gw_LV_s hl hw.1 hw.2)
      by_cases e : j = n
      · subst e
        rw [pk_us, if_pos rfl]
      · rw [pk_un e, if_neg e]
        exact hB j (by omega)
    refine nm_e (gx_lfl (lev := lev) ⟨by omega, hk, hA', hB, fun j hj => by have := hb j hj; omega⟩ (fun hh => ⟨vn, nm_r (e' := upd B n (gw_en 0)) rfl (nm_r (nI_1 n) (next 0 ⟨fun _ => rfl, fun q => absurd hh q⟩))⟩) (fun hh hbt => ⟨vn, nm_r (e' := upd B n (gw_en 1)) rfl (nm_r (nI_1 n) (next 1 ⟨fun q => absurd q hh, fun _ => ⟨fun _ => rfl, fun q => by rw [hbt] at q; exact absurd q.symm Bool.false_ne_true⟩⟩))⟩) (fun hh hbt C hC => ⟨vn, nm_r (e' := upd B n (gw_en (if C = 99 then 99 else C + 1))) ?_ (nm_r (nI_1 n) (next _ ⟨fun q => absurd q hh, fun _ => ⟨fun q => by rw [hbt] at q; exact absurd q Bool.false_ne_true, fun _ => ⟨C, hC, rfl⟩⟩⟩))⟩))
    have hC2 := gw_IB_lt (n := n) hC (fun j hj => by have := hb j hj; omega)
    congr 1
    unfold gw_el gw_en
    by_cases e : C = 99
    · rw [if_pos e, if_pos e]; rfl
    · rw [if_neg e, if_neg e, if_neg (by omega)]
theorem gx_level {post : Int32 → SX → Prop} {net k : Nat} (hm : m ≤ 32) (hW : gw_W K X Y Z F m) (hnet : net < m) (hk1 : 1 ≤ k) (hk : k ≤ 3) (h : ∀ A B lev, gw_LV K X Y Z k lev (net + 1) → post (gw_en (lev net)) (nI m, nI s, nI r, tl, pe, K, X, Y, Z, F, H, xO, xN, xC, A, B, xE, xG, xW, xM, xP)) : wpX_level post (nI m, nI s, nI r, tl, pe, K, X, Y, Z, F, H, xO, xN, xC, xS, xL, xE, xG, xW, xM, xP) (nI net) (nI k) := by
  unfold wpX_level
  dsimp only
  refine gx_net hm hnet (br_f gw_n10 (br_f (nI_nlt (b := 1) hk1 (by omega)) (br_t (nI_le (b := 3) hk (by decide)) ⟨net + 2, ?_⟩)))
  exact gx_lv_l hm hW hnet hk h (net + 1) 0 (net + 2) xS xL (fun _ => 0) (by omega) (by omega) (fun i hi => absurd hi (Nat.not_lt_zero _)) (fun j hj => absurd hj (Nat.not_lt_zero _)) (fun j hj => absurd hj (Nat.not_lt_zero _))
end
