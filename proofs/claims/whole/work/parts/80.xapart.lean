/-! how soon two configurations are apart, in the component -/
theorem gw_pr64 (a b : Nat) : (nI a * 64 : Int32) + nI b = nI (a * 64 + b) := by
  rw [← nI_add, ← pk_mul]; rfl
theorem gw_pl64 (a b : Nat) : ((64 : Int32) * nI a) + nI b = nI (a * 64 + b) := by
  rw [Nat.mul_comm a 64, ← nI_add, ← pk_mul]; rfl
theorem gw_pr_lt {c d : Nat} (hc : c < 64) (hd : d < 64) : c * 64 + d < 4096 := by omega
/-- the table is told for both orders -/
def gw_Sy (N : Nat) (a : Nat → Int32) : Prop := ∀ x y, x < N → y < N → a (x * 64 + y) = gw_rd a x y
theorem gw_Sy_mark {N c d : Nat} {a : Nat → Int32} {v : Int32} (hN : N ≤ 64) (h : gw_Sy N a) (hd : d < c) (hc : c < N) : gw_Sy N (upd (upd a (c * 64 + d) v) (d * 64 + c) v) := by
  intro x y hx hy
  have hxy := h x y hx hy
  unfold gw_rd at hxy ⊢
  rcases Nat.lt_trichotomy x y with g | g | g
  · rw [if_neg (by omega), if_pos g] at hxy ⊢
    by_cases e : x = d ∧ y = c
    · obtain ⟨rfl, rfl⟩ := e
      rw [pk_us, pk_un (by omega), pk_us]
    · have n1 : x * 64 + y ≠ d * 64 + c := fun q => e (gw_pair (by omega) (by omega) q)
      have n2 : x * 64 + y ≠ c * 64 + d := fun q => by
        have := gw_pair (by omega) (by omega) q
        omega
      have n3 : y * 64 + x ≠ d * 64 + c := fun q => by
        have := gw_pair (by omega) (by omega) q
        omega
      have n4 : y * 64 + x ≠ c * 64 + d := fun q => by
        have := gw_pair (by omega) (by omega) q
        exact e ⟨this.2, this.1⟩
      rw [pk_un n1, pk_un n2, pk_un n3, pk_un n4]
      exact hxy
  · subst g
    rw [if_neg (by omega), if_neg (by omega)] at hxy ⊢
    have n1 : x * 64 + x ≠ d * 64 + c := fun q => by
      have := gw_pair (by omega) (by omega) q
      omega
    have n2 : x * 64 + x ≠ c * 64 + d := fun q => by
      have := gw_pair (by omega) (by omega) q
      omega
    rw [pk_un n1, pk_un n2]
    exact hxy
  · rw [if_pos g]
section
variable {L : Nat} {stp : Nat → Nat → Nat} {sh : Nat → Nat → Bool}
theorem gw_AS_upper {N t c d : Nat} {P : Nat → Nat → Prop} {a : Nat → Int32} {v : Int32} (hN : N ≤ 64) (h : gw_AS L stp sh N t P a) (hd : d < c) (hc : c < N) : gw_AS L stp sh N t P (upd a (d * 64 + c) v) := by
  intro x y hx hy
  have n1 : x * 64 + y ≠ d * 64 + c := fun q => by
    have := gw_pair (by omega) (by omega) q
    omega
  rw [pk_un n1]
  exact h x y hx hy
/-- what the first pass writes of a pair -/
def gw_I0 (L : Nat) (stp : Nat → Nat → Nat) (sh : Nat → Nat → Bool) (a : Nat → Int32) (x y : Nat) : Prop := (gw_A L stp sh 0 x y ∧ a (x * 64 + y) = 0) ∨ (¬ gw_A L stp sh 0 x y ∧ a (x * 64 + y) = -1)
theorem gw_I0_AS {N : Nat} {a : Nat → Int32} (h : ∀ x y, x < N → y < N → gw_I0 L stp sh a x y) : gw_AS L stp sh N 1 (fun _ _ => False) a := by
  intro x y hx hy
  refine ⟨fun s hs hb => ?_, fun hn => ⟨fun f => f.elim, fun _ => ?_⟩⟩
  · have e : s = 0 := by omega
    subst e
    rcases h x y hy (by omega) with ⟨_, e⟩ | ⟨n, _⟩
    · rw [e]; rfl
    · exact absurd hb.1 n
  · rcases h x y hy (by omega) with ⟨p, _⟩ | ⟨_, e⟩
    · exact absurd (gw_B_0.mpr p) (hn 0 (by omega))
    · exact e
theorem gw_I0_Sy {N : Nat} {a : Nat → Int32} (h : ∀ x y, x < N → y < N → gw_I0 L stp sh a x y) : gw_Sy N a := by
  intro x y hx hy
  unfold gw_rd
  rcases Nat.lt_trichotomy x y with g | g | g
  · rw [if_neg (by omega), if_pos g]
    rcases h x y hx hy with ⟨p, e⟩ | ⟨p, e⟩ <;> rcases h y x hy hx with ⟨p', e'⟩ | ⟨p', e'⟩
    · rw [e, e']
    · exact absurd (gw_A_sym _ _ _ p) p'
    · exact absurd (gw_A_sym _ _ _ p') p
    · rw [e, e']
  · subst g
    rw [if_neg (by omega), if_neg (by omega)]
    rcases h x x hx hx with ⟨p, _⟩ | ⟨_, e⟩
    · exact absurd p (gw_A_irr 0 x)
    · exact e
  · rw [if_pos g]
end
section
variable {m s r : Nat} {tl pe : Int32} {K X Y Z F H xO xN xC xS xL xE xG xW xM xP : Nat → Int32}
theorem gx_sd_l {post : Int32 → Prop} {Q c e net : Nat} (hs : s = gw_cnt (gw_sk K) m) (hr : r = gw_cnt (gw_rk K) m) (h10 : s ≤ 10) (hQ : Q = 2 ^ gw_q K m) (hc : c < 2 ^ r) (he : e < 2 ^ r) (hV : ∀ c w, c < 2 ^ r → w < 2 ^ gw_q K m → xW (c * 2 ^ gw_q K m + w) = gw_b (gw_sh K X Y Z m net w c)) (h : ∀ z, gw_tv (∃ w, w < Q ∧ gw_sh K X Y Z m net w c ≠ gw_sh K X Y Z m net w e) z → post z) : ∀ d w g, w + d = Q → d < g → (∀ w', w' < w → gw_sh K X Y Z m net w' c = gw_sh K X Y Z m net w' e) → wX_showsDiffer_18 post (nI c) (nI e) (nI (gw_q K m)) (nI Q) (nI m) (nI s) (nI r) tl pe K X Y Z F H xO xN xC xS xL xE xG xW xM xP g (nI w) := by
  have es := gw_srq hs hr
  have hQ2 : Q ≤ 1024 := by rw [hQ]; exact gw_p10 (by omega)
  intro d
  induction d with
  | zero =>
    intro w g h1 h2 h3
    obtain ⟨g, rfl⟩ := gw_fz h2
    rw [wX_showsDiffer_18]
    refine br_t (nI_le (by omega) (by omega)) (h 0 (gw_tv_f ?_))
    rintro ⟨w', h4, h5⟩
    exact h5 (h3 w' (by omega))
  | succ d ih =>
    intro w g h1 h2 h3
    obtain ⟨g, rfl⟩ := gw_fz h2
    obtain ⟨e1, e2, e3⟩ := gw_cell10 (K := K) (m := m) hs hr h10 (c := c) (w := w) hc (by omega)
    obtain ⟨f1, f2, f3⟩ := gw_cell10 (K := K) (m := m) hs hr h10 (c := e) (w := w) he (by omega)
    have cc : (nI (c * 2 ^ gw_q K m + w)).toNatClampNeg = c * 2 ^ gw_q K m + w := nI_clamp (by omega)
    have ce : (nI (e * 2 ^ gw_q K m + w)).toNatClampNeg = e * 2 ^ gw_q K m + w := nI_clamp (by omega)
    rw [wX_showsDiffer_18]
    dsimp only
    rw [e1, f1, cc, ce, hV c w hc (by omega), hV e w he (by omega), gw_b_inj]
    exact br_f (nI_ge (by omega) (by omega)) ⟨vp_in_nI (by omega) (by omega), vp_in_nI (by omega) (by omega), br_c (fun q => nm_r (nI_1 w) (ih (w + 1) g (by omega) (by omega) (lt_s h3 q))) (fun q => h 1 (gw_tv_t ⟨w, by omega, q⟩))⟩
theorem gx_sd {post : Int32 → Prop} {c e net : Nat} (hs : s = gw_cnt (gw_sk K) m) (hr : r = gw_cnt (gw_rk K) m) (h10 : s ≤ 10) (hc : c < 2 ^ r) (he : e < 2 ^ r) (hV : ∀ c w, c < 2 ^ r → w < 2 ^ gw_q K m → xW (c * 2 ^ gw_q K m + w) = gw_b (gw_sh K X Y Z m net w c)) (h : ∀ z, gw_tv (∃ w, w < 2 ^ gw_q K m ∧ gw_sh K X Y Z m net w c ≠ gw_sh K X Y Z m net w e) z → post z) : wpX_showsDiffer post (nI m, nI s, nI r, tl, pe, K, X, Y, Z, F, H, xO, xN, xC, xS, xL, xE, xG, xW, xM, xP) (nI c) (nI e) := by
  have es := gw_srq hs hr
  unfold wpX_showsDiffer
  dsimp only
  exact nm_r (gx_inp hs hr) (nm_r (gw_pow (by omega)) ⟨2 ^ gw_q K m + 1, gx_sd_l hs hr h10 rfl hc he hV h (2 ^ gw_q K m) 0 _ (by omega) (by omega) (fun w hw => absurd hw (Nat.not_lt_zero _))⟩)
theorem gx_la_l {post : Int32 → Prop} {Q c e : Nat} {v : Int32} (hs : s = gw_cnt (gw_sk K) m) (hr : r = gw_cnt (gw_rk K) m) (h10 : s ≤ 10) (h6 : r ≤ 6) (hQ : Q = 2 ^ gw_q K m) (hc : c < 2 ^ r) (he : e < 2 ^ r) (hG : ∀ c w, c < 2 ^ r → w < 2 ^ gw_q K m → xG (c * 2 ^ gw_q K m + w) = nI (gw_stp K X Y Z F m w c)) (h : ∀ z, gw_tv (∃ w, w < Q ∧ xP (gw_stp K X Y Z F m w c * 64 + gw_stp K X Y Z F m w e) = v) z → post z) : ∀ d w g, w + d = Q → d < g → (∀ w', w' < w → xP (gw_stp K X Y Z F m w' c * 64 + gw_stp K X Y Z F m w' e) ≠ v) → wX_leadsApart_20 post (nI c) (nI e) v (nI (gw_q K m)) (nI Q) (nI m) (nI s) (nI r) tl pe K X Y Z F H xO xN xC xS xL xE xG xW xM xP g (nI w) := by
  have es := gw_srq hs hr
  have hQ2 : Q ≤ 1024 := by rw [hQ]; exact gw_p10 (by omega)
  have hR2 := gw_p6 h6
  intro d
  induction d with
  | zero =>
    intro w g h1 h2 h3
    obtain ⟨g, rfl⟩ := gw_fz h2
    rw [wX_leadsApart_20]
    refine br_t (nI_le (by omega) (by omega)) (h 0 (gw_tv_f ?_))
    rintro ⟨w', h4, h5⟩
    exact h3 w' (by omega) h5
  | succ d ih =>
    intro w g h1 h2 h3
    obtain ⟨g, rfl⟩ := gw_fz h2
    obtain ⟨e1, e2, e3⟩ := gw_cell10 (K := K) (m := m) hs hr h10 (c := c) (w := w) hc (by omega)
    obtain ⟨f1, f2, f3⟩ := gw_cell10 (K := K) (m := m) hs hr h10 (c := e) (w := w) he (by omega)
    have cc : (nI (c * 2 ^ gw_q K m + w)).toNatClampNeg = c * 2 ^ gw_q K m + w := nI_clamp (by omega)
    have ce : (nI (e * 2 ^ gw_q K m + w)).toNatClampNeg = e * 2 ^ gw_q K m + w := nI_clamp (by omega)
    have l1 : gw_stp K X Y Z F m w c < 64 := Nat.lt_of_lt_of_le (gw_stp_lt K X Y Z F m w c) (by rw [← hr]; exact hR2)
    have l2 : gw_stp K X Y Z F m w e < 64 := Nat.lt_of_lt_of_le (gw_stp_lt K X Y Z F m w e) (by rw [← hr]; exact hR2)
    have cp : (nI (gw_stp K X Y Z F m w c * 64 + gw_stp K X Y Z F m w e)).toNatClampNeg = gw_stp K X Y Z F m w c * 64 + gw_stp K X Y Z F m w e := nI_clamp (by omega)
    rw [wX_leadsApart_20]
    dsimp only
    rw [e1, f1, cc, ce, hG c w hc (by omega), hG e w he (by omega)]
    refine br_f (nI_ge (by omega) (by omega)) ⟨vp_in_nI (by omega) (by omega), nm_e ⟨vp_in_nI (by omega) (by omega), nm_e ?_⟩⟩
    unfold wpX_pairOf
    rw [gw_pr64]
    dsimp only
    rw [cp]
    exact ⟨vp_in_nI (by omega) (by omega), br_c (fun q => h 1 (gw_tv_t ⟨w, by omega, q⟩)) (fun q => nm_r (nI_1 w) (ih (w + 1) g (by omega) (by omega) (lt_s h3 q)))⟩
theorem gx_la {post : Int32 → Prop} {c e : Nat} {v : Int32} (hs : s = gw_cnt (gw_sk K) m) (hr : r = gw_cnt (gw_rk K) m) (h10 : s ≤ 10) (h6 : r ≤ 6) (hc : c < 2 ^ r) (he : e < 2 ^ r) (hG : ∀ c w, c < 2 ^ r → w < 2 ^ gw_q K m → xG (c * 2 ^ gw_q K m + w) = nI (gw_stp K X Y Z F m w c)) (h : ∀ z, gw_tv (∃ w, w < 2 ^ gw_q K m ∧ xP (gw_stp K X Y Z F m w c * 64 + gw_stp K X Y Z F m w e) = v) z → post z) : wpX_leadsApart post (nI m, nI s, nI r, tl, pe, K, X, Y, Z, F, H, xO, xN, xC, xS, xL, xE, xG, xW, xM, xP) (nI c) (nI e) v := by
  have es := gw_srq hs hr
  unfold wpX_leadsApart
  dsimp only
  exact nm_r (gx_inp hs hr) (nm_r (gw_pow (by omega)) ⟨2 ^ gw_q K m + 1, gx_la_l hs hr h10 h6 rfl hc he hG h (2 ^ gw_q K m) 0 _ (by omega) (by omega) (fun w hw => absurd hw (Nat.not_lt_zero _))⟩)
/-- whether one of the pairs visited is apart at t -/
def gw_any (L : Nat) (stp : Nat → Nat → Nat) (sh : Nat → Nat → Bool) (N t c e : Nat) : Prop := ∃ x y, y < x ∧ x < N ∧ (x < c ∨ (x = c ∧ y < e)) ∧ gw_B L stp sh x y t
theorem gx_ma21_l {post : Int32 → SX → Prop} {J : Int32 → Int32 → (Nat → Int32) → (Nat → Int32) → (Nat → Int32) → (Nat → Int32) → (Nat → Int32) → (Nat → Int32) → (Nat → Int32) → (Nat → Int32) → (Nat → Int32) → (Nat → Int32) → (Nat → Int32) → (Nat → Int32) → (Nat → Int32) → (Nat → Int32) → (Nat → Int32) → (Nat → Int32) → Prop} {R t c net : Nat} (hs : s = gw_cnt (gw_sk K) m) (hr : r = gw_cnt (gw_rk K) m) (h10 : s ≤ 10) (h6 : r ≤ 6) (hRR : R = 2 ^ r) (hc : c < R) (ht : t ≤ 1000) (hG : ∀ c w, c < 2 ^ r → w < 2 ^ gw_q K m → xG (c * 2 ^ gw_q K m + w) = nI (gw_stp K X Y Z F m w c)) (h : ∀ A z, gw_AS (2 ^ gw_q K m) (gw_stp K X Y Z F m) (gw_sh K X Y Z m net) R (t + 1) (fun x y => x < c + 1) A → gw_Sy R A → gw_tv (gw_any (2 ^ gw_q K m) (gw_stp K X Y Z F m) (gw_sh K X Y Z m net) R (t + 1) (c + 1) 0) z → J z (nI (c + 1)) K X Y Z F H xO xN xC xS xL xE xG xW xM A) : ∀ d e g z A, e + d = c → d < g → gw_AS (2 ^ gw_q K m) (gw_stp K X Y Z F m) (gw_sh K X Y Z m net) R (t + 1) (fun x y => x < c ∨ (x = c ∧ y < e)) A → gw_Sy R A → gw_tv (gw_any (2 ^ gw_q K m) (gw_stp K X Y Z F m) (gw_sh K X Y Z m net) R (t + 1) c e) z → wX_markApart_21 post J (nI (t + 1)) (nI R) (nI c) (nI m) (nI s) (nI r) tl pe g z (nI e) K X Y Z F H xO xN xC xS xL xE xG xW xM A := by
  have hR2 : R ≤ 64 := by rw [hRR]; exact gw_p6 h6
  have hstp : ∀ w x, w < 2 ^ gw_q K m → x < R → gw_stp K X Y Z F m w x < R := fun w x _ _ => by rw [hRR, hr]; exact gw_stp_lt K X Y Z F m w x
  intro d
  induction d with
  | zero =>
    intro e g z A h1 h2 hA hSy hz
    obtain ⟨g, rfl⟩ := gw_fz h2
    rw [wX_markApart_21]
    refine br_t (nI_le (by omega) (by omega)) (nm_r (nI_1 c) (h A z (gw_AS_congr hA (fun x y hx hy => ?_)) hSy (gw_tv_iff hz ?_)))
    · constructor
      · rintro (q | q) <;> omega
      · intro q; omega
    · constructor
      · rintro ⟨x, y, q1, q2, q3, q4⟩
        exact ⟨x, y, q1, q2, by omega, q4⟩
      · rintro ⟨x, y, q1, q2, q3, q4⟩
        exact ⟨x, y, q1, q2, by omega, q4⟩
  | succ d ih =>
    intro e g z A h1 h2 hA hSy hz
    obtain ⟨g, rfl⟩ := gw_fz h2
    have cp : (nI (c * 64 + e)).toNatClampNeg = c * 64 + e := nI_clamp (by omega)
    have cp2 : (nI (e * 64 + c)).toNatClampNeg = e * 64 + c := nI_clamp (by omega)
    have vp : vp_in (nI (c * 64 + e)) 4096 := vp_in_nI (by omega) (by omega)
    have vp2 : vp_in (nI (e * 64 + c)) 4096 := vp_in_nI (by omega) (by omega)
    have pc : ∀ x y, y < x → x < R → ((x < c ∨ (x = c ∧ y < e)) ∨ (x = c ∧ y = e) ↔ (x < c ∨ (x = c ∧ y < e + 1))) := by
      intro x y _ _
      constructor
      · rintro ((q | q) | q) <;> omega
      · intro q; omega
    have anyno : ¬ gw_B (2 ^ gw_q K m) (gw_stp K X Y Z F m) (gw_sh K X Y Z m net) c e (t + 1) → gw_tv (gw_any (2 ^ gw_q K m) (gw_stp K X Y Z F m) (gw_sh K X Y Z m net) R (t + 1) c (e + 1)) z := by
      intro nb
      refine gw_tv_iff hz ⟨?_, ?_⟩
      · rintro ⟨x, y, q1, q2, q3, q4⟩
        exact ⟨x, y, q1, q2, by omega, q4⟩
      · rintro ⟨x, y, q1, q2, q3, q4⟩
        by_cases q5 : x = c ∧ y = e
        · obtain ⟨rfl, rfl⟩ := q5
          exact absurd q4 nb
        · exact ⟨x, y, q1, q2, by omega, q4⟩
    rw [wX_markApart_21]
    refine br_f (nI_ge (by omega) (by omega)) ?_
    unfold wpX_pairOf
    rw [gw_pr64, gw_pr64]
    dsimp only
    rw [cp, cp2, nI_pred]
    refine ⟨vp, br_c (fun q => ?_) (fun q => nm_r (nI_1 e) (ih (e + 1) g z A (by omega) (by omega) (gw_AS_congr (gw_AS_skip hA (by omega) hc (Or.inl q)) pc) hSy (anyno ?_)))⟩
    · obtain ⟨n1, n2⟩ := gw_AS_neg hA (by omega) (by omega) hc q
      have test := gw_AS_test hstp hA (by omega) (show e < c by omega) hc n1
      refine gx_la hs hr h10 h6 (by omega) (by omega) hG (fun z10 hz10 => ?_)
      have hz2 : gw_tv (gw_B (2 ^ gw_q K m) (gw_stp K X Y Z F m) (gw_sh K X Y Z m net) c e (t + 1)) z10 := by
        refine gw_tv_iff hz10 (Iff.trans ?_ test)
        constructor
        · rintro ⟨w, hw, q2⟩
          exact ⟨w, hw, by rw [← hSy _ _ (hstp w c hw hc) (hstp w e hw (by omega))]; exact q2⟩
        · rintro ⟨w, hw, q2⟩
          exact ⟨w, hw, by rw [← hSy _ _ (hstp w c hw hc) (hstp w e hw (by omega))] at q2; exact q2⟩
      rcases hz2 with ⟨hB, e10⟩ | ⟨nB, e10⟩
      · rw [e10]
        refine br_f gw_n10 ⟨vp, nm_e ⟨vp2, nm_e (nm_r (nI_1 e) (ih (e + 1) g 1 _ (by omega) (by omega) (gw_AS_upper hR2 (gw_AS_congr (gw_AS_mark hR2 hA (by omega) (by omega) hc q hB) pc) (by omega) hc) (gw_Sy_mark hR2 hSy (by omega) hc) (gw_tv_t ⟨c, e, by omega, hc, by omega, hB⟩)))⟩⟩
      · rw [e10]
        exact br_t rfl (nm_r (nI_1 e) (ih (e + 1) g z A (by omega) (by omega) (gw_AS_congr (gw_AS_skip hA (by omega) hc (Or.inr nB)) pc) hSy (anyno nB)))
    · intro hB
      rcases gw_AS_cases hA (show e < c by omega) hc with ⟨s', hs', hb', _⟩ | ⟨hp, _, _⟩ | ⟨_, _, q2⟩
      · have := gw_B_u hB hb'
        omega
      · omega
      · exact q q2
theorem gx_ma12_l {post : Int32 → SX → Prop} {R t net : Nat} (hs : s = gw_cnt (gw_sk K) m) (hr : r = gw_cnt (gw_rk K) m) (h10 : s ≤ 10) (h6 : r ≤ 6) (hRR : R = 2 ^ r) (ht : t ≤ 1000) (hG : ∀ c w, c < 2 ^ r → w < 2 ^ gw_q K m → xG (c * 2 ^ gw_q K m + w) = nI (gw_stp K X Y Z F m w c)) (h : ∀ A z, gw_AS (2 ^ gw_q K m) (gw_stp K X Y Z F m) (gw_sh K X Y Z m net) R (t + 1) (fun x y => x < R) A → gw_Sy R A → gw_tv (gw_any (2 ^ gw_q K m) (gw_stp K X Y Z F m) (gw_sh K X Y Z m net) R (t + 1) R 0) z → post z (nI m, nI s, nI r, tl, pe, K, X, Y, Z, F, H, xO, xN, xC, xS, xL, xE, xG, xW, xM, A)) : ∀ d c g z A, c + d = R → d < g → gw_AS (2 ^ gw_q K m) (gw_stp K X Y Z F m) (gw_sh K X Y Z m net) R (t + 1) (fun x y => x < c) A → gw_Sy R A → gw_tv (gw_any (2 ^ gw_q K m) (gw_stp K X Y Z F m) (gw_sh K X Y Z m net) R (t + 1) c 0) z → wX_markApart_12 post (nI (t + 1)) (nI R) (nI m) (nI s) (nI r) tl pe g z (nI c) K X Y Z F H xO xN xC xS xL xE xG xW xM A := by
  have hR2 : R ≤ 64 := by rw [hRR]; exact gw_p6 h6
  intro d
  induction d with
  | zero =>
    intro c g z A h1 h2 hA hSy hz
    obtain ⟨g, rfl⟩ := gw_fz h2
    have e : c = R := by omega
    subst e
    rw [wX_markApart_12]
    exact br_t (nI_le (by omega) (by omega)) ⟨gw_nb (gw_tv_01 hz), h A z hA hSy hz⟩
  | succ d ih =>
    intro c g z A h1 h2 hA hSy hz
    obtain ⟨g, rfl⟩ := gw_fz h2
    rw [wX_markApart_12]
    refine br_f (nI_ge (by omega) (by omega)) ⟨c + 1, gx_ma21_l hs hr h10 h6 hRR (by omega) ht hG (fun A' z' hA' hSy' hz' => ih (c + 1) g z' A' (by omega) (by omega) hA' hSy' hz') c 0 (c + 1) z A (by omega) (by omega) (gw_AS_congr hA (fun x y _ _ => ?_)) hSy hz⟩
    constructor
    · intro q; omega
    · rintro (q | q) <;> omega
theorem gx_ma {post : Int32 → SX → Prop} {t net : Nat} (hs : s = gw_cnt (gw_sk K) m) (hr : r = gw_cnt (gw_rk K) m) (h10 : s ≤ 10) (h6 : r ≤ 6) (ht : t ≤ 1000) (hG : ∀ c w, c < 2 ^ r → w < 2 ^ gw_q K m → xG (c * 2 ^ gw_q K m + w) = nI (gw_stp K X Y Z F m w c)) (hA : gw_AS (2 ^ gw_q K m) (gw_stp K X Y Z F m) (gw_sh K X Y Z m net) (2 ^ r) (t + 1) (fun _ _ => False) xP) (hSy : gw_Sy (2 ^ r) xP) (h : ∀ A z, gw_AS (2 ^ gw_q K m) (gw_stp K X Y Z F m) (gw_sh K X Y Z m net) (2 ^ r) (t + 1) (fun x y => x < 2 ^ r) A → gw_Sy (2 ^ r) A → gw_tv (gw_any (2 ^ gw_q K m) (gw_stp K X Y Z F m) (gw_sh K X Y Z m net) (2 ^ r) (t + 1) (2 ^ r) 0) z → post z (nI m, nI s, nI r, tl, pe, K, X, Y, Z, F, H, xO, xN, xC, xS, xL, xE, xG, xW, xM, A)) : wpX_markApart post (nI m, nI s, nI r, tl, pe, K, X, Y, Z, F, H, xO, xN, xC, xS, xL, xE, xG, xW, xM, xP) (nI (t + 1)) := by
  unfold wpX_markApart
  dsimp only
  refine nm_r (gw_pow (by omega)) ⟨2 ^ r + 1, gx_ma12_l hs hr h10 h6 rfl ht hG h (2 ^ r) 0 (2 ^ r + 1) 0 xP (by omega) (by omega) (gw_AS_congr hA (fun x y _ _ => ⟨fun q => q.elim, fun q => absurd q (Nat.not_lt_zero _)⟩)) hSy (gw_tv_f ?_)⟩
  rintro ⟨x, y, q1, q2, q3, q4⟩
  omega
theorem gx_fa61_l {post : SX → Prop} {R net : Nat} (hs : s = gw_cnt (gw_sk K) m) (hr : r = gw_cnt (gw_rk K) m) (h10 : s ≤ 10) (h6 : r ≤ 6) (hRR : R = 2 ^ r) (hG : ∀ c w, c < 2 ^ r → w < 2 ^ gw_q K m → xG (c * 2 ^ gw_q K m + w) = nI (gw_stp K X Y Z F m w c)) (h : ∀ A, gw_AF (2 ^ gw_q K m) (gw_stp K X Y Z F m) (gw_sh K X Y Z m net) R A → gw_Sy R A → post (nI m, nI s, nI r, tl, pe, K, X, Y, Z, F, H, xO, xN, xC, xS, xL, xE, xG, xW, xM, A)) : ∀ d t g A, t + d = R → d + 1 < g → gw_AS (2 ^ gw_q K m) (gw_stp K X Y Z F m) (gw_sh K X Y Z m net) R (t + 1) (fun _ _ => False) A → gw_Sy R A → wX_findApart_61 post (nI R) g 1 (nI (t + 1)) (nI m) (nI s) (nI r) tl pe K X Y Z F H xO xN xC xS xL xE xG xW xM A := by
  have hR2 : R ≤ 64 := by rw [hRR]; exact gw_p6 h6
  have hstp : ∀ w x, w < 2 ^ gw_q K m → x < R → gw_stp K X Y Z F m w x < R := fun w x _ _ => by rw [hRR, hr]; exact gw_stp_lt K X Y Z F m w x
  intro d
  induction d with
  | zero =>
    intro t g A h1 h2 hA hSy
    obtain ⟨g, rfl⟩ := gw_fz h2
    rw [wX_findApart_61]
    exact br_t (nI_lt (by omega) (by omega)) (h A (gw_AF_N hstp (by omega) hA) hSy)
  | succ d ih =>
    intro t g A h1 h2 hA hSy
    obtain ⟨g, rfl⟩ := gw_fz h2
    obtain ⟨g, rfl⟩ := gw_fz (show 0 < g by omega)
    rw [wX_findApart_61]
    refine br_f (nI_nlt (by omega) (by omega)) (br_f gw_n10 ?_)
    subst hRR
    refine gx_ma (net := net) hs hr h10 h6 (by omega) hG hA hSy (fun A' z hA' hSy' hz => nm_r (nI_1 (t + 1)) ?_)
    rcases hz with ⟨_, e⟩ | ⟨hn, e⟩
    · rw [e]
      exact ih (t + 1) (g + 1) A' (by omega) (by omega) (gw_AS_next hA' (fun c d _ hc => hc)) hSy'
    · rw [e, wX_findApart_61]
      have hF : gw_AF (2 ^ gw_q K m) (gw_stp K X Y Z F m) (gw_sh K X Y Z m net) (2 ^ r) A' := gw_AF_stop hstp hA' (fun c d _ hc => hc) (fun c d h3 h4 hb => hn ⟨c, d, h3, h4, Or.inl h4, hb⟩)
      exact br_c (fun _ => h A' hF hSy') (fun _ => br_t rfl (h A' hF hSy'))
theorem gx_fa16_l {post : SX → Prop} {J : Int32 → (Nat → Int32) → (Nat → Int32) → (Nat → Int32) → (Nat → Int32) → (Nat → Int32) → (Nat → Int32) → (Nat → Int32) → (Nat → Int32) → (Nat → Int32) → (Nat → Int32) → (Nat → Int32) → (Nat → Int32) → (Nat → Int32) → (Nat → Int32) → (Nat → Int32) → (Nat → Int32) → Prop} {R c net : Nat} (hs : s = gw_cnt (gw_sk K) m) (hr : r = gw_cnt (gw_rk K) m) (h10 : s ≤ 10) (h6 : r ≤ 6) (hRR : R = 2 ^ r) (hc : c < R) (hV : ∀ c w, c < 2 ^ r → w < 2 ^ gw_q K m → xW (c * 2 ^ gw_q K m + w) = gw_b (gw_sh K X Y Z m net w c)) (h : ∀ A, (∀ x y, x < c + 1 → y < R → gw_I0 (2 ^ gw_q K m) (gw_stp K X Y Z F m) (gw_sh K X Y Z m net) A x y) → J (nI (c + 1)) K X Y Z F H xO xN xC xS xL xE xG xW xM A) : ∀ d e g A, e + d = R → d < g → (∀ x y, x < R → y < R → (x < c ∨ (x = c ∧ y < e)) → gw_I0 (2 ^ gw_q K m) (gw_stp K X Y Z F m) (gw_sh K X Y Z m net) A x y) → wX_findApart_16 post J (nI R) (nI c) (nI m) (nI s) (nI r) tl pe g (nI e) K X Y Z F H xO xN xC xS xL xE xG xW xM A := by
  have hR2 : R ≤ 64 := by rw [hRR]; exact gw_p6 h6
  intro d
  induction d with
  | zero =>
    intro e g A h1 h2 hA
    obtain ⟨g, rfl⟩ := gw_fz h2
    rw [wX_findApart_16]
    exact br_t (nI_le (by omega) (by omega)) (nm_r (nI_1 c) (h A (fun x y hx hy => hA x y (by omega) hy (by omega))))
  | succ d ih =>
    intro e g A h1 h2 hA
    obtain ⟨g, rfl⟩ := gw_fz h2
    have cp : (nI (c * 64 + e)).toNatClampNeg = c * 64 + e := nI_clamp (by omega)
    have vp : vp_in (nI (c * 64 + e)) 4096 := vp_in_nI (by omega) (by omega)
    have next : ∀ v : Int32, (gw_A (2 ^ gw_q K m) (gw_stp K X Y Z F m) (gw_sh K X Y Z m net) 0 c e ∧ v = 0) ∨ (¬ gw_A (2 ^ gw_q K m) (gw_stp K X Y Z F m) (gw_sh K X Y Z m net) 0 c e ∧ v = -1) → wX_findApart_16 post J (nI R) (nI c) (nI m) (nI s) (nI r) tl pe g (nI (e + 1)) K X Y Z F H xO xN xC xS xL xE xG xW xM (upd A (c * 64 + e) v) := by
      intro v hv
      refine ih (e + 1) g _ (by omega) (by omega) (fun x y hx hy hxy => ?_)
      by_cases q : x = c ∧ y = e
      · obtain ⟨rfl, rfl⟩ := q
        unfold gw_I0
        rw [pk_us]
        exact hv
      · unfold gw_I0
        rw [pk_un (fun q2 => q (gw_pair (by omega) (by omega) q2))]
        exact hA x y hx hy (by omega)
    rw [wX_findApart_16]
    refine br_f (nI_ge (by omega) (by omega)) ?_
    unfold wpX_pairOf
    rw [gw_pr64]
    dsimp only
    rw [cp]
    refine gx_sd hs hr h10 (by omega) (by omega) hV (fun z hz => ?_)
    rcases hz with ⟨p, e0⟩ | ⟨p, e0⟩
    · rw [e0]
      exact br_f gw_n10 ⟨vp, nm_e (nm_r (nI_1 e) (next 0 (Or.inl ⟨p, rfl⟩)))⟩
    · rw [e0]
      exact br_t rfl ⟨vp, nm_e (nm_r (nI_1 e) (next (-1) (Or.inr ⟨p, rfl⟩)))⟩
theorem gx_fa9_l {post : SX → Prop} {R net : Nat} (hs : s = gw_cnt (gw_sk K) m) (hr : r = gw_cnt (gw_rk K) m) (h10 : s ≤ 10) (h6 : r ≤ 6) (hRR : R = 2 ^ r) (hG : ∀ c w, c < 2 ^ r → w < 2 ^ gw_q K m → xG (c * 2 ^ gw_q K m + w) = nI (gw_stp K X Y Z F m w c)) (hV : ∀ c w, c < 2 ^ r → w < 2 ^ gw_q K m → xW (c * 2 ^ gw_q K m + w) = gw_b (gw_sh K X Y Z m net w c)) (h : ∀ A, gw_AF (2 ^ gw_q K m) (gw_stp K X Y Z F m) (gw_sh K X Y Z m net) R A → gw_Sy R A → post (nI m, nI s, nI r, tl, pe, K, X, Y, Z, F, H, xO, xN, xC, xS, xL, xE, xG, xW, xM, A)) : ∀ d c g A, c + d = R → d < g → (∀ x y, x < c → y < R → gw_I0 (2 ^ gw_q K m) (gw_stp K X Y Z F m) (gw_sh K X Y Z m net) A x y) → wX_findApart_9 post (nI R) (nI m) (nI s) (nI r) tl pe g (nI c) K X Y Z F H xO xN xC xS xL xE xG xW xM A := by
  have hR2 : R ≤ 64 := by rw [hRR]; exact gw_p6 h6
  intro d
  induction d with
  | zero =>
    intro c g A h1 h2 hA
    obtain ⟨g, rfl⟩ := gw_fz h2
    have e : c = R := by omega
    subst e
    rw [wX_findApart_9]
    exact br_t (nI_le (by omega) (by omega)) ⟨c + 2, gx_fa61_l hs hr h10 h6 hRR hG h c 0 (c + 2) A (by omega) (by omega) (gw_I0_AS hA) (gw_I0_Sy hA)⟩
  | succ d ih =>
    intro c g A h1 h2 hA
    obtain ⟨g, rfl⟩ := gw_fz h2
    rw [wX_findApart_9]
    exact br_f (nI_ge (by omega) (by omega)) ⟨R + 1, gx_fa16_l hs hr h10 h6 hRR (by omega) hV (fun A' hA' => ih (c + 1) g A' (by omega) (by omega) hA') R 0 (R + 1) A (by omega) (by omega) (fun x y hx hy hxy => hA x y (by omega) hy)⟩
theorem gx_fa {post : SX → Prop} {net : Nat} (hs : s = gw_cnt (gw_sk K) m) (hr : r = gw_cnt (gw_rk K) m) (h10 : s ≤ 10) (h6 : r ≤ 6) (hG : ∀ c w, c < 2 ^ r → w < 2 ^ gw_q K m → xG (c * 2 ^ gw_q K m + w) = nI (gw_stp K X Y Z F m w c)) (hV : ∀ c w, c < 2 ^ r → w < 2 ^ gw_q K m → xW (c * 2 ^ gw_q K m + w) = gw_b (gw_sh K X Y Z m net w c)) (h : ∀ A, gw_AF (2 ^ gw_q K m) (gw_stp K X Y Z F m) (gw_sh K X Y Z m net) (2 ^ r) A → gw_Sy (2 ^ r) A → post (nI m, nI s, nI r, tl, pe, K, X, Y, Z, F, H, xO, xN, xC, xS, xL, xE, xG, xW, xM, A)) : wpX_findApart post (nI m, nI s, nI r, tl, pe, K, X, Y, Z, F, H, xO, xN, xC, xS, xL, xE, xG, xW, xM, xP) := by
  unfold wpX_findApart
  dsimp only
  exact nm_r (gw_pow (by omega)) ⟨2 ^ r + 1, gx_fa9_l hs hr h10 h6 rfl hG hV h (2 ^ r) 0 (2 ^ r + 1) xP (by omega) (by omega) (fun x y hx => absurd hx (Nat.not_lt_zero _))⟩
end
