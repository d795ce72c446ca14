/-! how soon two configurations are apart: labels w below L, stp w c the step, sh w c what is shown -/
def gw_A (L : Nat) (stp : Nat → Nat → Nat) (sh : Nat → Nat → Bool) : Nat → Nat → Nat → Prop
  | 0, c, d => ∃ w, w < L ∧ sh w c ≠ sh w d
  | t + 1, c, d => ∃ w, w < L ∧ gw_A L stp sh t (stp w c) (stp w d)
theorem gw_A_irr {L : Nat} {stp : Nat → Nat → Nat} {sh : Nat → Nat → Bool} : ∀ t c, ¬ gw_A L stp sh t c c := by
  intro t
  induction t with
  | zero => intro c ⟨w, _, h⟩; exact h rfl
  | succ t ih => intro c ⟨w, _, h⟩; exact ih _ h
theorem gw_A_sym {L : Nat} {stp : Nat → Nat → Nat} {sh : Nat → Nat → Bool} : ∀ t c d, gw_A L stp sh t c d → gw_A L stp sh t d c := by
  intro t
  induction t with
  | zero => intro c d ⟨w, hw, h⟩; exact ⟨w, hw, fun e => h e.symm⟩
  | succ t ih => intro c d ⟨w, hw, h⟩; exact ⟨w, hw, ih _ _ h⟩
theorem gw_A_tr {L : Nat} {stp : Nat → Nat → Nat} {sh : Nat → Nat → Bool} : ∀ t c d e, gw_A L stp sh t c e → gw_A L stp sh t c d ∨ gw_A L stp sh t d e := by
  intro t
  induction t with
  | zero =>
    intro c d e ⟨w, hw, h⟩
    by_cases g : sh w c = sh w d
    · exact Or.inr ⟨w, hw, fun g2 => h (g.trans g2)⟩
    · exact Or.inl ⟨w, hw, g⟩
  | succ t ih =>
    intro c d e ⟨w, hw, h⟩
    rcases ih _ (stp w d) _ h with g | g
    · exact Or.inl ⟨w, hw, g⟩
    · exact Or.inr ⟨w, hw, g⟩
/-- t is the least -/
def gw_B (L : Nat) (stp : Nat → Nat → Nat) (sh : Nat → Nat → Bool) (c d t : Nat) : Prop := gw_A L stp sh t c d ∧ ∀ s, s < t → ¬ gw_A L stp sh s c d
section
variable {L : Nat} {stp : Nat → Nat → Nat} {sh : Nat → Nat → Bool}
theorem gw_B_u {c d s t : Nat} (h : gw_B L stp sh c d s) (g : gw_B L stp sh c d t) : s = t := by
  rcases Nat.lt_trichotomy s t with e | e | e
  · exact absurd h.1 (g.2 s e)
  · exact e
  · exact absurd g.1 (h.2 t e)
theorem gw_B_of {c d t : Nat} (h : gw_A L stp sh t c d) : ∃ s, s ≤ t ∧ gw_B L stp sh c d s := by
  obtain ⟨s, h1, h2⟩ := pk_least (fun s => gw_A L stp sh s c d) ⟨t, h⟩
  refine ⟨s, ?_, h1, h2⟩
  apply Nat.le_of_not_lt
  intro g
  exact h2 t g h
theorem gw_B_sym {c d t : Nat} (h : gw_B L stp sh c d t) : gw_B L stp sh d c t :=
  ⟨gw_A_sym _ _ _ h.1, fun s hs g => h.2 s hs (gw_A_sym _ _ _ g)⟩
theorem gw_B_irr {c t : Nat} : ¬ gw_B L stp sh c c t := fun h => gw_A_irr _ _ h.1
theorem gw_B_p {c d t : Nat} (h : gw_B L stp sh c d (t + 1)) : ∃ w, w < L ∧ gw_B L stp sh (stp w c) (stp w d) t := by
  obtain ⟨w, hw, h1⟩ := h.1
  refine ⟨w, hw, h1, fun s hs g => h.2 (s + 1) (by omega) ⟨w, hw, g⟩⟩
theorem gw_B_low {N : Nat} (hN : ∀ w c, w < L → c < N → stp w c < N) {t : Nat} : ∀ c d, c < N → d < N → gw_B L stp sh c d t → ∀ s, s ≤ t → ∃ c' d', c' < N ∧ d' < N ∧ gw_B L stp sh c' d' s := by
  induction t with
  | zero => intro c d hc hd h s hs; exact ⟨c, d, hc, hd, by rw [Nat.le_zero.mp hs]; exact h⟩
  | succ t ih =>
    intro c d hc hd h s hs
    rcases Nat.lt_or_ge t s with g | g
    · exact ⟨c, d, hc, hd, by rw [show s = t + 1 by omega]; exact h⟩
    · obtain ⟨w, hw, h1⟩ := gw_B_p h
      exact ih _ _ (hN w c hw hc) (hN w d hw hd) h1 s g
/-- not apart within t -/
def gw_Q (L : Nat) (stp : Nat → Nat → Nat) (sh : Nat → Nat → Bool) (t c d : Nat) : Prop := ∀ s, s ≤ t → ¬ gw_A L stp sh s c d
theorem gw_Q_r {t c : Nat} : gw_Q L stp sh t c c := fun s _ => gw_A_irr s c
theorem gw_Q_s {t c d : Nat} (h : gw_Q L stp sh t c d) : gw_Q L stp sh t d c := fun s hs g => h s hs (gw_A_sym _ _ _ g)
theorem gw_Q_t {t c d e : Nat} (h : gw_Q L stp sh t c d) (g : gw_Q L stp sh t d e) : gw_Q L stp sh t c e := fun s hs a => by
  rcases gw_A_tr s c d e a with b | b
  · exact h s hs b
  · exact g s hs b
theorem gw_Q_m {t c d : Nat} (h : gw_Q L stp sh (t + 1) c d) : gw_Q L stp sh t c d := fun s hs => h s (by omega)
noncomputable def gw_ld (L : Nat) (stp : Nat → Nat → Nat) (sh : Nat → Nat → Bool) (t c : Nat) : Bool :=
  @decide (∀ d, d < c → ¬ gw_Q L stp sh t d c) (Classical.propDecidable _)
theorem gw_ld_t {t c : Nat} : gw_ld L stp sh t c = true ↔ ∀ d, d < c → ¬ gw_Q L stp sh t d c := by
  unfold gw_ld
  exact @decide_eq_true_iff _ (Classical.propDecidable _)
theorem gw_ld_low {t c : Nat} : ∃ e, e ≤ c ∧ gw_Q L stp sh t e c ∧ gw_ld L stp sh t e = true := by
  obtain ⟨e, h1, h2⟩ := pk_least (fun e => gw_Q L stp sh t e c) ⟨c, gw_Q_r⟩
  refine ⟨e, ?_, h1, gw_ld_t.mpr (fun d hd g => h2 d hd (gw_Q_t g h1))⟩
  apply Nat.le_of_not_lt
  intro g
  exact h2 c g gw_Q_r
theorem gw_ld_more {N t c d : Nat} (hc : c < N) (hd : d < N) (h : gw_B L stp sh c d (t + 1)) : gw_cnt (gw_ld L stp sh t) N < gw_cnt (gw_ld L stp sh (t + 1)) N := by
  obtain ⟨c1, c2, c3, c4⟩ := gw_ld_low (L := L) (stp := stp) (sh := sh) (t := t + 1) (c := c)
  obtain ⟨d1, d2, d3, d4⟩ := gw_ld_low (L := L) (stp := stp) (sh := sh) (t := t + 1) (c := d)
  have hq : gw_Q L stp sh t c d := fun s hs => h.2 s (by omega)
  have h1 : gw_Q L stp sh t c1 d1 := gw_Q_t (gw_Q_m c3) (gw_Q_t hq (gw_Q_s (gw_Q_m d3)))
  have hne : c1 ≠ d1 := fun e => by
    subst e
    exact gw_Q_t (gw_Q_s c3) d3 (t + 1) (Nat.le_refl _) h.1
  have hsub : ∀ j, j < N → gw_ld L stp sh t j = true → gw_ld L stp sh (t + 1) j = true := fun j _ hj =>
    gw_ld_t.mpr (fun e he g => gw_ld_t.mp hj e he (gw_Q_m g))
  rcases Nat.lt_or_ge c1 d1 with g | g
  · refine gw_cnt_ssub hsub (show d1 < N by omega) ?_ d4
    cases hl : gw_ld L stp sh t d1 with
    | false => rfl
    | true => exact absurd h1 (gw_ld_t.mp hl c1 g)
  · refine gw_cnt_ssub hsub (show c1 < N by omega) ?_ c4
    cases hl : gw_ld L stp sh t c1 with
    | false => rfl
    | true => exact absurd (gw_Q_s h1) (gw_ld_t.mp hl d1 (by omega))
/-- so nothing is apart after N ticks or more that wasn't before -/
theorem gw_B_lt {N : Nat} (hN : ∀ w c, w < L → c < N → stp w c < N) {c d t : Nat} (hc : c < N) (hd : d < N) (h : gw_B L stp sh c d t) : t < N := by
  have key : ∀ s, s ≤ t → s + 1 ≤ gw_cnt (gw_ld L stp sh s) N := by
    intro s
    induction s with
    | zero =>
      intro _
      have h0 : gw_ld L stp sh 0 0 = true := gw_ld_t.mpr (fun d hd => absurd hd (Nat.not_lt_zero _))
      have := gw_cnt_lt h0 (show 0 < N by omega)
      omega
    | succ s ih =>
      intro hs
      have h1 := ih (by omega)
      obtain ⟨c', d', hc', hd', h2⟩ := gw_B_low hN c d hc hd h (s + 1) hs
      have := gw_ld_more hc' hd' h2
      omega
  have h1 := key t (Nat.le_refl _)
  have h2 := gw_cnt_le (gw_ld L stp sh t) N
  omega
end
/-- a table of pairs d < c within a round: what is apart before t stands; of what is apart at t, the pairs in P -/
def gw_AS (L : Nat) (stp : Nat → Nat → Nat) (sh : Nat → Nat → Bool) (N t : Nat) (P : Nat → Nat → Prop) (a : Nat → Int32) : Prop :=
  ∀ c d, d < c → c < N → (∀ s, s < t → gw_B L stp sh c d s → a (c * 64 + d) = nI s) ∧ ((∀ s, s < t → ¬ gw_B L stp sh c d s) → (P c d → gw_B L stp sh c d t → a (c * 64 + d) = nI t) ∧ (¬ (P c d ∧ gw_B L stp sh c d t) → a (c * 64 + d) = -1))
section
variable {L : Nat} {stp : Nat → Nat → Nat} {sh : Nat → Nat → Bool}
theorem gw_AS_0 {N : Nat} {a : Nat → Int32} (h : ∀ c d, d < c → c < N → a (c * 64 + d) = -1) : gw_AS L stp sh N 0 (fun _ _ => False) a :=
  fun c d h1 h2 => ⟨fun s hs => absurd hs (Nat.not_lt_zero _), fun _ => ⟨fun f => f.elim, fun _ => h c d h1 h2⟩⟩
theorem gw_AS_cases {N t c d : Nat} {P : Nat → Nat → Prop} {a : Nat → Int32} (h : gw_AS L stp sh N t P a) (h1 : d < c) (h2 : c < N) : (∃ s, s < t ∧ gw_B L stp sh c d s ∧ a (c * 64 + d) = nI s) ∨ (P c d ∧ gw_B L stp sh c d t ∧ a (c * 64 + d) = nI t) ∨ ((∀ s, s < t → ¬ gw_B L stp sh c d s) ∧ ¬ (P c d ∧ gw_B L stp sh c d t) ∧ a (c * 64 + d) = -1) := by
  obtain ⟨g1, g2⟩ := h c d h1 h2
  by_cases g : ∃ s, s < t ∧ gw_B L stp sh c d s
  · obtain ⟨s, hs, hb⟩ := g
    exact Or.inl ⟨s, hs, hb, g1 s hs hb⟩
  · have hn : ∀ s, s < t → ¬ gw_B L stp sh c d s := fun s hs hb => g ⟨s, hs, hb⟩
    have g3 := g2 hn
    by_cases gp : P c d ∧ gw_B L stp sh c d t
    · exact Or.inr (Or.inl ⟨gp.1, gp.2, g3.1 gp.1 gp.2⟩)
    · exact Or.inr (Or.inr ⟨hn, gp, g3.2 gp⟩)
theorem gw_AS_val {N t c d s : Nat} {P : Nat → Nat → Prop} {a : Nat → Int32} (h : gw_AS L stp sh N t P a) (ht : t < 2 ^ 31) (h1 : d < c) (h2 : c < N) (hs : s < t) : a (c * 64 + d) = nI s ↔ gw_B L stp sh c d s := by
  refine ⟨fun e => ?_, fun hb => (h c d h1 h2).1 s hs hb⟩
  rcases gw_AS_cases h h1 h2 with ⟨s', hs', hb, e'⟩ | ⟨_, hb, e'⟩ | ⟨_, _, e'⟩
  · rw [e, nI_eq (by omega) (by omega)] at e'
    rw [e']; exact hb
  · rw [e, nI_eq (by omega) (by omega)] at e'
    omega
  · rw [e] at e'
    exact absurd e' (gw_m1 (by omega))
theorem gw_AS_neg {N t c d : Nat} {P : Nat → Nat → Prop} {a : Nat → Int32} (h : gw_AS L stp sh N t P a) (ht : t < 2 ^ 31) (h1 : d < c) (h2 : c < N) (e : a (c * 64 + d) = -1) : (∀ s, s < t → ¬ gw_B L stp sh c d s) ∧ ¬ (P c d ∧ gw_B L stp sh c d t) := by
  rcases gw_AS_cases h h1 h2 with ⟨s', hs', hb, e'⟩ | ⟨_, hb, e'⟩ | ⟨hn, hp, _⟩
  · rw [e] at e'
    exact absurd e'.symm (gw_m1 (by omega))
  · rw [e] at e'
    exact absurd e'.symm (gw_m1 (by omega))
  · exact ⟨hn, hp⟩
theorem gw_pair {c d c' d' : Nat} (h1 : d < 64) (h2 : d' < 64) (h : c * 64 + d = c' * 64 + d') : c = c' ∧ d = d' := by omega
theorem gw_AS_mark {N t c d : Nat} {P : Nat → Nat → Prop} {a : Nat → Int32} (hN : N ≤ 64) (h : gw_AS L stp sh N t P a) (ht : t < 2 ^ 31) (h1 : d < c) (h2 : c < N) (e : a (c * 64 + d) = -1) (hb : gw_B L stp sh c d t) : gw_AS L stp sh N t (fun x y => P x y ∨ (x = c ∧ y = d)) (upd a (c * 64 + d) (nI t)) := by
  intro x y hx hy
  by_cases g : x = c ∧ y = d
  · obtain ⟨rfl, rfl⟩ := g
    refine ⟨fun s hs hb' => ?_, fun _ => ⟨fun _ _ => pk_us, fun hn => absurd ⟨Or.inr ⟨rfl, rfl⟩, hb⟩ hn⟩⟩
    have := gw_B_u hb hb'
    omega
  · have hne : x * 64 + y ≠ c * 64 + d := fun e' => g (gw_pair (by omega) (by omega) e')
    obtain ⟨g1, g2⟩ := h x y hx hy
    rw [pk_un hne]
    refine ⟨g1, fun hn => ⟨fun hp hb' => ?_, fun hp => (g2 hn).2 (fun hp' => hp ⟨Or.inl hp'.1, hp'.2⟩)⟩⟩
    rcases hp with hp | hp
    · exact (g2 hn).1 hp hb'
    · exact absurd hp g
theorem gw_AS_skip {N t c d : Nat} {P : Nat → Nat → Prop} {a : Nat → Int32} (h : gw_AS L stp sh N t P a) (h1 : d < c) (h2 : c < N) (e : a (c * 64 + d) ≠ -1 ∨ ¬ gw_B L stp sh c d t) : gw_AS L stp sh N t (fun x y => P x y ∨ (x = c ∧ y = d)) a := by
  intro x y hx hy
  obtain ⟨g1, g2⟩ := h x y hx hy
  refine ⟨g1, fun hn => ⟨fun hp hb => ?_, fun hp => (g2 hn).2 (fun hp' => hp ⟨Or.inl hp'.1, hp'.2⟩)⟩⟩
  rcases hp with hp | ⟨rfl, rfl⟩
  · exact (g2 hn).1 hp hb
  · rcases e with e | e
    · rcases gw_AS_cases h h1 h2 with ⟨s', hs', hb', e'⟩ | ⟨hp, hb, e'⟩ | ⟨_, _, e'⟩
      · exact absurd hb' (hn s' hs')
      · exact e'
      · exact absurd e' e
    · exact absurd hb e
theorem gw_AS_congr {N t : Nat} {P Q : Nat → Nat → Prop} {a : Nat → Int32} (h : gw_AS L stp sh N t P a) (hpq : ∀ c d, d < c → c < N → (P c d ↔ Q c d)) : gw_AS L stp sh N t Q a := by
  intro x y hx hy
  obtain ⟨g1, g2⟩ := h x y hx hy
  refine ⟨g1, fun hn => ⟨fun hp => (g2 hn).1 ((hpq x y hx hy).mpr hp), fun hp => (g2 hn).2 (fun hp' => hp ⟨(hpq x y hx hy).mp hp'.1, hp'.2⟩)⟩⟩
theorem gw_AS_next {N t : Nat} {P : Nat → Nat → Prop} {a : Nat → Int32} (h : gw_AS L stp sh N t P a) (hP : ∀ c d, d < c → c < N → P c d) : gw_AS L stp sh N (t + 1) (fun _ _ => False) a := by
  intro x y hx hy
  obtain ⟨g1, g2⟩ := h x y hx hy
  refine ⟨fun s hs hb => ?_, fun hn => ⟨fun f => f.elim, fun _ => ?_⟩⟩
  · rcases Nat.lt_or_ge s t with g | g
    · exact g1 s g hb
    · have e : s = t := by omega
      subst e
      refine (g2 (fun s' hs' hb' => ?_)).1 (hP x y hx hy) hb
      have := gw_B_u hb hb'
      omega
  · exact (g2 (fun s hs => hn s (by omega))).2 (fun hp => hn t (by omega) hp.2)
def gw_AF (L : Nat) (stp : Nat → Nat → Nat) (sh : Nat → Nat → Bool) (N : Nat) (a : Nat → Int32) : Prop :=
  ∀ c d, d < c → c < N → (∀ s, gw_B L stp sh c d s → a (c * 64 + d) = nI s) ∧ ((∀ s, ¬ gw_B L stp sh c d s) → a (c * 64 + d) = -1)
theorem gw_AF_N {N t : Nat} {a : Nat → Int32} (hN : ∀ w c, w < L → c < N → stp w c < N) (ht : N ≤ t) (h : gw_AS L stp sh N t (fun _ _ => False) a) : gw_AF L stp sh N a := by
  intro c d h1 h2
  obtain ⟨g1, g2⟩ := h c d h1 h2
  exact ⟨fun s hb => g1 s (by have := gw_B_lt hN h2 (by omega) hb; omega) hb, fun hn => (g2 (fun s _ => hn s)).2 (fun hp => hp.1)⟩
/-- a round that marked nothing is the last -/
theorem gw_AF_stop {N t : Nat} {P : Nat → Nat → Prop} {a : Nat → Int32} (hN : ∀ w c, w < L → c < N → stp w c < N) (h : gw_AS L stp sh N t P a) (hP : ∀ c d, d < c → c < N → P c d) (hm : ∀ c d, d < c → c < N → ¬ gw_B L stp sh c d t) : gw_AF L stp sh N a := by
  intro c d h1 h2
  obtain ⟨g1, g2⟩ := h c d h1 h2
  have hlt : ∀ s, gw_B L stp sh c d s → s < t := fun s hb => by
    apply Nat.lt_of_not_le
    intro g
    obtain ⟨c', d', hc, hd, hb'⟩ := gw_B_low hN c d h2 (by omega) hb t g
    rcases Nat.lt_trichotomy c' d' with g3 | g3 | g3
    · exact hm d' c' g3 hd (gw_B_sym hb')
    · subst g3; exact gw_B_irr hb'
    · exact hm c' d' g3 hc hb'
  exact ⟨fun s hb => g1 s (hlt s hb) hb, fun hn => (g2 (fun s _ => hn s)).2 (fun hp => hn t hp.2)⟩
theorem gw_AF_u {N : Nat} {a b : Nat → Int32} (ha : gw_AF L stp sh N a) (hb : gw_AF L stp sh N b) {c d : Nat} (h1 : d < c) (h2 : c < N) : a (c * 64 + d) = b (c * 64 + d) := by
  obtain ⟨a1, a2⟩ := ha c d h1 h2
  obtain ⟨b1, b2⟩ := hb c d h1 h2
  by_cases g : ∃ s, gw_B L stp sh c d s
  · obtain ⟨s, hs⟩ := g
    rw [a1 s hs, b1 s hs]
  · rw [a2 (fun s hs => g ⟨s, hs⟩), b2 (fun s hs => g ⟨s, hs⟩)]
/-- the table read at any pair, in whichever order -/
def gw_rd (a : Nat → Int32) (x y : Nat) : Int32 := if y < x then a (x * 64 + y) else if x < y then a (y * 64 + x) else -1
theorem gw_rd_B {N t s : Nat} {P : Nat → Nat → Prop} {a : Nat → Int32} (h : gw_AS L stp sh N t P a) (ht : t < 2 ^ 31) (hs : s < t) {x y : Nat} (hx : x < N) (hy : y < N) : gw_rd a x y = nI s ↔ gw_B L stp sh x y s := by
  unfold gw_rd
  rcases Nat.lt_trichotomy x y with g | g | g
  · rw [if_neg (by omega), if_pos g, gw_AS_val h ht g hy hs]
    exact ⟨gw_B_sym, gw_B_sym⟩
  · subst g
    rw [if_neg (by omega), if_neg (by omega)]
    exact ⟨fun e => absurd e.symm (gw_m1 (by omega)), fun hb => absurd hb gw_B_irr⟩
  · rw [if_pos g, gw_AS_val h ht g hx hs]
/-- the test of a round: a pair not yet apart is apart at t + 1 if and only if a label leads to one apart at t -/
theorem gw_AS_test {N t c d : Nat} {P : Nat → Nat → Prop} {a : Nat → Int32} (hN : ∀ w c, w < L → c < N → stp w c < N) (h : gw_AS L stp sh N (t + 1) P a) (ht : t + 1 < 2 ^ 31) (h1 : d < c) (h2 : c < N) (e : ∀ s, s < t + 1 → ¬ gw_B L stp sh c d s) : (∃ w, w < L ∧ gw_rd a (stp w c) (stp w d) = nI t) ↔ gw_B L stp sh c d (t + 1) := by
  constructor
  · rintro ⟨w, hw, g⟩
    rw [gw_rd_B h ht (by omega) (hN w c hw h2) (hN w d hw (by omega))] at g
    obtain ⟨s, hs, hb⟩ := gw_B_of (L := L) (stp := stp) (sh := sh) (c := c) (d := d) (t := t + 1) ⟨w, hw, g.1⟩
    rcases Nat.lt_or_ge s (t + 1) with g2 | g2
    · exact absurd hb (e s g2)
    · rw [show t + 1 = s by omega]; exact hb
  · intro hb
    obtain ⟨w, hw, g⟩ := gw_B_p hb
    exact ⟨w, hw, (gw_rd_B h ht (by omega) (hN w c hw h2) (hN w d hw (by omega))).mpr g⟩
theorem gw_B_0 {c d : Nat} : gw_B L stp sh c d 0 ↔ ∃ w, w < L ∧ sh w c ≠ sh w d :=
  ⟨fun h => h.1, fun h => ⟨h, fun s hs => absurd hs (Nat.not_lt_zero _)⟩⟩
end
