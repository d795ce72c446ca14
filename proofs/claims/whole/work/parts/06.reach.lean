/-! which configurations can come, and when: over any relation of edges within N -/
def gw_R (E : Nat → Nat → Prop) : Nat → Nat → Prop
  | 0, c => c = 0
  | t + 1, c => ∃ c', gw_R E t c' ∧ E c' c
def gw_D (E : Nat → Nat → Prop) (c t : Nat) : Prop := gw_R E t c ∧ ∀ s, s < t → ¬ gw_R E s c
theorem gw_D_u {E : Nat → Nat → Prop} {c s t : Nat} (h : gw_D E c s) (g : gw_D E c t) : s = t := by
  rcases Nat.lt_trichotomy s t with e | e | e
  · exact absurd h.1 (g.2 s e)
  · exact e
  · exact absurd g.1 (h.2 t e)
theorem gw_D_of {E : Nat → Nat → Prop} {c t : Nat} (h : gw_R E t c) : ∃ s, s ≤ t ∧ gw_D E c s := by
  obtain ⟨s, h1, h2⟩ := pk_least (fun s => gw_R E s c) ⟨t, h⟩
  refine ⟨s, ?_, h1, h2⟩
  apply Nat.le_of_not_lt
  intro g
  exact h2 t g h
theorem gw_D_0 {E : Nat → Nat → Prop} {c : Nat} : gw_D E c 0 ↔ c = 0 :=
  ⟨fun h => h.1, fun h => ⟨h, fun s hs => absurd hs (Nat.not_lt_zero _)⟩⟩
theorem gw_D_p {E : Nat → Nat → Prop} {c t : Nat} (h : gw_D E c (t + 1)) : ∃ c', gw_D E c' t ∧ E c' c := by
  obtain ⟨c', h1, h2⟩ := h.1
  obtain ⟨s, h3, h4⟩ := gw_D_of h1
  rcases Nat.lt_or_ge s t with g | g
  · exact absurd ⟨c', h4.1, h2⟩ (h.2 (s + 1) (by omega))
  · have e : s = t := by omega
    subst e
    exact ⟨c', h4, h2⟩
theorem gw_D_low {E : Nat → Nat → Prop} {t : Nat} : ∀ c, gw_D E c t → ∀ s, s ≤ t → ∃ c', gw_D E c' s := by
  induction t with
  | zero => intro c h s hs; exact ⟨c, by rw [Nat.le_zero.mp hs]; exact h⟩
  | succ t ih =>
    intro c h s hs
    rcases Nat.lt_or_ge t s with g | g
    · exact ⟨c, by rw [show s = t + 1 by omega]; exact h⟩
    · obtain ⟨c', h1, _⟩ := gw_D_p h
      exact ih c' h1 s g
theorem gw_R_in {E : Nat → Nat → Prop} {N : Nat} (h0 : 0 < N) (hE : ∀ c c', E c c' → c' < N) : ∀ t c, gw_R E t c → c < N := by
  intro t c h
  cases t with
  | zero => rw [show c = 0 from h]; exact h0
  | succ t => obtain ⟨c', _, h2⟩ := h; exact hE _ _ h2
theorem gw_D_lt {E : Nat → Nat → Prop} {N c t : Nat} (h0 : 0 < N) (hE : ∀ c c', E c c' → c' < N) (h : gw_D E c t) : t < N := by
  apply Nat.lt_of_not_le
  intro g
  have ex : ∀ s, s ≤ N → ∃ c', gw_D E c' s := fun s hs => gw_D_low c h s (by omega)
  have key : ∃ f : Nat → Nat, ∀ s, s ≤ N → gw_D E (f s) s := by
    refine ⟨fun s => if hs : s ≤ N then (ex s hs).choose else 0, fun s hs => ?_⟩
    show gw_D E (if hs : s ≤ N then (ex s hs).choose else 0) s
    rw [dif_pos hs]
    exact (ex s hs).choose_spec
  obtain ⟨f, hf⟩ := key
  obtain ⟨i, j, h1, h2, h3⟩ := gw_pig N f (fun i hi => gw_R_in h0 hE i _ (hf i hi).1)
  have hi := hf i (by omega)
  rw [h3] at hi
  have := gw_D_u hi (hf j h2)
  omega
/-- a table within a round: what came up to t stands; of what comes at t + 1, that which the edges P reach -/
def gw_RS (E : Nat → Nat → Prop) (N t : Nat) (P : Nat → Nat → Prop) (a : Nat → Int32) : Prop :=
  ∀ c, c < N → (∀ s, s ≤ t → gw_D E c s → a c = nI s) ∧ ((∀ s, s ≤ t → ¬ gw_D E c s) → ((∃ c', gw_D E c' t ∧ P c' c) → a c = nI (t + 1)) ∧ ((¬ ∃ c', gw_D E c' t ∧ P c' c) → a c = -1))
theorem gw_RS_0 {E : Nat → Nat → Prop} {N : Nat} {a : Nat → Int32} (h0 : a 0 = 0) (h : ∀ c, c < N → c ≠ 0 → a c = -1) : gw_RS E N 0 (fun _ _ => False) a := by
  intro c hc
  refine ⟨fun s hs hd => ?_, fun hn => ⟨fun ⟨_, _, f⟩ => f.elim, fun _ => ?_⟩⟩
  · have e : s = 0 := by omega
    subst e
    rw [gw_D_0.mp hd, h0]; rfl
  · exact h c hc (fun e => hn 0 (Nat.le_refl _) (gw_D_0.mpr e))
theorem gw_m1 {n : Nat} (h : n < 2 ^ 31) : nI n ≠ -1 := by
  intro e
  have h1 := nI_toInt h
  rw [e] at h1
  have h2 : (-1 : Int32).toInt = -1 := by decide
  omega
theorem gw_RS_D {E : Nat → Nat → Prop} {N t c : Nat} {P : Nat → Nat → Prop} {a : Nat → Int32} (h : gw_RS E N t P a) (ht : t + 1 < 2 ^ 31) (hc : c < N) (e : a c = nI t) : gw_D E c t := by
  obtain ⟨h1, h2⟩ := h c hc
  by_cases g : ∃ s, s ≤ t ∧ gw_D E c s
  · obtain ⟨s, hs, hd⟩ := g
    have := h1 s hs hd
    rw [e, nI_eq (by omega) (by omega)] at this
    rw [this]; exact hd
  · have h3 := h2 (fun s hs hd => g ⟨s, hs, hd⟩)
    by_cases g2 : ∃ c', gw_D E c' t ∧ P c' c
    · have := h3.1 g2
      rw [e, nI_eq (by omega) (by omega)] at this
      omega
    · have := h3.2 g2
      rw [e] at this
      exact absurd this (gw_m1 (by omega))
theorem gw_RS_more {E : Nat → Nat → Prop} {N t : Nat} {P Q : Nat → Nat → Prop} {a : Nat → Int32} (h : gw_RS E N t P a) (h1 : ∀ c c', P c c' → Q c c') (h2 : ∀ c c', c' < N → Q c c' → gw_D E c t → P c c' ∨ a c' ≠ -1) : gw_RS E N t Q a := by
  intro c hc
  obtain ⟨g1, g2⟩ := h c hc
  refine ⟨g1, fun hn => ?_⟩
  have g3 := g2 hn
  refine ⟨fun ⟨c', hd, hq⟩ => ?_, fun hq => g3.2 (fun ⟨c', hd, hp⟩ => hq ⟨c', hd, h1 _ _ hp⟩)⟩
  rcases h2 c' c hc hq hd with hp | hp
  · exact g3.1 ⟨c', hd, hp⟩
  · by_cases g4 : ∃ c', gw_D E c' t ∧ P c' c
    · exact g3.1 g4
    · exact absurd (g3.2 g4) hp
/-- an edge from where the table hasn't t adds nothing -/
theorem gw_RS_skip {E : Nat → Nat → Prop} {N t c d : Nat} {P : Nat → Nat → Prop} {a : Nat → Int32} (h : gw_RS E N t P a) (hc : c < N) (e : a c ≠ nI t) : gw_RS E N t (fun x y => P x y ∨ (x = c ∧ y = d)) a := by
  refine gw_RS_more h (fun _ _ => Or.inl) (fun x y hy hq hd => ?_)
  rcases hq with hp | ⟨rfl, rfl⟩
  · exact Or.inl hp
  · exact absurd ((h x hc).1 t (Nat.le_refl _) hd) e
theorem gw_RS_have {E : Nat → Nat → Prop} {N t c d : Nat} {P : Nat → Nat → Prop} {a : Nat → Int32} (h : gw_RS E N t P a) (e : a d ≠ -1) : gw_RS E N t (fun x y => P x y ∨ (x = c ∧ y = d)) a := by
  refine gw_RS_more h (fun _ _ => Or.inl) (fun x y hy hq hd => ?_)
  rcases hq with hp | ⟨rfl, rfl⟩
  · exact Or.inl hp
  · exact Or.inr e
theorem gw_RS_mark {E : Nat → Nat → Prop} {N t c d : Nat} {P : Nat → Nat → Prop} {a : Nat → Int32} (h : gw_RS E N t P a) (ht : t + 1 < 2 ^ 31) (hc : c < N) (hd : d < N) (e : a c = nI t) (e2 : a d = -1) : gw_RS E N t (fun x y => P x y ∨ (x = c ∧ y = d)) (upd a d (nI (t + 1))) := by
  have hD := gw_RS_D h ht hc e
  intro x hx
  obtain ⟨g1, g2⟩ := h x hx
  by_cases hxd : x = d
  · subst hxd
    have hn : ∀ s, s ≤ t → ¬ gw_D E x s := fun s hs hds => by
      have := g1 s hs hds
      rw [e2] at this
      exact gw_m1 (show s < 2 ^ 31 by omega) this.symm
    refine ⟨fun s hs hds => absurd hds (hn s hs), fun _ => ⟨fun _ => pk_us, fun hq => absurd ⟨c, hD, Or.inr ⟨rfl, rfl⟩⟩ hq⟩⟩
  · refine ⟨fun s hs hds => by rw [pk_un hxd]; exact g1 s hs hds, fun hn => ?_⟩
    rw [pk_un hxd]
    have g3 := g2 hn
    refine ⟨fun ⟨c', h1, h2⟩ => ?_, fun hq => g3.2 (fun ⟨c', h1, h2⟩ => hq ⟨c', h1, Or.inl h2⟩)⟩
    rcases h2 with h2 | ⟨_, h2⟩
    · exact g3.1 ⟨c', h1, h2⟩
    · exact absurd h2 hxd
theorem gw_RS_congr {E : Nat → Nat → Prop} {N t : Nat} {P Q : Nat → Nat → Prop} {a : Nat → Int32} (h : gw_RS E N t P a) (h1 : ∀ c c', P c c' → Q c c') (h2 : ∀ c c', c' < N → gw_D E c t → Q c c' → P c c') : gw_RS E N t Q a :=
  gw_RS_more h h1 (fun x y hy hq hd => Or.inl (h2 x y hy hd hq))
theorem gw_RS_next {E : Nat → Nat → Prop} {N t : Nat} {a : Nat → Int32} (h : gw_RS E N t E a) : gw_RS E N (t + 1) (fun _ _ => False) a := by
  intro c hc
  obtain ⟨g1, g2⟩ := h c hc
  refine ⟨fun s hs hd => ?_, fun hn => ⟨fun ⟨_, _, f⟩ => f.elim, fun _ => ?_⟩⟩
  · rcases Nat.lt_or_ge t s with g | g
    · have e : s = t + 1 := by omega
      subst e
      refine (g2 (fun s hs hd' => ?_)).1 (gw_D_p hd)
      have := gw_D_u hd hd'
      omega
    · exact g1 s g hd
  · refine (g2 (fun s hs => hn s (by omega))).2 (fun ⟨c', h1, h2⟩ => ?_)
    obtain ⟨s, h3, h4⟩ := gw_D_of (E := E) (c := c) (t := t + 1) ⟨c', h1.1, h2⟩
    exact hn s h3 h4
/-- the finished table -/
def gw_Fin (E : Nat → Nat → Prop) (N : Nat) (a : Nat → Int32) : Prop :=
  ∀ c, c < N → (∀ s, gw_D E c s → a c = nI s) ∧ ((∀ s, ¬ gw_D E c s) → a c = -1)
theorem gw_Fin_N {E : Nat → Nat → Prop} {N t : Nat} {a : Nat → Int32} (h0 : 0 < N) (hE : ∀ c c', E c c' → c' < N) (ht : N ≤ t + 1) (h : gw_RS E N t (fun _ _ => False) a) : gw_Fin E N a := by
  intro c hc
  obtain ⟨g1, g2⟩ := h c hc
  refine ⟨fun s hd => g1 s (by have := gw_D_lt h0 hE hd; omega) hd, fun hn => (g2 (fun s _ => hn s)).2 (fun ⟨_, _, f⟩ => f)⟩
theorem gw_D_stop {E : Nat → Nat → Prop} {t : Nat} (h : ∀ c, ¬ gw_D E c (t + 1)) {c s : Nat} (hd : gw_D E c s) : s ≤ t := by
  apply Nat.le_of_not_lt
  intro g
  obtain ⟨c', h1⟩ := gw_D_low c hd (t + 1) (by omega)
  exact h c' h1
/-- a round that marked nothing is the last -/
theorem gw_Fin_stop {E : Nat → Nat → Prop} {N t : Nat} {a : Nat → Int32} (h0 : 0 < N) (hE : ∀ c c', E c c' → c' < N) (ht : t + 1 < 2 ^ 31) (h : gw_RS E N t E a) (hm : ∀ c, c < N → a c ≠ nI (t + 1)) : gw_Fin E N a := by
  have hno : ∀ c, ¬ gw_D E c (t + 1) := fun c hd => by
    have hc := gw_R_in h0 hE _ _ hd.1
    exact hm c hc (((gw_RS_next h) c hc).1 (t + 1) (Nat.le_refl _) hd)
  intro c hc
  obtain ⟨g1, g2⟩ := h c hc
  refine ⟨fun s hd => g1 s (gw_D_stop hno hd) hd, fun hn => (g2 (fun s _ => hn s)).2 (fun ⟨c', h1, h2⟩ => ?_)⟩
  obtain ⟨s, _, h4⟩ := gw_D_of (E := E) (c := c) (t := t + 1) ⟨c', h1.1, h2⟩
  exact hn s h4
theorem gw_Fin_u {E : Nat → Nat → Prop} {N : Nat} {a b : Nat → Int32} (ha : gw_Fin E N a) (hb : gw_Fin E N b) {c : Nat} (hc : c < N) : a c = b c := by
  obtain ⟨a1, a2⟩ := ha c hc
  obtain ⟨b1, b2⟩ := hb c hc
  by_cases g : ∃ s, gw_D E c s
  · obtain ⟨s, hs⟩ := g
    rw [a1 s hs, b1 s hs]
  · rw [a2 (fun s hs => g ⟨s, hs⟩), b2 (fun s hs => g ⟨s, hs⟩)]
/-- what stands there is a natural number below N, or -1 -/
theorem gw_Fin_v {E : Nat → Nat → Prop} {N : Nat} {a : Nat → Int32} (h0 : 0 < N) (hE : ∀ c c', E c c' → c' < N) (ha : gw_Fin E N a) {c : Nat} (hc : c < N) : a c = -1 ∨ ∃ s, s < N ∧ a c = nI s := by
  obtain ⟨a1, a2⟩ := ha c hc
  by_cases g : ∃ s, gw_D E c s
  · obtain ⟨s, hs⟩ := g
    exact Or.inr ⟨s, gw_D_lt h0 hE hs, a1 s hs⟩
  · exact Or.inl (a2 (fun s hs => g ⟨s, hs⟩))
