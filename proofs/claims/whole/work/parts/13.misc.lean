/-! truth values, least values, counts -/
theorem gw_nar {z : Int32} (h : z = 0 ∨ z = 1) : vp_nar .boolean z = z := by rcases h with rfl | rfl <;> rfl
theorem gw_narb (b : Bool) : vp_nar .boolean (gw_b b) = gw_b b := by cases b <;> rfl
theorem gw_nb {z : Int32} (h : z = 0 ∨ z = 1) : narrow .boolean (.int z) = .int z := by rcases h with rfl | rfl <;> decide
theorem gw_nbb (b : Bool) : narrow .boolean (.int (gw_b b)) = .int (gw_b b) := by cases b <;> decide
theorem gw_b01 (b : Bool) : gw_b b = 0 ∨ gw_b b = 1 := by cases b <;> decide
/-- x tells whether P -/
def gw_tv (P : Prop) (x : Int32) : Prop := (P ∧ x = 1) ∨ (¬ P ∧ x = 0)
theorem gw_tv_01 {P : Prop} {x : Int32} (h : gw_tv P x) : x = 0 ∨ x = 1 := by
  rcases h with ⟨_, e⟩ | ⟨_, e⟩
  · exact Or.inr e
  · exact Or.inl e
theorem gw_tv_0 {P : Prop} {x : Int32} (h : gw_tv P x) : x = 0 ↔ ¬ P := by
  rcases h with ⟨p, e⟩ | ⟨p, e⟩
  · rw [e]; exact ⟨fun g => absurd g (by decide), fun g => absurd p g⟩
  · rw [e]; exact ⟨fun _ => p, fun _ => rfl⟩
theorem gw_tv_iff {P Q : Prop} {x : Int32} (h : gw_tv P x) (e : P ↔ Q) : gw_tv Q x := by
  rcases h with ⟨p, g⟩ | ⟨p, g⟩
  · exact Or.inl ⟨e.mp p, g⟩
  · exact Or.inr ⟨fun q => p (e.mpr q), g⟩
theorem gw_tv_u {P : Prop} {x y : Int32} (h : gw_tv P x) (g : gw_tv P y) : x = y := by
  rcases h with ⟨p, e⟩ | ⟨p, e⟩ <;> rcases g with ⟨q, e'⟩ | ⟨q, e'⟩
  · rw [e, e']
  · exact absurd p q
  · exact absurd q p
  · rw [e, e']
theorem gw_tv_t {P : Prop} (h : P) : gw_tv P 1 := Or.inl ⟨h, rfl⟩
theorem gw_tv_f {P : Prop} (h : ¬ P) : gw_tv P 0 := Or.inr ⟨h, rfl⟩
theorem gw_tv_b (b : Bool) : gw_tv (b = true) (gw_b b) := by
  cases b
  · exact Or.inr ⟨Bool.false_ne_true, rfl⟩
  · exact Or.inl ⟨rfl, rfl⟩
/-- L is the least of G, or -1 -/
def gw_Mn (G : Nat → Prop) (L : Int32) : Prop := (L = -1 ∧ ∀ t, ¬ G t) ∨ ∃ t, t < 2 ^ 31 ∧ L = nI t ∧ G t ∧ ∀ s, G s → t ≤ s
theorem gw_Mn_u {G G' : Nat → Prop} {L L' : Int32} (h : gw_Mn G L) (g : gw_Mn G' L') (e : ∀ t, G t ↔ G' t) : L = L' := by
  rcases h with ⟨h1, h2⟩ | ⟨t, h1, h2, h3, h4⟩ <;> rcases g with ⟨g1, g2⟩ | ⟨s, g1, g2, g3, g4⟩
  · rw [h1, g1]
  · exact absurd ((e s).mpr g3) (h2 s)
  · exact absurd ((e t).mp h3) (g2 t)
  · have a := h4 s ((e s).mpr g3)
    have b := g4 t ((e t).mp h3)
    rw [h2, g2, show t = s by omega]
theorem gw_Mn_e {G G' : Nat → Prop} {L : Int32} (h : gw_Mn G L) (e : ∀ t, G t ↔ G' t) : gw_Mn G' L := by
  rcases h with ⟨h1, h2⟩ | ⟨t, h1, h2, h3, h4⟩
  · exact Or.inl ⟨h1, fun t g => h2 t ((e t).mpr g)⟩
  · exact Or.inr ⟨t, h1, h2, (e t).mp h3, fun s g => h4 s ((e s).mpr g)⟩
theorem gw_Mn_0 {G : Nat → Prop} (h : ∀ t, ¬ G t) : gw_Mn G (-1) := Or.inl ⟨rfl, h⟩
theorem gw_Mn_take {G : Nat → Prop} {L : Int32} {t : Nat} (h : gw_Mn G L) (ht : t < 2 ^ 31) (hl : L = -1 ∨ nI t < L) : gw_Mn (fun s => G s ∨ s = t) (nI t) := by
  refine Or.inr ⟨t, ht, rfl, Or.inr rfl, fun s hs => ?_⟩
  rcases hs with hs | hs
  · rcases h with ⟨_, h2⟩ | ⟨u, h1, h2, h3, h4⟩
    · exact absurd hs (h2 s)
    · rcases hl with hl | hl
      · rw [hl] at h2; exact absurd h2.symm (gw_m1 h1)
      · rw [h2, nI_ltI ht h1] at hl
        have := h4 s hs
        omega
  · omega
theorem gw_Mn_keep {G : Nat → Prop} {L : Int32} {t : Nat} (h : gw_Mn G L) (ht : t < 2 ^ 31) (h1 : L ≠ -1) (hl : ¬ nI t < L) : gw_Mn (fun s => G s ∨ s = t) L := by
  rcases h with ⟨e, _⟩ | ⟨u, h1, h2, h3, h4⟩
  · exact absurd e h1
  · refine Or.inr ⟨u, h1, h2, Or.inl h3, fun s hs => ?_⟩
    rw [h2, nI_ltI ht h1] at hl
    rcases hs with hs | hs
    · exact h4 s hs
    · omega
theorem gw_Mn_neg {G : Nat → Prop} {L : Int32} (h : gw_Mn G L) : L < 0 ↔ L = -1 := by
  rcases h with ⟨e, _⟩ | ⟨u, h1, h2, h3, h4⟩
  · rw [e]; decide
  · rw [h2]
    exact ⟨fun g => absurd g (nI_pos h1), fun g => absurd g (gw_m1 h1)⟩
/-! where the first repetition is found by a table -/
def gw_Sn (F : Nat → Nat) (c t : Nat) (a : Nat → Int32) : Prop := (∀ i, i < t → a (gw_it F i c) = nI i) ∧ (∀ x, x < 64 → (∀ i, i < t → gw_it F i c ≠ x) → a x = -1) ∧ ∀ i j, i < j → j < t → gw_it F i c ≠ gw_it F j c
theorem gw_Sn_0 {F : Nat → Nat} {c : Nat} {a : Nat → Int32} (h : ∀ x, x < 64 → a x = -1) : gw_Sn F c 0 a :=
  ⟨fun _ hi => absurd hi (Nat.not_lt_zero _), fun x hx _ => h x hx, fun _ _ _ hj => absurd hj (Nat.not_lt_zero _)⟩
theorem gw_Sn_hit {F : Nat → Nat} {c t : Nat} {a : Nat → Int32} (h : gw_Sn F c t a) (hx : gw_it F t c < 64) (e : a (gw_it F t c) ≠ -1) : ∃ t0, t0 < t ∧ a (gw_it F t c) = nI t0 ∧ gw_Rho F c t0 t := by
  by_cases g : ∃ i, i < t ∧ gw_it F i c = gw_it F t c
  · obtain ⟨i, h1, h2⟩ := g
    refine ⟨i, h1, ?_, h1, h2, h.2.2⟩
    rw [← h2]
    exact h.1 i h1
  · exact absurd (h.2.1 _ hx (fun i hi e2 => g ⟨i, hi, e2⟩)) e
theorem gw_Sn_miss {F : Nat → Nat} {c t : Nat} {a : Nat → Int32} (h : gw_Sn F c t a) (ht : t < 2 ^ 31) (e : a (gw_it F t c) = -1) : gw_Sn F c (t + 1) (upd a (gw_it F t c) (nI t)) := by
  have hne : ∀ i, i < t → gw_it F i c ≠ gw_it F t c := fun i hi g => by
    have := h.1 i hi
    rw [g, e] at this
    exact gw_m1 (show i < 2 ^ 31 by omega) this.symm
  refine ⟨fun i hi => ?_, fun x hx hn => ?_, fun i j h1 h2 => ?_⟩
  · rcases Nat.lt_or_ge i t with g | g
    · rw [pk_un (hne i g)]; exact h.1 i g
    · rw [show i = t by omega]; exact pk_us
  · rw [pk_un (fun g => hn t (by omega) g.symm)]
    exact h.2.1 x hx (fun i hi => hn i (by omega))
  · rcases Nat.lt_or_ge j t with g | g
    · exact h.2.2 i j h1 g
    · rw [show j = t by omega]; exact hne i (by omega)
/-! counting what is so -/
noncomputable def gw_dc (P : Nat → Prop) (n : Nat) : Bool := @decide (P n) (Classical.propDecidable _)
theorem gw_dc_t {P : Nat → Prop} {n : Nat} : gw_dc P n = true ↔ P n := by
  unfold gw_dc
  exact @decide_eq_true_iff _ (Classical.propDecidable _)
theorem gw_dc_f {P : Nat → Prop} {n : Nat} : gw_dc P n = false ↔ ¬ P n := by
  unfold gw_dc
  exact @decide_eq_false_iff_not _ (Classical.propDecidable _)
theorem gw_dc_st {P : Nat → Prop} {n : Nat} (h : P n) : gw_cnt (gw_dc P) (n + 1) = gw_cnt (gw_dc P) n + 1 := gw_cnt_t (gw_dc_t.mpr h)
theorem gw_dc_sf {P : Nat → Prop} {n : Nat} (h : ¬ P n) : gw_cnt (gw_dc P) (n + 1) = gw_cnt (gw_dc P) n := gw_cnt_f (gw_dc_f.mpr h)
theorem gw_dc_congr {P Q : Nat → Prop} {n : Nat} (h : ∀ j, j < n → (P j ↔ Q j)) : gw_cnt (gw_dc P) n = gw_cnt (gw_dc Q) n := by
  apply gw_cnt_congr
  intro j hj
  by_cases p : P j
  · rw [gw_dc_t.mpr p, gw_dc_t.mpr ((h j hj).mp p)]
  · rw [gw_dc_f.mpr p, gw_dc_f.mpr (fun q => p ((h j hj).mpr q))]
theorem gw_dc_up {P : Nat → Prop} {n m : Nat} (hn : n ≤ m) (h : ∀ j, n ≤ j → j < m → ¬ P j) : gw_cnt (gw_dc P) m = gw_cnt (gw_dc P) n := by
  induction m with
  | zero => rw [show n = 0 by omega]
  | succ m ih =>
    rcases Nat.lt_or_ge m n with g | g
    · rw [show n = m + 1 by omega]
    · rw [gw_dc_sf (h m g (by omega)), ih g (fun j h1 h2 => h j h1 (by omega))]
/-! prime cubes -/
def gw_pr (m : Nat) (T : Nat → Bool) (c : Nat) : Prop := gw_hd m T c ∧ ∀ k, k < m → gw_dg c k ≠ 2 → ¬ gw_hd m T (c + (2 - gw_dg c k) * 3 ^ k)
/-! levels, as both sides find them -/
def gw_bt (K X Y Z : Nat → Int32) (n : Nat) (S : Nat → Bool) : Bool := gw_bk (gw_sk K) (gw_op K X Y Z) S n (gw_op K X Y Z n)
def gw_LV (K X Y Z : Nat → Int32) (k : Nat) (lev : Nat → Nat) (n : Nat) : Prop :=
  ∀ j, j < n → ((K j = 0 ∨ K j = 1 ∨ K j = 2) → lev j = 0) ∧ (¬ (K j = 0 ∨ K j = 1 ∨ K j = 2) → (gw_bt K X Y Z j (fun _ => false) = true → lev j = 1) ∧ (gw_bt K X Y Z j (fun _ => false) = false → ∃ B, gw_IB (gw_bt K X Y Z j) lev k j (fun _ _ _ => True) B ∧ lev j = if B = 99 then 99 else B + 1))
theorem gw_IB_lev {btw : (Nat → Bool) → Bool} {lev lev' : Nat → Nat} {k net : Nat} {P : Nat → Nat → Nat → Prop} {B : Nat} (h : gw_IB btw lev k net P B) (e : ∀ j, j < net → lev j = lev' j) : gw_IB btw lev' k net P B := by
  have e3 : ∀ a b c, gw_tr k net a b c → gw_mx lev a b c = gw_mx lev' a b c := fun a b c ht => by
    obtain ⟨h1, h2, h3, _, _⟩ := ht
    unfold gw_mx
    rw [e a h3, e b (by omega), e c (by omega)]
  refine ⟨h.1, ?_, fun a b c ht hp hb => by rw [← e3 a b c ht]; exact h.2.2 a b c ht hp hb⟩
  rcases h.2.1 with g | ⟨a, b, c, ht, hb, g⟩
  · exact Or.inl g
  · exact Or.inr ⟨a, b, c, ht, hb, by rw [← e3 a b c ht]; exact g⟩
theorem gw_LV_u {K X Y Z : Nat → Int32} {k : Nat} {lev lev' : Nat → Nat} {n : Nat} (h : gw_LV K X Y Z k lev n) (g : gw_LV K X Y Z k lev' n) : ∀ j, j < n → lev j = lev' j := by
  intro j
  induction j using Nat.strongRecOn with
  | ind j ih =>
    intro hj
    obtain ⟨h1, h2⟩ := h j hj
    obtain ⟨g1, g2⟩ := g j hj
    by_cases c : K j = 0 ∨ K j = 1 ∨ K j = 2
    · rw [h1 c, g1 c]
    · cases b : gw_bt K X Y Z j (fun _ => false) with
      | true => rw [(h2 c).1 b, (g2 c).1 b]
      | false =>
        obtain ⟨B, hB, e⟩ := (h2 c).2 b
        obtain ⟨C, hC, e'⟩ := (g2 c).2 b
        have := gw_IB_u (gw_IB_lev hB (fun i hi => ih i hi (by omega))) hC (fun _ _ _ _ => True.intro) (fun _ _ _ _ => True.intro)
        rw [e, e', this]
theorem gw_LV_le {K X Y Z : Nat → Int32} {k : Nat} {lev : Nat → Nat} {n m : Nat} (h : gw_LV K X Y Z k lev m) (hn : n ≤ m) : gw_LV K X Y Z k lev n := fun j hj => h j (by omega)
/-- a level once found stands, whatever lev says further on -/
theorem gw_LV_s {K X Y Z : Nat → Int32} {k : Nat} {lev : Nat → Nat} {n v : Nat} (h : gw_LV K X Y Z k lev n) (h1 : (K n = 0 ∨ K n = 1 ∨ K n = 2) → v = 0) (h2 : ¬ (K n = 0 ∨ K n = 1 ∨ K n = 2) → (gw_bt K X Y Z n (fun _ => false) = true → v = 1) ∧ (gw_bt K X Y Z n (fun _ => false) = false → ∃ B, gw_IB (gw_bt K X Y Z n) lev k n (fun _ _ _ => True) B ∧ v = if B = 99 then 99 else B + 1)) : gw_LV K X Y Z k (fun j => if j = n then v else lev j) (n + 1) := by
  have low : ∀ j, j < n → lev j = (if j = n then v else lev j) := fun j hj => by rw [if_neg (by omega)]
  intro j hj
  by_cases e : j = n
  · subst e
    dsimp only
    rw [if_pos rfl]
    refine ⟨h1, fun c => ⟨(h2 c).1, fun b => ?_⟩⟩
    obtain ⟨B, hB, e⟩ := (h2 c).2 b
    exact ⟨B, gw_IB_lev hB low, e⟩
  · dsimp only
    rw [if_neg e]
    obtain ⟨g1, g2⟩ := h j (by omega)
    refine ⟨g1, fun c => ⟨(g2 c).1, fun b => ?_⟩⟩
    obtain ⟨B, hB, e'⟩ := (g2 c).2 b
    exact ⟨B, gw_IB_lev hB (fun i hi => low i (by omega)), e'⟩
theorem gw_LV_b {K X Y Z : Nat → Int32} {k : Nat} {lev : Nat → Nat} {n : Nat} (h0 : ∀ j, j < n → ¬ (K j = 0 ∨ K j = 1 ∨ K j = 2) → 0 < j) (h : gw_LV K X Y Z k lev n) : ∀ j, j < n → lev j ≤ j ∨ lev j = 99 := by
  intro j
  induction j using Nat.strongRecOn with
  | ind j ih =>
    intro hj
    obtain ⟨h1, h2⟩ := h j hj
    by_cases c : K j = 0 ∨ K j = 1 ∨ K j = 2
    · rw [h1 c]; omega
    · have h3 := h0 j hj c
      cases b : gw_bt K X Y Z j (fun _ => false) with
      | true => rw [(h2 c).1 b]; omega
      | false =>
        obtain ⟨B, hB, e⟩ := (h2 c).2 b
        rcases gw_IB_lt (n := j - 1) hB (fun i hi => by
          have := ih i hi (by omega)
          omega) with g | g
        · rw [e]
          split
          · exact Or.inr rfl
          · left; omega
        · rw [e, if_pos g]
          exact Or.inr rfl
