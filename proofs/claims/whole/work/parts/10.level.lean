/-! levels: nets marked backward from a net, around a set S -/
def gw_op (K X Y Z : Nat → Int32) (n j : Nat) : Bool :=
  if K n = 3 then decide (j = (X n).toNatClampNeg)
  else if K n = 4 ∨ K n = 5 ∨ K n = 6 then (decide (j = (X n).toNatClampNeg) || decide (j = (Y n).toNatClampNeg))
  else if K n = 7 then (decide (j = (X n).toNatClampNeg) || decide (j = (Y n).toNatClampNeg) || decide (j = (Z n).toNatClampNeg))
  else false
def gw_bk (sk : Nat → Bool) (op : Nat → Nat → Bool) (S : Nat → Bool) : Nat → (Nat → Bool) → Bool
  | 0, _ => true
  | n + 1, M => if M n = true ∧ S n = false then (if sk n = true then false else gw_bk sk op S n (fun j => M j || op n j)) else gw_bk sk op S n M
theorem gw_bk_congr {sk : Nat → Bool} {op : Nat → Nat → Bool} {S S' : Nat → Bool} : ∀ (n : Nat) (M M' : Nat → Bool), (∀ j, j < n → S j = S' j) → (∀ j, j < n → M j = M' j) → gw_bk sk op S n M = gw_bk sk op S' n M' := by
  intro n
  induction n with
  | zero => intro _ _ _ _; rfl
  | succ n ih =>
    intro M M' hS hM
    show (if M n = true ∧ S n = false then _ else _) = (if M' n = true ∧ S' n = false then _ else _)
    rw [hM n (by omega), hS n (by omega), ih M M' (fun j hj => hS j (by omega)) (fun j hj => hM j (by omega)), ih (fun j => M j || op n j) (fun j => M' j || op n j) (fun j hj => hS j (by omega)) (fun j hj => by rw [hM j (by omega)])]
/-- the set of three, told with repetitions -/
def gw_S3 (a b c j : Nat) : Bool := decide (j = a) || decide (j = b) || decide (j = c)
def gw_mx (lev : Nat → Nat) (a b c : Nat) : Nat := max (max (lev a) (lev b)) (lev c)
/-- a, b, c is a set that is tried for width k below net -/
def gw_tr (k net a b c : Nat) : Prop := c ≤ b ∧ b ≤ a ∧ a < net ∧ (k < 2 → b = a) ∧ (k < 3 → c = b)
/-- B is the least greatest level, 99 if there is none, among those tried in P -/
def gw_IB (btw : (Nat → Bool) → Bool) (lev : Nat → Nat) (k net : Nat) (P : Nat → Nat → Nat → Prop) (B : Nat) : Prop :=
  B ≤ 99 ∧ (B = 99 ∨ ∃ a b c, gw_tr k net a b c ∧ btw (gw_S3 a b c) = true ∧ gw_mx lev a b c = B) ∧ ∀ a b c, gw_tr k net a b c → P a b c → btw (gw_S3 a b c) = true → B ≤ gw_mx lev a b c
section
variable {btw : (Nat → Bool) → Bool} {lev : Nat → Nat} {k net : Nat}
theorem gw_IB_0 {P : Nat → Nat → Nat → Prop} (h : ∀ a b c, gw_tr k net a b c → ¬ P a b c) : gw_IB btw lev k net P 99 :=
  ⟨Nat.le_refl _, Or.inl rfl, fun a b c ht hp => absurd hp (h a b c ht)⟩
theorem gw_IB_more {P Q : Nat → Nat → Nat → Prop} {B : Nat} (h : gw_IB btw lev k net P B) (hq : ∀ a b c, gw_tr k net a b c → Q a b c → btw (gw_S3 a b c) = true → P a b c ∨ B ≤ gw_mx lev a b c) : gw_IB btw lev k net Q B := by
  refine ⟨h.1, h.2.1, fun a b c ht hQ hb => ?_⟩
  rcases hq a b c ht hQ hb with hp | hp
  · exact h.2.2 a b c ht hp hb
  · exact hp
theorem gw_IB_take {P Q : Nat → Nat → Nat → Prop} {B a b c : Nat} (h : gw_IB btw lev k net P B) (ht : gw_tr k net a b c) (hb : btw (gw_S3 a b c) = true) (hm : gw_mx lev a b c < B) (hq : ∀ x y z, gw_tr k net x y z → Q x y z → P x y z ∨ gw_mx lev a b c ≤ gw_mx lev x y z) : gw_IB btw lev k net Q (gw_mx lev a b c) := by
  refine ⟨by have := h.1; omega, Or.inr ⟨a, b, c, ht, hb, rfl⟩, fun x y z ht' hQ hb' => ?_⟩
  rcases hq x y z ht' hQ with hp | hp
  · have := h.2.2 x y z ht' hp hb'
    omega
  · exact hp
theorem gw_IB_u {P Q : Nat → Nat → Nat → Prop} {B C : Nat} (h : gw_IB btw lev k net P B) (g : gw_IB btw lev k net Q C) (hP : ∀ a b c, gw_tr k net a b c → P a b c) (hQ : ∀ a b c, gw_tr k net a b c → Q a b c) : B = C := by
  apply Nat.le_antisymm
  · rcases g.2.1 with e | ⟨a, b, c, ht, hb, e⟩
    · have := h.1; omega
    · rw [← e]; exact h.2.2 a b c ht (hP a b c ht) hb
  · rcases h.2.1 with e | ⟨a, b, c, ht, hb, e⟩
    · have := g.1; omega
    · rw [← e]; exact g.2.2 a b c ht (hQ a b c ht) hb
theorem gw_IB_lt {P : Nat → Nat → Nat → Prop} {B n : Nat} (h : gw_IB btw lev k net P B) (hl : ∀ j, j < net → lev j ≤ n ∨ lev j = 99) : B ≤ n ∨ B = 99 := by
  rcases h.2.1 with e | ⟨a, b, c, ht, hb, e⟩
  · exact Or.inr e
  · obtain ⟨h1, h2, h3, _, _⟩ := ht
    have ha := hl a h3
    have hb := hl b (by omega)
    have hc := hl c (by omega)
    have := h.1
    unfold gw_mx at e
    omega
end
