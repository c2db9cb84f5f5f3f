section TBU
/-! tours and ways as rows: price, roads used, allowed -/
noncomputable def tb_B (P : Prop) : Bool := @decide P (Classical.propDecidable P)
theorem tb_BT {P : Prop} : tb_B P = true ↔ P := @decide_eq_true_iff P (Classical.propDecidable P)
theorem tb_BF {P : Prop} : tb_B P = false ↔ ¬ P := @decide_eq_false_iff_not P (Classical.propDecidable P)
theorem tb_BE {P Q : Prop} (h : P ↔ Q) : tb_B P = tb_B Q := by rw [propext h]
/-- the row, then town 0 again -/
def tb_cy (n : Nat) (d : Nat → Nat) (t : Nat) : Nat := if t < n then d t else 0
theorem tb_cyL {n : Nat} {d : Nat → Nat} {t : Nat} (h : t < n) : tb_cy n d t = d t := if_pos h
theorem tb_cyE (n : Nat) (d : Nat → Nat) : tb_cy n d n = 0 := if_neg (Nat.lt_irrefl n)
def tb_tp (n : Nat) (pr : Nat → Nat) (d : Nat → Nat) : Nat := tb_sm (fun t => pr (tb_tr (tb_cy n d t) (tb_cy n d (t + 1)))) n
def tb_pp (n : Nat) (pr : Nat → Nat) (d : Nat → Nat) : Nat := tb_sm (fun t => pr (tb_tr (d t) (d (t + 1)))) (n - 1)
def tb_tu (n : Nat) (d : Nat → Nat) (r : Nat) : Prop := ∃ t, t < n ∧ tb_tr (tb_cy n d t) (tb_cy n d (t + 1)) = r
def tb_pu (n : Nat) (d : Nat → Nat) (r : Nat) : Prop := ∃ t, t + 1 < n ∧ tb_tr (d t) (d (t + 1)) = r
theorem tb_tpE {n : Nat} (hn : 0 < n) (pr : Nat → Nat) (d : Nat → Nat) : tb_tp n pr d = tb_pp n pr d + pr (tb_tr (d (n - 1)) 0) := by
  obtain ⟨m, rfl⟩ : ∃ m, n = m + 1 := ⟨n - 1, by omega⟩
  unfold tb_tp tb_pp
  rw [tb_smS, Nat.add_sub_cancel, tb_cyE, tb_cyL (by omega)]
  congr 1
  exact tb_smG m (fun t ht => by rw [tb_cyL (by omega), tb_cyL (by omega)])
theorem tb_tuE {n : Nat} (hn : 0 < n) (d : Nat → Nat) (r : Nat) : tb_tu n d r ↔ tb_pu n d r ∨ tb_tr (d (n - 1)) 0 = r := by
  constructor
  · rintro ⟨t, ht, e⟩
    rcases Nat.lt_or_ge (t + 1) n with h | h
    · rw [tb_cyL ht, tb_cyL h] at e
      exact Or.inl ⟨t, h, e⟩
    · have e1 : t = n - 1 := by omega
      have e2 : t + 1 = n := by omega
      rw [e2, tb_cyE, tb_cyL ht, e1] at e
      exact Or.inr e
  · rintro (⟨t, ht, e⟩ | e)
    · exact ⟨t, by omega, by rw [tb_cyL (by omega), tb_cyL ht]; exact e⟩
    · refine ⟨n - 1, by omega, ?_⟩
      have e2 : n - 1 + 1 = n := by omega
      rw [e2, tb_cyE, tb_cyL (by omega)]
      exact e
/-- neighbours in a row that begins with town 0 differ, also where it closes -/
theorem tb_cyN {n : Nat} {d : Nat → Nat} (hn : 2 ≤ n) (h : tb_pm n d) (h0 : d 0 = 0) {t : Nat} (ht : t < n) : tb_cy n d t < n ∧ tb_cy n d (t + 1) < n ∧ tb_cy n d t ≠ tb_cy n d (t + 1) := by
  rcases Nat.lt_or_ge (t + 1) n with h1 | h1
  · rw [tb_cyL ht, tb_cyL h1]
    refine ⟨h.1 t ht, h.1 _ h1, fun z => ?_⟩
    have := h.2 t (t + 1) ht h1 z
    omega
  · have e2 : t + 1 = n := by omega
    rw [e2, tb_cyE, tb_cyL ht]
    refine ⟨h.1 t ht, by omega, fun z => ?_⟩
    have := h.2 t 0 ht (by omega) (z.trans h0.symm)
    omega
theorem tb_tuL {n : Nat} {d : Nat → Nat} (hn : 2 ≤ n) (n7 : n ≤ 7) (h : tb_pm n d) (h0 : d 0 = 0) {r : Nat} (hr : tb_tu n d r) : r < 21 := by
  obtain ⟨t, ht, e⟩ := hr
  obtain ⟨a, b, c⟩ := tb_cyN hn h h0 ht
  rw [← e]
  exact tb_trL _ (by omega) _ (by omega) c
theorem tb_puL {n : Nat} {d : Nat → Nat} (n7 : n ≤ 7) (h : tb_pm n d) {r : Nat} (hr : tb_pu n d r) : r < 21 := by
  obtain ⟨t, ht, e⟩ := hr
  have a := h.1 t (by omega)
  have b := h.1 (t + 1) ht
  rw [← e]
  refine tb_trL _ (by omega) _ (by omega) (fun z => ?_)
  have := h.2 t (t + 1) (by omega) ht z
  omega
/-- the pair (a, b) stands side by side -/
def tb_us (n : Nat) (d : Nat → Nat) (m a b : Nat) : Prop := ∃ t, t < m ∧ ((tb_cy n d t = a ∧ tb_cy n d (t + 1) = b) ∨ (tb_cy n d (t + 1) = a ∧ tb_cy n d t = b))
theorem tb_usU {n : Nat} {d : Nat → Nat} (hn : 2 ≤ n) (n7 : n ≤ 7) (h : tb_pm n d) (h0 : d 0 = 0) {a b : Nat} (ha : a < 7) (hb : b < 7) : tb_us n d n a b ↔ a ≠ b ∧ tb_tu n d (tb_tr a b) := by
  constructor
  · rintro ⟨t, ht, z⟩
    obtain ⟨_, _, c⟩ := tb_cyN hn h h0 ht
    rcases z with ⟨z1, z2⟩ | ⟨z1, z2⟩
    · rw [z1, z2] at c
      exact ⟨c, t, ht, by rw [z1, z2]⟩
    · rw [z1, z2] at c
      exact ⟨fun e => c e.symm, t, ht, by rw [z1, z2, tb_trC]⟩
  · rintro ⟨hab, t, ht, e⟩
    obtain ⟨a1, b1, c⟩ := tb_cyN hn h h0 ht
    refine ⟨t, ht, ?_⟩
    rcases tb_trI _ (by omega) _ (by omega) c a ha b hb hab e with z | z
    · exact Or.inl z
    · exact Or.inr ⟨z.2, z.1⟩
/-- allowed: no closed road, every required one -/
def tb_al (n : Nat) (hw : Nat → Nat) (d : Nat → Nat) : Prop := ∀ r, r < 21 → (hw r = 2 → ¬ tb_tu n d r) ∧ (hw r = 1 → tb_tu n d r)
/-- Y's marks by pairs -/
def tb_H (hw : Nat → Nat) (a b : Nat) : Nat := if a = b then 0 else hw (tb_tr a b)
theorem tb_alY {n : Nat} {d : Nat → Nat} (hn : 2 ≤ n) (n7 : n ≤ 7) (h : tb_pm n d) (h0 : d 0 = 0) (hw : Nat → Nat) : tb_al n hw d ↔ ∀ a b, a < 7 → b < 7 → (tb_H hw a b = 2 → ¬ tb_us n d n a b) ∧ (tb_H hw a b = 1 → tb_us n d n a b) := by
  constructor
  · intro H a b ha hb
    unfold tb_H
    by_cases e : a = b
    · rw [if_pos e]
      exact ⟨fun z => absurd z (by decide), fun z => absurd z (by decide)⟩
    · rw [if_neg e]
      obtain ⟨h1, h2⟩ := H (tb_tr a b) (tb_trL a ha b hb e)
      rw [tb_usU hn n7 h h0 ha hb]
      exact ⟨fun z w => h1 z w.2, fun z => ⟨e, h2 z⟩⟩
  · intro H r hr
    obtain ⟨b, hb, a, hab, e⟩ := tb_trS r hr
    obtain ⟨h1, h2⟩ := H a b (by omega) hb
    have e2 : tb_H hw a b = hw r := by
      unfold tb_H
      rw [if_neg (by omega), e]
    rw [e2, tb_usU hn n7 h h0 (by omega) hb, e] at h1 h2
    exact ⟨fun z w => h1 z ⟨by omega, w⟩, fun z => (h2 z).2⟩
/-- the prices of the ways from a to b -/
def tb_SP (n : Nat) (pr hw : Nat → Nat) (a b w : Nat) : Prop := ∃ d, tb_pm n d ∧ d 0 = a ∧ d (n - 1) = b ∧ (∀ r, tb_pu n d r → hw r ≠ 2) ∧ tb_pp n pr d = w
theorem tb_ppG {n : Nat} {pr : Nat → Nat} {d e : Nat → Nat} (h : ∀ t, t < n → d t = e t) : tb_pp n pr d = tb_pp n pr e := by
  unfold tb_pp
  exact tb_smG _ (fun t ht => by rw [h t (by omega), h (t + 1) (by omega)])
theorem tb_puG {n : Nat} {d e : Nat → Nat} (h : ∀ t, t < n → d t = e t) (r : Nat) : tb_pu n d r ↔ tb_pu n e r := by
  constructor
  · rintro ⟨t, ht, z⟩
    exact ⟨t, ht, by rw [← h t (by omega), ← h (t + 1) ht]; exact z⟩
  · rintro ⟨t, ht, z⟩
    exact ⟨t, ht, by rw [h t (by omega), h (t + 1) ht]; exact z⟩
theorem tb_tpG {n : Nat} {pr : Nat → Nat} {d e : Nat → Nat} (h : ∀ t, t < n → d t = e t) : tb_tp n pr d = tb_tp n pr e := by
  have : tb_cy n d = tb_cy n e := by
    funext t
    unfold tb_cy
    by_cases z : t < n
    · rw [if_pos z, if_pos z, h t z]
    · rw [if_neg z, if_neg z]
  unfold tb_tp
  rw [this]
theorem tb_alG {n : Nat} {hw : Nat → Nat} {d e : Nat → Nat} (h : ∀ t, t < n → d t = e t) : tb_al n hw d ↔ tb_al n hw e := by
  have : tb_cy n d = tb_cy n e := by
    funext t
    unfold tb_cy
    by_cases z : t < n
    · rw [if_pos z, if_pos z, h t z]
    · rw [if_neg z, if_neg z]
  unfold tb_al tb_tu
  rw [this]
theorem tb_SPR {n : Nat} {pr hw : Nat → Nat} {a b w : Nat} (h : tb_SP n pr hw a b w) : tb_SP n pr hw b a w := by
  obtain ⟨d, p, e0, e1, c, e⟩ := h
  by_cases hn : n = 0
  · subst hn
    exact ⟨d, p, e1, e0, c, e⟩
  · refine ⟨fun t => d (n - 1 - t), tb_pmR p, ?_, ?_, ?_, ?_⟩
    · exact e1
    · show d (n - 1 - (n - 1)) = a
      rw [Nat.sub_self]
      exact e0
    · rintro r ⟨t, ht, z⟩
      refine c r ⟨n - 1 - (t + 1), by omega, ?_⟩
      have e2 : n - 1 - (t + 1) + 1 = n - 1 - t := by omega
      rw [e2, tb_trC]
      exact z
    · rw [← e]
      unfold tb_pp
      rw [← tb_smR]
      refine tb_smG _ (fun t ht => ?_)
      show pr (tb_tr (d (n - 1 - (n - 1 - 1 - t))) (d (n - 1 - (n - 1 - 1 - t + 1)))) = pr (tb_tr (d t) (d (t + 1)))
      have e2 : n - 1 - (n - 1 - 1 - t) = t + 1 := by omega
      have e3 : n - 1 - (n - 1 - 1 - t + 1) = t := by omega
      rw [e2, e3, tb_trC]
/-- the prices are small -/
theorem tb_ppB {n : Nat} {pr : Nat → Nat} (hp : ∀ r, pr r ≤ 40) (n7 : n ≤ 7) (d : Nat → Nat) : tb_pp n pr d ≤ 240 := by
  have := tb_smB (f := fun t => pr (tb_tr (d t) (d (t + 1)))) (c := 40) (n - 1) (fun t _ => hp _)
  unfold tb_pp
  have h2 : (n - 1) * 40 ≤ 6 * 40 := Nat.mul_le_mul_right 40 (by omega)
  omega
theorem tb_tpB {n : Nat} {pr : Nat → Nat} (hp : ∀ r, pr r ≤ 40) (n7 : n ≤ 7) (d : Nat → Nat) : tb_tp n pr d ≤ 280 := by
  have := tb_smB (f := fun t => pr (tb_tr (tb_cy n d t) (tb_cy n d (t + 1)))) (c := 40) n (fun t _ => hp _)
  unfold tb_tp
  have h2 : n * 40 ≤ 7 * 40 := Nat.mul_le_mul_right 40 n7
  omega
/-- the roads for the growing set and the table -/
def tb_E (n : Nat) (pr hw : Nat → Nat) (x y e : Nat) : Prop := x < n ∧ y < n ∧ x ≠ y ∧ hw (tb_tr x y) ≠ 2 ∧ e = pr (tb_tr x y)
theorem tb_EC {n : Nat} {pr hw : Nat → Nat} {x y e : Nat} (h : tb_E n pr hw x y e) : tb_E n pr hw y x e := by
  obtain ⟨a, b, c, d, e⟩ := h
  exact ⟨b, a, fun z => c z.symm, by rw [tb_trC]; exact d, by rw [tb_trC]; exact e⟩
end TBU
