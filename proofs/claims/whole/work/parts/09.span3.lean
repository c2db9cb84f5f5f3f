section TBW
/-! the table's least roads; the two answers of span -/
theorem tb_BvX (E : Nat → Nat → Nat → Prop) (hE : ∀ a b e, E a b e → e ≤ 40) (x y : Nat) : ∃ v, tb_Bv E x y v := by
  by_cases h : ∃ e, ∃ a b, x.testBit a = true ∧ y.testBit b = true ∧ E a b e
  · obtain ⟨e, ⟨a, b, ha, hb, he⟩, hl⟩ := pk_least (fun e => ∃ a b, x.testBit a = true ∧ y.testBit b = true ∧ E a b e) h
    have h40 := hE a b e he
    refine ⟨e, by omega, fun _ => ⟨a, b, ha, hb, he⟩, fun a' b' e' ha' hb' he' => ?_⟩
    rcases Nat.lt_or_ge e' e with z | z
    · exact absurd ⟨a', b', ha', hb', he'⟩ (hl e' z)
    · exact z
  · exact ⟨9999, Nat.le_refl _, fun z => absurd z (Nat.lt_irrefl _), fun a b e ha hb he => absurd ⟨e, a, b, ha, hb, he⟩ h⟩
theorem tb_BvL {E : Nat → Nat → Nat → Prop} {x y v v' : Nat} (h : tb_Bv E x y v) (h' : tb_Bv E x y v') : v ≤ v' := by
  rcases Nat.lt_or_ge v' 9999 with z | z
  · obtain ⟨a, b, ha, hb, he⟩ := h'.2.1 z
    exact h.2.2 a b v' ha hb he
  · exact Nat.le_trans h.1 z
theorem tb_BvU {E : Nat → Nat → Nat → Prop} {x y v v' : Nat} (h : tb_Bv E x y v) (h' : tb_Bv E x y v') : v = v' := Nat.le_antisymm (tb_BvL h h') (tb_BvL h' h)
noncomputable def tb_Bw (E : Nat → Nat → Nat → Prop) (hE : ∀ a b e, E a b e → e ≤ 40) (x y : Nat) : Nat := Exists.choose (tb_BvX E hE x y)
theorem tb_BwV (E : Nat → Nat → Nat → Prop) (hE : ∀ a b e, E a b e → e ≤ 40) (x y : Nat) : tb_Bv E x y (tb_Bw E hE x y) := Exists.choose_spec (tb_BvX E hE x y)
theorem tb_full (n i : Nat) : (2 ^ n - 1).testBit i = true ↔ i < n := by
  rw [Nat.testBit_two_pow_sub_one, decide_eq_true_iff]
theorem tb_spY {E : Nat → Nat → Nat → Prop} {n v : Nat} (h : tb_Jv E (2 ^ n - 1) v) : v ≤ 9999 ∧ (v < 9999 → tb_Cn E (fun i => i < n) v) ∧ ∀ w, tb_Cn E (fun i => i < n) w → v ≤ w :=
  ⟨h.1, fun z => tb_CnE (h.2.1 z) (fun i => tb_full n i), fun w hw => h.2.2 w (tb_CnE hw (fun i => (tb_full n i).symm))⟩
/-- the growing set with its towns listed -/
def tb_XS (E : Nat → Nat → Nat → Prop) (n : Nat) (P : Nat → Prop) (k s : Nat) : Prop :=
  tb_PI E n P s ∧ P 0 ∧ ∃ l : List Nat, l.Nodup ∧ l.length = k ∧ (∀ i, i ∈ l ↔ P i) ∧ ∀ i, i ∈ l → i < n
theorem tb_XS0 {E : Nat → Nat → Nat → Prop} {n : Nat} {P : Nat → Prop} (hn : 0 < n) (hP : ∀ i, P i ↔ i = 0) : tb_XS E n P 1 0 :=
  ⟨tb_PI0 hP, (hP 0).mpr rfl, [0], List.nodup_cons.mpr ⟨List.not_mem_nil, List.nodup_nil⟩, rfl, fun i => by rw [List.mem_singleton, hP], fun i hi => by rw [List.mem_singleton.mp hi]; exact hn⟩
theorem tb_XSl {E : Nat → Nat → Nat → Prop} {n k s : Nat} {P : Nat → Prop} (h : tb_XS E n P k s) {i : Nat} (hi : P i) : i < n := by
  obtain ⟨_, _, l, _, _, h3, h4⟩ := h
  exact h4 i ((h3 i).mpr hi)
/-- one town is wanting -/
theorem tb_XSm {E : Nat → Nat → Nat → Prop} {n k s : Nat} {P : Nat → Prop} (h : tb_XS E n P k s) (hk : k < n) : ∃ t, t < n ∧ ¬ P t := by
  obtain ⟨_, _, l, h1, h2, h3, h4⟩ := h
  by_cases z : ∃ t, t < n ∧ ¬ P t
  · exact z
  · have : (List.range n).length ≤ l.length := List.Nodup.length_le_of_subset List.nodup_range (fun x hx => (h3 x).mpr (Classical.byContradiction fun w => z ⟨x, List.mem_range.mp hx, w⟩))
    rw [List.length_range] at this
    omega
theorem tb_XSs {E : Nat → Nat → Nat → Prop} {n k s b p t : Nat} {P P' : Nat → Prop} (h : tb_XS E n P k s) (hb : ∀ i j e, E i j e → (P i ∧ ¬ P j) ∨ (¬ P i ∧ P j) → b ≤ e) (hp : P p) (ht : ¬ P t) (tn : t < n) (he : E p t b) (hP : ∀ i, P' i ↔ P i ∨ i = t) : tb_XS E n P' (k + 1) (s + b) := by
  have pn := tb_XSl h hp
  obtain ⟨h0, hz, l, h1, h2, h3, h4⟩ := h
  refine ⟨tb_PIs h0 hb hp pn ht tn he hP, (hP 0).mpr (Or.inl hz), t :: l, List.nodup_cons.mpr ⟨fun z => ht ((h3 t).mp z), h1⟩, by rw [List.length_cons, h2], fun i => ?_, fun i hi => ?_⟩
  · rw [List.mem_cons, hP, h3]
    exact Or.comm
  · rcases List.mem_cons.mp hi with z | z
    · rw [z]; exact tn
    · exact h4 i z
theorem tb_XSe {E : Nat → Nat → Nat → Prop} {n s : Nat} {P : Nat → Prop} (h : tb_XS E n P n s) : tb_Cn E (fun i => i < n) s ∧ ∀ w, tb_Cn E (fun i => i < n) w → s ≤ w := by
  obtain ⟨h0, hz, l, h1, h2, h3, h4⟩ := h
  have p : (List.range n).Perm l := tb_pg l (List.range n) h1 (fun x hx => List.mem_range.mpr (h4 x hx)) (by rw [List.length_range, h2]; exact Nat.le_refl _)
  exact tb_PIe h0 (fun i => by rw [← h3 i, ← p.mem_iff, List.mem_range])
theorem tb_XSn {E : Nat → Nat → Nat → Prop} {n k s : Nat} {P : Nat → Prop} (h : tb_XS E n P k s) (hk : k < n) (hb : ∀ i j e, E i j e → ¬ ((P i ∧ ¬ P j) ∨ (¬ P i ∧ P j))) (w : Nat) : ¬ tb_Cn E (fun i => i < n) w := by
  intro c
  obtain ⟨t, tn, ht⟩ := tb_XSm h hk
  exact tb_none hb h.2.1 ht c (tb_XSl h h.2.1) tn
end TBW
