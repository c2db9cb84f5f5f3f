section TBT
/-! The growing set and the table, both against tb_Cn -/
theorem tb_CnE {E : Nat → Nat → Nat → Prop} {S S' : Nat → Prop} {w : Nat} (h : tb_Cn E S w) (hs : ∀ i, S i ↔ S' i) : tb_Cn E S' w := by
  have e : S = S' := funext fun i => propext (hs i)
  rw [← e]
  exact h
/-- the growing set P, joined at price s -/
def tb_PI (E : Nat → Nat → Nat → Prop) (n : Nat) (P : Nat → Prop) (s : Nat) : Prop :=
  tb_Cn E P s ∧ ∀ w, tb_Cn E (fun i => i < n) w → ∃ w', s + w' ≤ w ∧ tb_Cn (tb_Ez E P) (fun i => i < n) w'
theorem tb_PI0 {E : Nat → Nat → Nat → Prop} {n : Nat} {P : Nat → Prop} (hP : ∀ i, P i ↔ i = 0) : tb_PI E n P 0 :=
  ⟨tb_Cn1 hP, fun w h => ⟨w, by omega, tb_CnM (fun _ _ _ z => Or.inl z) h⟩⟩
theorem tb_PIs {E : Nat → Nat → Nat → Prop} {n : Nat} {P P' : Nat → Prop} {s b p t : Nat} (h : tb_PI E n P s) (hb : ∀ i j e, E i j e → (P i ∧ ¬ P j) ∨ (¬ P i ∧ P j) → b ≤ e) (hp : P p) (pn : p < n) (ht : ¬ P t) (tn : t < n) (he : E p t b) (hP : ∀ i, P' i ↔ P i ∨ i = t) : tb_PI E n P' (s + b) := by
  refine ⟨?_, fun w hw => ?_⟩
  · exact tb_Cn2 (Y := fun i => i = t) h.1 (tb_Cn1 (fun _ => Iff.rfl)) hP (fun i hi z => ht (z ▸ hi)) hp rfl he
  · obtain ⟨w1, h1, c1⟩ := h.2 w hw
    obtain ⟨w2, h2, c2⟩ := tb_prim hb hp ht hP c1 pn tn
    exact ⟨w2, by omega, c2⟩
theorem tb_PIe {E : Nat → Nat → Nat → Prop} {n : Nat} {P : Nat → Prop} {s : Nat} (h : tb_PI E n P s) (hP : ∀ i, P i ↔ i < n) : tb_Cn E (fun i => i < n) s ∧ ∀ w, tb_Cn E (fun i => i < n) w → s ≤ w :=
  ⟨tb_CnE h.1 hP, fun w hw => by
    obtain ⟨w', h1, _⟩ := h.2 w hw
    omega⟩

/-! masks -/
theorem tb_subL {x s : Nat} (h : ∀ i, x.testBit i = true → s.testBit i = true) : x ≤ s := by
  have e : x &&& s = x := by
    apply Nat.eq_of_testBit_eq
    intro i
    rw [Nat.testBit_and]
    have := h i
    cases h1 : x.testBit i
    · rfl
    · rw [this h1]; rfl
  rw [← e]
  exact Nat.and_le_right
theorem tb_subB : ∀ (i x s : Nat), (∀ i, x.testBit i = true → s.testBit i = true) → (s - x).testBit i = (s.testBit i && !x.testBit i) := by
  intro i
  induction i with
  | zero =>
    intro x s h
    have hl := tb_subL h
    have h0 := h 0
    rw [Nat.testBit_zero, Nat.testBit_zero, decide_eq_true_iff, decide_eq_true_iff] at h0
    rw [Nat.testBit_zero, Nat.testBit_zero, Nat.testBit_zero, Bool.eq_iff_iff]
    rw [Bool.and_eq_true, Bool.not_eq_true', decide_eq_true_iff, decide_eq_true_iff, decide_eq_false_iff_not]
    omega
  | succ i ih =>
    intro x s h
    have hl := tb_subL h
    have h0 := h 0
    rw [Nat.testBit_zero, Nat.testBit_zero, decide_eq_true_iff, decide_eq_true_iff] at h0
    have e : (s - x) / 2 = s / 2 - x / 2 := by omega
    rw [Nat.testBit_add_one, Nat.testBit_add_one, Nat.testBit_add_one, e]
    exact ih (x / 2) (s / 2) (fun j hj => by
      have := h (j + 1)
      rw [Nat.testBit_add_one, Nat.testBit_add_one] at this
      exact this hj)
/-- what is known of the table's value v at the mask s -/
def tb_Jv (E : Nat → Nat → Nat → Prop) (s v : Nat) : Prop :=
  v ≤ 9999 ∧ (v < 9999 → tb_Cn E (fun i => s.testBit i = true) v) ∧ ∀ w, tb_Cn E (fun i => s.testBit i = true) w → v ≤ w
/-- what is known of the least road between two masks -/
def tb_Bv (E : Nat → Nat → Nat → Prop) (x y v : Nat) : Prop :=
  v ≤ 9999 ∧ (v < 9999 → ∃ a b, x.testBit a = true ∧ y.testBit b = true ∧ E a b v) ∧ ∀ a b e, x.testBit a = true → y.testBit b = true → E a b e → v ≤ e
/-- the value so far at s, the masks below x tried -/
def tb_Jx (E : Nat → Nat → Nat → Prop) (J : Nat → Nat) (B : Nat → Nat → Nat) (s x v : Nat) : Prop :=
  v ≤ 9999 ∧ (v < 9999 → tb_Cn E (fun i => s.testBit i = true) v) ∧ ((∃ a, s = 2 ^ a) → v = 0) ∧
  ∀ x', 0 < x' → x' < x → (∀ i, x'.testBit i = true → s.testBit i = true) → s - x' ≤ x' → v ≤ J x' + J (s - x') + B x' (s - x')
theorem tb_Jx0 {E : Nat → Nat → Nat → Prop} {J : Nat → Nat} {B : Nat → Nat → Nat} {s v : Nat} (h : (∃ a, s = 2 ^ a) ∧ v = 0 ∨ (¬ ∃ a, s = 2 ^ a) ∧ v = 9999) : tb_Jx E J B s 1 v := by
  rcases h with ⟨⟨a, rfl⟩, rfl⟩ | ⟨h1, rfl⟩
  · refine ⟨by omega, fun _ => tb_Cn1 (a := a) (fun i => ?_), fun _ => rfl, fun x' h1 h2 => by omega⟩
    rw [Nat.testBit_two_pow, decide_eq_true_iff]
    exact eq_comm
  · exact ⟨by omega, fun z => absurd z (by omega), fun z => absurd z h1, fun x' h1 h2 => by omega⟩
/-- a mask that isn't tried -/
theorem tb_JxN {E : Nat → Nat → Nat → Prop} {J : Nat → Nat} {B : Nat → Nat → Nat} {s x v : Nat} (h : tb_Jx E J B s x v) (hx : (∀ i, x.testBit i = true → s.testBit i = true) → s - x ≤ x → v ≤ J x + J (s - x) + B x (s - x)) : tb_Jx E J B s (x + 1) v := by
  obtain ⟨h1, h2, h3, h4⟩ := h
  refine ⟨h1, h2, h3, fun x' a b c d => ?_⟩
  rcases Nat.lt_or_ge x' x with z | z
  · exact h4 x' a z c d
  · have : x' = x := by omega
    subst this
    exact hx c d
/-- a mask that betters the value -/
theorem tb_JxY {E : Nat → Nat → Nat → Prop} {J : Nat → Nat} {B : Nat → Nat → Nat} {s x v : Nat} (h : tb_Jx E J B s x v) (x0 : 0 < x) (xs : x < s) (hsub : ∀ i, x.testBit i = true → s.testBit i = true) (j1 : tb_Jv E x (J x)) (j2 : tb_Jv E (s - x) (J (s - x))) (hB : tb_Bv E x (s - x) (B x (s - x))) (hv : J x + J (s - x) + B x (s - x) < v) : tb_Jx E J B s (x + 1) (J x + J (s - x) + B x (s - x)) := by
  obtain ⟨h1, h2, h3, h4⟩ := h
  have hs : ∀ i, s.testBit i = true ↔ x.testBit i = true ∨ (s - x).testBit i = true := by
    intro i
    rw [tb_subB i x s hsub]
    have := hsub i
    cases e1 : x.testBit i <;> cases e2 : s.testBit i <;> simp_all
  have hd : ∀ i, x.testBit i = true → ¬ (s - x).testBit i = true := by
    intro i hi
    rw [tb_subB i x s hsub, hi]
    simp
  have hC : tb_Cn E (fun i => s.testBit i = true) (J x + J (s - x) + B x (s - x)) := by
    obtain ⟨a, b, ha, hb, he⟩ := hB.2.1 (by omega)
    exact tb_Cn2 (j1.2.1 (by omega)) (j2.2.1 (by omega)) hs hd ha hb he
  refine ⟨by omega, fun _ => hC, fun z => ?_, fun x' a b c d => ?_⟩
  · have := h3 z
    omega
  · rcases Nat.lt_or_ge x' x with z | z
    · have := h4 x' a z c d
      omega
    · have : x' = x := by omega
      subst this
      exact Nat.le_refl _
/-- all masks tried: the value is right -/
theorem tb_JxE {E : Nat → Nat → Nat → Prop} (hE : ∀ i j e, E i j e → E j i e) {J : Nat → Nat} {B : Nat → Nat → Nat} {n s v : Nat} (sn : s < 2 ^ n) (h : tb_Jx E J B s s v) (hJ : ∀ s', 0 < s' → s' < s → tb_Jv E s' (J s')) (hB : ∀ x y, tb_Bv E x y (B x y)) : tb_Jv E s v := by
  obtain ⟨h1, h2, h3, h4⟩ := h
  refine ⟨h1, h2, fun w hw => ?_⟩
  rcases tb_inv hw with ⟨rfl, a, ha⟩ | ⟨X, Y, w1, w2, e, p, q, cX, cY, hS, hd, hp, hq, he, rfl⟩
  · have : s = 2 ^ a := by
      apply Nat.eq_of_testBit_eq
      intro i
      rw [Nat.testBit_two_pow, Bool.eq_iff_iff, decide_eq_true_iff]
      exact (ha i).trans eq_comm
    have := h3 ⟨a, this⟩
    omega
  · obtain ⟨x, xn, hx⟩ := tb_msk X n
    have inn : ∀ i, s.testBit i = true → i < n := by
      intro i hi
      rcases Nat.lt_or_ge i n with z | z
      · exact z
      · rw [Nat.testBit_lt_two_pow (Nat.lt_of_lt_of_le sn (Nat.pow_le_pow_right (by omega) z))] at hi
        cases hi
    have hx2 : ∀ i, x.testBit i = true ↔ X i := fun i => (hx i).trans ⟨fun z => z.2, fun z => ⟨inn i ((hS i).mpr (Or.inl z)), z⟩⟩
    have sub1 : ∀ i, x.testBit i = true → s.testBit i = true := fun i z => (hS i).mpr (Or.inl ((hx2 i).mp z))
    have hy2 : ∀ i, (s - x).testBit i = true ↔ Y i := by
      intro i
      rw [tb_subB i x s sub1, Bool.and_eq_true, Bool.not_eq_true']
      have a1 := hS i
      have a2 := hx2 i
      have a3 := hd i
      constructor
      · rintro ⟨z1, z2⟩
        rcases a1.mp z1 with z | z
        · rw [a2.mpr z] at z2; cases z2
        · exact z
      · intro z
        refine ⟨a1.mpr (Or.inr z), ?_⟩
        cases e1 : x.testBit i
        · rfl
        · exact absurd z (a3 (a2.mp e1))
    have hle := tb_subL sub1
    have x0 : 0 < x := by
      rcases Nat.eq_zero_or_pos x with z | z
      · have := (hx2 p).mpr hp
        rw [z, Nat.zero_testBit] at this
        cases this
      · exact z
    have y0 : 0 < s - x := by
      rcases Nat.eq_zero_or_pos (s - x) with z | z
      · have := (hy2 q).mpr hq
        rw [z, Nat.zero_testBit] at this
        cases this
      · exact z
    have jx := (hJ x x0 (by omega)).2.2 w1 (tb_CnE cX (fun i => (hx2 i).symm))
    have jy := (hJ (s - x) y0 (by omega)).2.2 w2 (tb_CnE cY (fun i => (hy2 i).symm))
    have b1 := (hB x (s - x)).2.2 p q e ((hx2 p).mpr hp) ((hy2 q).mpr hq) he
    have b2 := (hB (s - x) x).2.2 q p e ((hy2 q).mpr hq) ((hx2 p).mpr hp) (hE p q e he)
    rcases Nat.le_total (s - x) x with z | z
    · have := h4 x x0 (by omega) sub1 z
      omega
    · have sub2 : ∀ i, (s - x).testBit i = true → s.testBit i = true := fun i z => (hS i).mpr (Or.inr ((hy2 i).mp z))
      have e3 : s - (s - x) = x := by omega
      have := h4 (s - x) y0 (by omega) sub2 (by omega)
      rw [e3] at this
      omega
end TBT
