section TBL
/-! the best of the first k, counts -/
def tb_bs (al : Nat → Bool) (pr : Nat → Nat) : Nat → Option Nat
  | 0 => none
  | k + 1 => match tb_bs al pr k with
    | none => if al k = true then some k else none
    | some i => if al k = true ∧ pr k < pr i then some k else some i
def tb_cn (p : Nat → Bool) : Nat → Nat
  | 0 => 0
  | k + 1 => if p k = true then tb_cn p k + 1 else tb_cn p k
theorem tb_cnL (p : Nat → Bool) : ∀ k, tb_cn p k ≤ k
  | 0 => Nat.le_refl 0
  | k + 1 => by
    have := tb_cnL p k
    unfold tb_cn
    split <;> omega
theorem tb_cn0 {p : Nat → Bool} : ∀ k, (∀ i, i < k → p i = false) → tb_cn p k = 0
  | 0, _ => rfl
  | k + 1, h => by
    unfold tb_cn
    rw [if_neg (by rw [h k (by omega)]; decide)]
    exact tb_cn0 k (fun i hi => h i (by omega))
theorem tb_cnG {p q : Nat → Bool} : ∀ k, (∀ i, i < k → p i = q i) → tb_cn p k = tb_cn q k
  | 0, _ => rfl
  | k + 1, h => by
    unfold tb_cn
    rw [h k (by omega), tb_cnG k (fun i hi => h i (by omega))]
theorem tb_bsF {al : Nat → Bool} {pr : Nat → Nat} : ∀ k, (tb_bs al pr k = none → ∀ j, j < k → al j = false) ∧ (∀ i, tb_bs al pr k = some i → i < k ∧ al i = true ∧ ∀ j, j < k → al j = true → pr i ≤ pr j)
  | 0 => ⟨fun _ j hj => absurd hj (by omega), fun i h => (by cases h)⟩
  | k + 1 => by
    obtain ⟨h1, h2⟩ := tb_bsF (al := al) (pr := pr) k
    unfold tb_bs
    cases e : tb_bs al pr k with
    | none =>
      have h1 := h1 e
      simp only
      by_cases hk : al k = true
      · rw [if_pos hk]
        refine ⟨fun z => (by cases z), fun i z => ?_⟩
        cases z
        refine ⟨by omega, hk, fun j hj aj => ?_⟩
        rcases Nat.lt_or_ge j k with hj2 | hj2
        · rw [h1 j hj2] at aj
          cases aj
        · have : j = k := by omega
          rw [this]
          exact Nat.le_refl _
      · rw [if_neg hk]
        refine ⟨fun _ j hj => ?_, fun i z => (by cases z)⟩
        rcases Nat.lt_or_ge j k with hj2 | hj2
        · exact h1 j hj2
        · have : j = k := by omega
          rw [this]
          exact Bool.eq_false_iff.mpr hk
    | some i =>
      obtain ⟨a1, a2, a3⟩ := h2 i e
      simp only
      by_cases hk : al k = true ∧ pr k < pr i
      · rw [if_pos hk]
        refine ⟨fun z => (by cases z), fun i' z => ?_⟩
        cases z
        refine ⟨by omega, hk.1, fun j hj aj => ?_⟩
        rcases Nat.lt_or_ge j k with hj2 | hj2
        · have := a3 j hj2 aj
          omega
        · have : j = k := by omega
          rw [this]
          exact Nat.le_refl _
      · rw [if_neg hk]
        refine ⟨fun z => (by cases z), fun i' z => ?_⟩
        cases z
        refine ⟨by omega, a2, fun j hj aj => ?_⟩
        rcases Nat.lt_or_ge j k with hj2 | hj2
        · exact a3 j hj2 aj
        · have : j = k := by omega
          subst this
          rcases Nat.lt_or_ge (pr j) (pr i) with z | z
          · exact absurd ⟨aj, z⟩ hk
          · exact z
/-- how many of the first k allowed ones have the best price -/
def tb_ti (al : Nat → Bool) (pr : Nat → Nat) (k : Nat) : Nat :=
  match tb_bs al pr k with
  | none => 0
  | some i => tb_cn (fun j => al j && pr j == pr i) k
theorem tb_tiW {al : Nat → Bool} {pr : Nat → Nat} {k i : Nat} (h : tb_bs al pr k = some i) : tb_cn (fun j => al j && decide (pr j ≤ pr i)) k = tb_ti al pr k := by
  unfold tb_ti
  rw [h]
  apply tb_cnG
  intro j hj
  cases e : al j with
  | false => rfl
  | true =>
    have := (tb_bsF k).2 i h |>.2.2 j hj e
    simp only [Bool.true_and]
    by_cases h2 : pr j = pr i
    · rw [h2]; simp
    · have h3 : ¬ pr j ≤ pr i := by omega
      simp [h2, h3]
theorem tb_cnS (p : Nat → Bool) (k : Nat) : tb_cn p (k + 1) = if p k = true then tb_cn p k + 1 else tb_cn p k := rfl
theorem tb_cnT {p : Nat → Bool} {k : Nat} (h : p k = true) : tb_cn p (k + 1) = tb_cn p k + 1 := by rw [tb_cnS, if_pos h]
theorem tb_cnF {p : Nat → Bool} {k : Nat} (h : p k = false) : tb_cn p (k + 1) = tb_cn p k := by rw [tb_cnS, if_neg (by rw [h]; decide)]
theorem tb_bsN {al : Nat → Bool} {pr : Nat → Nat} {k : Nat} (h : tb_bs al pr k = none) : tb_bs al pr (k + 1) = if al k = true then some k else none := by
  simp only [tb_bs, h]
theorem tb_bsS {al : Nat → Bool} {pr : Nat → Nat} {k i : Nat} (h : tb_bs al pr k = some i) : tb_bs al pr (k + 1) = if al k = true ∧ pr k < pr i then some k else some i := by
  simp only [tb_bs, h]
theorem tb_bs0 {al : Nat → Bool} {pr : Nat → Nat} {k : Nat} (h : al k = false) : tb_bs al pr (k + 1) = tb_bs al pr k := by
  cases e : tb_bs al pr k with
  | none => rw [tb_bsN e, if_neg (by rw [h]; decide)]
  | some i => rw [tb_bsS e, if_neg (by rw [h]; intro z; exact absurd z.1 (by decide))]
theorem tb_tiV {al : Nat → Bool} {pr : Nat → Nat} {k i : Nat} (h : tb_bs al pr k = some i) : tb_ti al pr k = tb_cn (fun j => al j && pr j == pr i) k := by
  unfold tb_ti
  rw [h]
theorem tb_tiZ {al : Nat → Bool} {pr : Nat → Nat} {k : Nat} (h : tb_bs al pr k = none) : tb_ti al pr k = 0 := by
  unfold tb_ti
  rw [h]
theorem tb_tiN {al : Nat → Bool} {pr : Nat → Nat} {k : Nat} (h : tb_bs al pr k = none) (ha : al k = true) : tb_ti al pr (k + 1) = 1 := by
  have e := tb_bsN h
  rw [if_pos ha] at e
  rw [tb_tiV e, tb_cnT (by simp [ha]), tb_cn0 k (fun i hi => by simp [(tb_bsF k).1 h i hi])]
theorem tb_tiL {al : Nat → Bool} {pr : Nat → Nat} {k i : Nat} (h : tb_bs al pr k = some i) (ha : al k = true) (hl : pr k < pr i) : tb_ti al pr (k + 1) = 1 := by
  have e := tb_bsS h
  rw [if_pos ⟨ha, hl⟩] at e
  rw [tb_tiV e, tb_cnT (by simp [ha]), tb_cn0 k (fun j hj => by
    cases z : al j with
    | false => rfl
    | true =>
      have := ((tb_bsF k).2 i h).2.2 j hj z
      have : pr j ≠ pr k := by omega
      simp [this])]
theorem tb_tiE {al : Nat → Bool} {pr : Nat → Nat} {k i : Nat} (h : tb_bs al pr k = some i) (ha : al k = true) (hl : pr k = pr i) : tb_ti al pr (k + 1) = tb_ti al pr k + 1 := by
  have e := tb_bsS h
  rw [if_neg (by omega)] at e
  rw [tb_tiV e, tb_tiV h, tb_cnT (by simp [ha, hl])]
theorem tb_tiG {al : Nat → Bool} {pr : Nat → Nat} {k i : Nat} (h : tb_bs al pr k = some i) (hl : pr i < pr k) : tb_ti al pr (k + 1) = tb_ti al pr k := by
  have e := tb_bsS h
  rw [if_neg (by omega)] at e
  have : pr k ≠ pr i := by omega
  rw [tb_tiV e, tb_tiV h, tb_cnF (by simp [this])]
theorem tb_tiF {al : Nat → Bool} {pr : Nat → Nat} {k : Nat} (ha : al k = false) : tb_ti al pr (k + 1) = tb_ti al pr k := by
  have e := tb_bs0 (pr := pr) ha
  cases h : tb_bs al pr k with
  | none => rw [tb_tiZ (e.trans h), tb_tiZ h]
  | some i => rw [tb_tiV (e.trans h), tb_tiV h, tb_cnF (by simp [ha])]

/-! the least of a set -/
def tb_Mn (S : Nat → Prop) : Option Nat → Prop
  | none => ∀ w, ¬ S w
  | some v => S v ∧ ∀ w, S w → v ≤ w
theorem tb_MnU {S S' : Nat → Prop} (e : ∀ w, S w ↔ S' w) : ∀ {r r' : Option Nat}, tb_Mn S r → tb_Mn S' r' → r = r'
  | none, none, _, _ => rfl
  | none, some v, h, h' => absurd ((e v).mpr h'.1) (h v)
  | some v, none, h, h' => absurd ((e v).mp h.1) (h' v)
  | some v, some w, h, h' => by
    have h1 := h.2 w ((e w).mpr h'.1)
    have h2 := h'.2 v ((e v).mp h.1)
    rw [Nat.le_antisymm h1 h2]
def tb_mi : Option Nat → Option Nat → Option Nat
  | none, q => q
  | some v, none => some v
  | some v, some w => if w < v then some w else some v
theorem tb_MnM {S T S' : Nat → Prop} (e : ∀ w, S' w ↔ S w ∨ T w) : ∀ {r q : Option Nat}, tb_Mn S r → tb_Mn T q → tb_Mn S' (tb_mi r q)
  | none, none, h, h' => fun w z => by
    rcases (e w).mp z with z | z
    · exact h w z
    · exact h' w z
  | none, some v, h, h' => ⟨(e v).mpr (Or.inr h'.1), fun w z => by
    rcases (e w).mp z with z | z
    · exact absurd z (h w)
    · exact h'.2 w z⟩
  | some v, none, h, h' => ⟨(e v).mpr (Or.inl h.1), fun w z => by
    rcases (e w).mp z with z | z
    · exact h.2 w z
    · exact absurd z (h' w)⟩
  | some v, some x, h, h' => by
    show tb_Mn S' (if x < v then some x else some v)
    by_cases c : x < v
    · rw [if_pos c]
      refine ⟨(e x).mpr (Or.inr h'.1), fun w z => ?_⟩
      rcases (e w).mp z with z | z
      · have := h.2 w z
        omega
      · exact h'.2 w z
    · rw [if_neg c]
      refine ⟨(e v).mpr (Or.inl h.1), fun w z => ?_⟩
      rcases (e w).mp z with z | z
      · exact h.2 w z
      · have := h'.2 w z
        omega
theorem tb_MnE {S S' : Nat → Prop} (e : ∀ w, S w ↔ S' w) {r : Option Nat} (h : tb_Mn S r) : tb_Mn S' r := by
  have : S = S' := funext fun w => propext (e w)
  rw [← this]
  exact h
end TBL
