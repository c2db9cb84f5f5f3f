section TBS
/-! Sets joined at a price (tb_Cn): the cut lemma, the step of X's growing set, the inversion for Y's table -/
def tb_Cn (E : Nat → Nat → Nat → Prop) (S : Nat → Prop) (w : Nat) : Prop :=
  ∀ Q : (Nat → Prop) → Nat → Prop,
    (∀ (S : Nat → Prop) (a : Nat), (∀ i, S i ↔ i = a) → Q S 0) →
    (∀ (S X Y : Nat → Prop) (w1 w2 e x y : Nat), Q X w1 → Q Y w2 → (∀ i, S i ↔ X i ∨ Y i) → (∀ i, X i → ¬ Y i) → X x → Y y → E x y e → Q S (w1 + w2 + e)) →
    Q S w
theorem tb_Cn1 {E : Nat → Nat → Nat → Prop} {S : Nat → Prop} {a : Nat} (h : ∀ i, S i ↔ i = a) : tb_Cn E S 0 := fun _ h1 _ => h1 S a h
theorem tb_Cn2 {E : Nat → Nat → Nat → Prop} {S X Y : Nat → Prop} {w1 w2 e x y : Nat} (hX : tb_Cn E X w1) (hY : tb_Cn E Y w2) (hS : ∀ i, S i ↔ X i ∨ Y i) (hd : ∀ i, X i → ¬ Y i) (hx : X x) (hy : Y y) (he : E x y e) : tb_Cn E S (w1 + w2 + e) :=
  fun Q h1 h2 => h2 S X Y w1 w2 e x y (hX Q h1 h2) (hY Q h1 h2) hS hd hx hy he
theorem tb_CnM {E E' : Nat → Nat → Nat → Prop} (hE : ∀ i j e, E i j e → E' i j e) {S : Nat → Prop} {w : Nat} (h : tb_Cn E S w) : tb_Cn E' S w :=
  h (tb_Cn E') (fun _ _ h => tb_Cn1 h) (fun _ _ _ _ _ _ _ _ a b c d x y e => tb_Cn2 a b c d x y (hE _ _ _ e))
def tb_Sp (E : Nat → Nat → Nat → Prop) (b : Nat) (S : Nat → Prop) (w u v : Nat) : Prop :=
  ∃ (S1 S2 : Nat → Prop) (a1 a2 : Nat), tb_Cn E S1 a1 ∧ tb_Cn E S2 a2 ∧ (∀ i, S i ↔ S1 i ∨ S2 i) ∧ (∀ i, S1 i → ¬ S2 i) ∧ S1 u ∧ S2 v ∧ b + a1 + a2 ≤ w
/-- attach Y to one side of a split -/
theorem tb_cut {E : Nat → Nat → Nat → Prop} {P : Nat → Prop} {b : Nat} (hb : ∀ i j e, E i j e → (P i ∧ ¬ P j) ∨ (¬ P i ∧ P j) → b ≤ e) {S : Nat → Prop} {w : Nat} (h : tb_Cn E S w) :
    tb_Cn E S w ∧ ∀ u v, P u → ¬ P v → S u → S v → tb_Sp E b S w u v := by
  refine h (fun S w => tb_Cn E S w ∧ ∀ u v, P u → ¬ P v → S u → S v → tb_Sp E b S w u v) ?_ ?_
  · intro S a hS
    refine ⟨tb_Cn1 hS, fun u v hu hv su sv => ?_⟩
    have e1 := (hS u).mp su
    have e2 := (hS v).mp sv
    rw [e1] at hu
    rw [e2] at hv
    exact absurd hu hv
  · intro S X Y w1 w2 e x y ⟨cX, iX⟩ ⟨cY, iY⟩ hS hd hx hy he
    refine ⟨tb_Cn2 cX cY hS hd hx hy he, fun u v hu hv su sv => ?_⟩
    -- a split of X, Y attached to the side of x
    have splX : ∀ u' v', (∃ S1 S2 a1 a2, tb_Cn E S1 a1 ∧ tb_Cn E S2 a2 ∧ (∀ i, X i ↔ S1 i ∨ S2 i) ∧ (∀ i, S1 i → ¬ S2 i) ∧ S1 u' ∧ S2 v' ∧ b + a1 + a2 ≤ w1) → (u' = u ∨ (u' = x ∧ Y u)) → (v' = v ∨ (v' = x ∧ Y v)) → tb_Sp E b S (w1 + w2 + e) u v := by
      intro u' v' ⟨S1, S2, a1, a2, c1, c2, hs, hdd, h1, h2, hw⟩ hu' hv'
      have hS2 : ∀ i, S i ↔ (S1 i ∨ Y i) ∨ S2 i := fun i => by have := hS i; have := hs i; grind
      have hS3 : ∀ i, S i ↔ S1 i ∨ (S2 i ∨ Y i) := fun i => by have := hS i; have := hs i; grind
      have d1 : ∀ i, S1 i → ¬ Y i := fun i z => hd i ((hs i).mpr (Or.inl z))
      have d2 : ∀ i, S2 i → ¬ Y i := fun i z => hd i ((hs i).mpr (Or.inr z))
      rcases (hs x).mp hx with x1 | x2
      · have hv2 : S2 v := by
          rcases hv' with rfl | ⟨rfl, _⟩
          · exact h2
          · exact absurd h2 (hdd _ x1)
        refine ⟨fun i => S1 i ∨ Y i, S2, a1 + w2 + e, a2, tb_Cn2 c1 cY (fun _ => Iff.rfl) d1 x1 hy he, c2, hS2, ?_, ?_, hv2, by omega⟩
        · intro i hi h3
          rcases hi with hi | hi
          · exact hdd i hi h3
          · exact d2 i h3 hi
        · rcases hu' with rfl | ⟨_, hY⟩
          · exact Or.inl h1
          · exact Or.inr hY
      · have hu2 : S1 u := by
          rcases hu' with rfl | ⟨rfl, _⟩
          · exact h1
          · exact absurd x2 (hdd _ h1)
        refine ⟨S1, fun i => S2 i ∨ Y i, a1, a2 + w2 + e, c1, tb_Cn2 c2 cY (fun _ => Iff.rfl) d2 x2 hy he, hS3, ?_, hu2, ?_, by omega⟩
        · intro i hi h3
          rcases h3 with h3 | h3
          · exact hdd i hi h3
          · exact d1 i hi h3
        · rcases hv' with rfl | ⟨_, hY⟩
          · exact Or.inl h2
          · exact Or.inr hY
    have splY : ∀ u' v', (∃ S1 S2 a1 a2, tb_Cn E S1 a1 ∧ tb_Cn E S2 a2 ∧ (∀ i, Y i ↔ S1 i ∨ S2 i) ∧ (∀ i, S1 i → ¬ S2 i) ∧ S1 u' ∧ S2 v' ∧ b + a1 + a2 ≤ w2) → (u' = u ∨ (u' = y ∧ X u)) → (v' = v ∨ (v' = y ∧ X v)) → tb_Sp E b S (w1 + w2 + e) u v := by
      intro u' v' ⟨S1, S2, a1, a2, c1, c2, hs, hdd, h1, h2, hw⟩ hu' hv'
      have hS2 : ∀ i, S i ↔ (X i ∨ S1 i) ∨ S2 i := fun i => by have := hS i; have := hs i; grind
      have hS3 : ∀ i, S i ↔ S1 i ∨ (X i ∨ S2 i) := fun i => by have := hS i; have := hs i; grind
      have d1 : ∀ i, X i → ¬ S1 i := fun i z z1 => hd i z ((hs i).mpr (Or.inl z1))
      have d2 : ∀ i, X i → ¬ S2 i := fun i z z1 => hd i z ((hs i).mpr (Or.inr z1))
      rcases (hs y).mp hy with y1 | y2
      · have hv2 : S2 v := by
          rcases hv' with rfl | ⟨rfl, _⟩
          · exact h2
          · exact absurd h2 (hdd _ y1)
        refine ⟨fun i => X i ∨ S1 i, S2, w1 + a1 + e, a2, tb_Cn2 cX c1 (fun _ => Iff.rfl) d1 hx y1 he, c2, hS2, ?_, ?_, hv2, by omega⟩
        · intro i hi h3
          rcases hi with hi | hi
          · exact d2 i hi h3
          · exact hdd i hi h3
        · rcases hu' with rfl | ⟨_, hX⟩
          · exact Or.inr h1
          · exact Or.inl hX
      · have hu2 : S1 u := by
          rcases hu' with rfl | ⟨rfl, _⟩
          · exact h1
          · exact absurd y2 (hdd _ h1)
        refine ⟨S1, fun i => X i ∨ S2 i, a1, w1 + a2 + e, c1, tb_Cn2 cX c2 (fun _ => Iff.rfl) d2 hx y2 he, hS3, ?_, hu2, ?_, by omega⟩
        · intro i hi h3
          rcases h3 with h3 | h3
          · exact d1 i h3 hi
          · exact hdd i hi h3
        · rcases hv' with rfl | ⟨_, hX⟩
          · exact Or.inr h2
          · exact Or.inl hX
    by_cases px : P x <;> by_cases py : P y
    · -- both in P: the part that holds v splits between its end of the road and v
      rcases (hS v).mp sv with vX | vY
      · rcases (hS u).mp su with uX | uY
        · exact splX u v (iX u v hu hv uX vX) (Or.inl rfl) (Or.inl rfl)
        · exact splX x v (iX x v px hv hx vX) (Or.inr ⟨rfl, uY⟩) (Or.inl rfl)
      · rcases (hS u).mp su with uX | uY
        · exact splY y v (iY y v py hv hy vY) (Or.inr ⟨rfl, uX⟩) (Or.inl rfl)
        · exact splY u v (iY u v hu hv uY vY) (Or.inl rfl) (Or.inl rfl)
    · -- the road crosses
      have hbe := hb x y e he (Or.inl ⟨px, py⟩)
      rcases (hS v).mp sv with vX | vY <;> rcases (hS u).mp su with uX | uY
      · exact splX u v (iX u v hu hv uX vX) (Or.inl rfl) (Or.inl rfl)
      · exact ⟨Y, X, w2, w1, cY, cX, fun i => (hS i).trans Or.comm, fun i z z1 => hd i z1 z, uY, vX, by omega⟩
      · exact ⟨X, Y, w1, w2, cX, cY, hS, hd, uX, vY, by omega⟩
      · exact splY u v (iY u v hu hv uY vY) (Or.inl rfl) (Or.inl rfl)
    · have hbe := hb x y e he (Or.inr ⟨px, py⟩)
      rcases (hS v).mp sv with vX | vY <;> rcases (hS u).mp su with uX | uY
      · exact splX u v (iX u v hu hv uX vX) (Or.inl rfl) (Or.inl rfl)
      · exact ⟨Y, X, w2, w1, cY, cX, fun i => (hS i).trans Or.comm, fun i z z1 => hd i z1 z, uY, vX, by omega⟩
      · exact ⟨X, Y, w1, w2, cX, cY, hS, hd, uX, vY, by omega⟩
      · exact splY u v (iY u v hu hv uY vY) (Or.inl rfl) (Or.inl rfl)
    · -- both outside P: the part that holds u splits between u and its end of the road
      rcases (hS u).mp su with uX | uY
      · rcases (hS v).mp sv with vX | vY
        · exact splX u v (iX u v hu hv uX vX) (Or.inl rfl) (Or.inl rfl)
        · exact splX u x (iX u x hu px uX hx) (Or.inl rfl) (Or.inr ⟨rfl, vY⟩)
      · rcases (hS v).mp sv with vX | vY
        · exact splY u y (iY u y hu py uY hy) (Or.inl rfl) (Or.inr ⟨rfl, vX⟩)
        · exact splY u v (iY u v hu hv uY vY) (Or.inl rfl) (Or.inl rfl)
/-- the roads, and for nothing any two towns of P -/
def tb_Ez (E : Nat → Nat → Nat → Prop) (P : Nat → Prop) (i j e : Nat) : Prop := E i j e ∨ (e = 0 ∧ P i ∧ P j)
/-- one step of the growing set -/
theorem tb_prim {E : Nat → Nat → Nat → Prop} {P P' : Nat → Prop} {b p t : Nat} (hb : ∀ i j e, E i j e → (P i ∧ ¬ P j) ∨ (¬ P i ∧ P j) → b ≤ e) (hp : P p) (ht : ¬ P t) (hP : ∀ i, P' i ↔ P i ∨ i = t) {S : Nat → Prop} {w : Nat} (h : tb_Cn (tb_Ez E P) S w) (sp : S p) (st : S t) :
    ∃ w', b + w' ≤ w ∧ tb_Cn (tb_Ez E P') S w' := by
  have hb2 : ∀ i j e, tb_Ez E P i j e → (P i ∧ ¬ P j) ∨ (¬ P i ∧ P j) → b ≤ e := by
    intro i j e he hc
    rcases he with he | ⟨_, hi, hj⟩
    · exact hb i j e he hc
    · rcases hc with ⟨_, h2⟩ | ⟨h2, _⟩
      · exact absurd hj h2
      · exact absurd hi h2
  obtain ⟨S1, S2, a1, a2, c1, c2, hs, hd, h1, h2, hw⟩ := (tb_cut hb2 h).2 p t hp ht sp st
  have mono : ∀ i j e, tb_Ez E P i j e → tb_Ez E P' i j e := by
    intro i j e he
    rcases he with he | ⟨h0, hi, hj⟩
    · exact Or.inl he
    · exact Or.inr ⟨h0, (hP i).mpr (Or.inl hi), (hP j).mpr (Or.inl hj)⟩
  exact ⟨a1 + a2 + 0, by omega, tb_Cn2 (tb_CnM mono c1) (tb_CnM mono c2) hs hd h1 h2 (Or.inr ⟨rfl, (hP p).mpr (Or.inl hp), (hP t).mpr (Or.inr rfl)⟩)⟩
/-- no road leaves P: nothing that holds a town of P and another can be joined -/
theorem tb_none {E : Nat → Nat → Nat → Prop} {P : Nat → Prop} {p t : Nat} (hb : ∀ i j e, E i j e → ¬ ((P i ∧ ¬ P j) ∨ (¬ P i ∧ P j))) (hp : P p) (ht : ¬ P t) {S : Nat → Prop} {w : Nat} (h : tb_Cn E S w) (sp : S p) (st : S t) : False := by
  obtain ⟨S1, S2, a1, a2, c1, c2, hs, hd, h1, h2, hw⟩ := (tb_cut (b := w + 1) (fun i j e he hc => absurd hc (hb i j e he)) h).2 p t hp ht sp st
  omega
/-- how a joined set was joined -/
theorem tb_inv {E : Nat → Nat → Nat → Prop} {S : Nat → Prop} {w : Nat} (h : tb_Cn E S w) :
    (w = 0 ∧ ∃ a, ∀ i, S i ↔ i = a) ∨ ∃ (X Y : Nat → Prop) (w1 w2 e x y : Nat), tb_Cn E X w1 ∧ tb_Cn E Y w2 ∧ (∀ i, S i ↔ X i ∨ Y i) ∧ (∀ i, X i → ¬ Y i) ∧ X x ∧ Y y ∧ E x y e ∧ w = w1 + w2 + e := by
  have := h (fun S w => tb_Cn E S w ∧ ((w = 0 ∧ ∃ a, ∀ i, S i ↔ i = a) ∨ ∃ (X Y : Nat → Prop) (w1 w2 e x y : Nat), tb_Cn E X w1 ∧ tb_Cn E Y w2 ∧ (∀ i, S i ↔ X i ∨ Y i) ∧ (∀ i, X i → ¬ Y i) ∧ X x ∧ Y y ∧ E x y e ∧ w = w1 + w2 + e))
    (fun S a hS => ⟨tb_Cn1 hS, Or.inl ⟨rfl, a, hS⟩⟩)
    (fun S X Y w1 w2 e x y hX hY hS hd hx hy he => ⟨tb_Cn2 hX.1 hY.1 hS hd hx hy he, Or.inr ⟨X, Y, w1, w2, e, x, y, hX.1, hY.1, hS, hd, hx, hy, he, rfl⟩⟩)
  exact this.2
/-- a set of towns below n as a mask -/
theorem tb_msk (X : Nat → Prop) : ∀ n, ∃ x, x < 2 ^ n ∧ ∀ i, x.testBit i = true ↔ i < n ∧ X i := by
  intro n
  induction n with
  | zero => exact ⟨0, Nat.one_pos, fun i => by simp⟩
  | succ n ih =>
    obtain ⟨x, hx, h⟩ := ih
    have hn : x.testBit n = false := Nat.testBit_lt_two_pow hx
    by_cases hX : X n
    · refine ⟨2 ^ n + x, by rw [Nat.pow_succ]; omega, fun i => ?_⟩
      rcases Nat.lt_trichotomy i n with hi | hi | hi
      · rw [Nat.testBit_two_pow_add_gt hi, h i]
        constructor
        · rintro ⟨_, z⟩; exact ⟨by omega, z⟩
        · rintro ⟨_, z⟩; exact ⟨hi, z⟩
      · subst hi
        rw [Nat.testBit_two_pow_add_eq, hn]
        simp [hX]
      · have : (2 ^ n + x).testBit i = false := Nat.testBit_lt_two_pow (Nat.lt_of_lt_of_le (by rw [Nat.pow_succ]; omega : 2 ^ n + x < 2 ^ (n + 1)) (Nat.pow_le_pow_right (by omega) hi))
        rw [this]
        constructor
        · intro z; cases z
        · rintro ⟨z, _⟩; omega
    · refine ⟨x, by rw [Nat.pow_succ]; omega, fun i => ?_⟩
      rw [h i]
      constructor
      · rintro ⟨z1, z2⟩; exact ⟨by omega, z2⟩
      · rintro ⟨z1, z2⟩
        refine ⟨?_, z2⟩
        rcases Nat.lt_or_ge i n with z | z
        · exact z
        · have : i = n := by omega
          subst this
          exact absurd z2 hX
end TBS
